section
-- ===== PART A: goes FIRST, ahead of the names: the tables' words, and 'selects' of the private methods out of them =====
/-- a private method of a class that the tables say can be made, by its rows of tables_1 -/
def lw_okq (q : MethodName × Nat) : Prop := (q.1.cls ≠ "java/lang/invoke/MethodHandle" ∧ q.1.cls ≠ "java/lang/invoke/VarHandle") ∧ Cond.instantiable q.1.cls q.2 ∈ tables_1 ∧ Cond.privateMethod q.1 ∈ tables_1 ∧ Cond.instanceMethod q.1 ∈ tables_1
theorem lw_p0 : lw_okq (⟨"TakeDesk", "refuse", "(I)I"⟩, 9) := ⟨⟨by decide +kernel, by decide +kernel⟩, List.mem_of_getElem? (i := 13) (by decide +kernel), List.mem_of_getElem? (i := 312) (by decide +kernel), List.mem_of_getElem? (i := 313) (by decide +kernel)⟩
theorem lw_p1 : lw_okq (⟨"TakeDesk", "changeTake", "(I)V"⟩, 9) := ⟨⟨by decide +kernel, by decide +kernel⟩, List.mem_of_getElem? (i := 13) (by decide +kernel), List.mem_of_getElem? (i := 339) (by decide +kernel), List.mem_of_getElem? (i := 340) (by decide +kernel)⟩
theorem lw_p2 : lw_okq (⟨"TakeDesk", "askTake", "(I)I"⟩, 9) := ⟨⟨by decide +kernel, by decide +kernel⟩, List.mem_of_getElem? (i := 13) (by decide +kernel), List.mem_of_getElem? (i := 362) (by decide +kernel), List.mem_of_getElem? (i := 363) (by decide +kernel)⟩
theorem lw_p3 : lw_okq (⟨"TakeDesk", "askPair", "(II)I"⟩, 9) := ⟨⟨by decide +kernel, by decide +kernel⟩, List.mem_of_getElem? (i := 13) (by decide +kernel), List.mem_of_getElem? (i := 390) (by decide +kernel), List.mem_of_getElem? (i := 391) (by decide +kernel)⟩
theorem lw_p4 : lw_okq (⟨"TakeDesk", "askTakeBeat", "(II)I"⟩, 9) := ⟨⟨by decide +kernel, by decide +kernel⟩, List.mem_of_getElem? (i := 13) (by decide +kernel), List.mem_of_getElem? (i := 434) (by decide +kernel), List.mem_of_getElem? (i := 435) (by decide +kernel)⟩
theorem lw_p5 : lw_okq (⟨"TakeDesk$Layer", "sumUp", "(LTakeDesk$Take;LTakeDesk$Score;III)V"⟩, 3) := ⟨⟨by decide +kernel, by decide +kernel⟩, List.mem_of_getElem? (i := 156) (by decide +kernel), List.mem_of_getElem? (i := 453) (by decide +kernel), List.mem_of_getElem? (i := 454) (by decide +kernel)⟩
theorem lw_p6 : lw_okq (⟨"TakeDesk$Layer", "leastRest", "(IIII)I"⟩, 3) := ⟨⟨by decide +kernel, by decide +kernel⟩, List.mem_of_getElem? (i := 156) (by decide +kernel), List.mem_of_getElem? (i := 457) (by decide +kernel), List.mem_of_getElem? (i := 458) (by decide +kernel)⟩
theorem lw_p7 : lw_okq (⟨"TakeDesk$Layer", "leastStart", "(II)I"⟩, 3) := ⟨⟨by decide +kernel, by decide +kernel⟩, List.mem_of_getElem? (i := 156) (by decide +kernel), List.mem_of_getElem? (i := 464) (by decide +kernel), List.mem_of_getElem? (i := 465) (by decide +kernel)⟩
theorem lw_p8 : lw_okq (⟨"TakeDesk$Layer", "write", "(LTakeDesk$Take;LTakeDesk$Score;I)V"⟩, 3) := ⟨⟨by decide +kernel, by decide +kernel⟩, List.mem_of_getElem? (i := 156) (by decide +kernel), List.mem_of_getElem? (i := 468) (by decide +kernel), List.mem_of_getElem? (i := 469) (by decide +kernel)⟩
theorem lw_p9 : lw_okq (⟨"TakeDesk", "isSetting", "(II)Z"⟩, 9) := ⟨⟨by decide +kernel, by decide +kernel⟩, List.mem_of_getElem? (i := 13) (by decide +kernel), List.mem_of_getElem? (i := 504) (by decide +kernel), List.mem_of_getElem? (i := 505) (by decide +kernel)⟩
theorem lw_p10 : lw_okq (⟨"TakeDesk", "setting", "(I)I"⟩, 9) := ⟨⟨by decide +kernel, by decide +kernel⟩, List.mem_of_getElem? (i := 13) (by decide +kernel), List.mem_of_getElem? (i := 508) (by decide +kernel), List.mem_of_getElem? (i := 509) (by decide +kernel)⟩
theorem lw_p11 : lw_okq (⟨"TakeDesk", "askJoin", "(III)I"⟩, 9) := ⟨⟨by decide +kernel, by decide +kernel⟩, List.mem_of_getElem? (i := 13) (by decide +kernel), List.mem_of_getElem? (i := 520) (by decide +kernel), List.mem_of_getElem? (i := 521) (by decide +kernel)⟩
theorem lw_p12 : lw_okq (⟨"TakeDesk$Joiner", "squaresOf", "([I)I"⟩, 8) := ⟨⟨by decide +kernel, by decide +kernel⟩, List.mem_of_getElem? (i := 119) (by decide +kernel), List.mem_of_getElem? (i := 539) (by decide +kernel), List.mem_of_getElem? (i := 540) (by decide +kernel)⟩
theorem lw_p13 : lw_okq (⟨"TakeDesk$Joiner", "liken", "(II)I"⟩, 8) := ⟨⟨by decide +kernel, by decide +kernel⟩, List.mem_of_getElem? (i := 119) (by decide +kernel), List.mem_of_getElem? (i := 543) (by decide +kernel), List.mem_of_getElem? (i := 544) (by decide +kernel)⟩
theorem lw_p14 : lw_okq (⟨"TakeDesk$Joiner", "measure", "(III)V"⟩, 8) := ⟨⟨by decide +kernel, by decide +kernel⟩, List.mem_of_getElem? (i := 119) (by decide +kernel), List.mem_of_getElem? (i := 555) (by decide +kernel), List.mem_of_getElem? (i := 556) (by decide +kernel)⟩
theorem lw_p15 : lw_okq (⟨"TakeDesk$Finder", "fillCells", "(III)V"⟩, 8) := ⟨⟨by decide +kernel, by decide +kernel⟩, List.mem_of_getElem? (i := 172) (by decide +kernel), List.mem_of_getElem? (i := 593) (by decide +kernel), List.mem_of_getElem? (i := 594) (by decide +kernel)⟩
def lw_privs_1 : List (MethodName × Nat) := [(⟨"TakeDesk", "refuse", "(I)I"⟩, 9), (⟨"TakeDesk", "changeTake", "(I)V"⟩, 9), (⟨"TakeDesk", "askTake", "(I)I"⟩, 9), (⟨"TakeDesk", "askPair", "(II)I"⟩, 9), (⟨"TakeDesk", "askTakeBeat", "(II)I"⟩, 9), (⟨"TakeDesk$Layer", "sumUp", "(LTakeDesk$Take;LTakeDesk$Score;III)V"⟩, 3), (⟨"TakeDesk$Layer", "leastRest", "(IIII)I"⟩, 3), (⟨"TakeDesk$Layer", "leastStart", "(II)I"⟩, 3), (⟨"TakeDesk$Layer", "write", "(LTakeDesk$Take;LTakeDesk$Score;I)V"⟩, 3), (⟨"TakeDesk", "isSetting", "(II)Z"⟩, 9), (⟨"TakeDesk", "setting", "(I)I"⟩, 9), (⟨"TakeDesk", "askJoin", "(III)I"⟩, 9), (⟨"TakeDesk$Joiner", "squaresOf", "([I)I"⟩, 8), (⟨"TakeDesk$Joiner", "liken", "(II)I"⟩, 8), (⟨"TakeDesk$Joiner", "measure", "(III)V"⟩, 8), (⟨"TakeDesk$Finder", "fillCells", "(III)V"⟩, 8)]
theorem lw_r1 : ∀ q ∈ lw_privs_1, lw_okq q := List.forall_mem_cons.mpr ⟨lw_p0, List.forall_mem_cons.mpr ⟨lw_p1, List.forall_mem_cons.mpr ⟨lw_p2, List.forall_mem_cons.mpr ⟨lw_p3, List.forall_mem_cons.mpr ⟨lw_p4, List.forall_mem_cons.mpr ⟨lw_p5, List.forall_mem_cons.mpr ⟨lw_p6, List.forall_mem_cons.mpr ⟨lw_p7, List.forall_mem_cons.mpr ⟨lw_p8, List.forall_mem_cons.mpr ⟨lw_p9, List.forall_mem_cons.mpr ⟨lw_p10, List.forall_mem_cons.mpr ⟨lw_p11, List.forall_mem_cons.mpr ⟨lw_p12, List.forall_mem_cons.mpr ⟨lw_p13, List.forall_mem_cons.mpr ⟨lw_p14, List.forall_mem_cons.mpr ⟨lw_p15, fun _ h => absurd h List.not_mem_nil⟩⟩⟩⟩⟩⟩⟩⟩⟩⟩⟩⟩⟩⟩⟩⟩
theorem lw_p16 : lw_okq (⟨"TakeDesk$Finder", "gainOf", "(II)I"⟩, 8) := ⟨⟨by decide +kernel, by decide +kernel⟩, List.mem_of_getElem? (i := 172) (by decide +kernel), List.mem_of_getElem? (i := 602) (by decide +kernel), List.mem_of_getElem? (i := 603) (by decide +kernel)⟩
theorem lw_p17 : lw_okq (⟨"TakeDesk$Finder", "weighSteps", "(II)V"⟩, 8) := ⟨⟨by decide +kernel, by decide +kernel⟩, List.mem_of_getElem? (i := 172) (by decide +kernel), List.mem_of_getElem? (i := 607) (by decide +kernel), List.mem_of_getElem? (i := 608) (by decide +kernel)⟩
theorem lw_p18 : lw_okq (⟨"TakeDesk$Finder", "merge", "(IIII)V"⟩, 8) := ⟨⟨by decide +kernel, by decide +kernel⟩, List.mem_of_getElem? (i := 172) (by decide +kernel), List.mem_of_getElem? (i := 612) (by decide +kernel), List.mem_of_getElem? (i := 613) (by decide +kernel)⟩
theorem lw_p19 : lw_okq (⟨"TakeDesk$Finder", "nextInOrder", "(II)I"⟩, 8) := ⟨⟨by decide +kernel, by decide +kernel⟩, List.mem_of_getElem? (i := 172) (by decide +kernel), List.mem_of_getElem? (i := 617) (by decide +kernel), List.mem_of_getElem? (i := 618) (by decide +kernel)⟩
theorem lw_p20 : lw_okq (⟨"TakeDesk$Finder", "trace", "(I)I"⟩, 8) := ⟨⟨by decide +kernel, by decide +kernel⟩, List.mem_of_getElem? (i := 172) (by decide +kernel), List.mem_of_getElem? (i := 621) (by decide +kernel), List.mem_of_getElem? (i := 622) (by decide +kernel)⟩
theorem lw_p21 : lw_okq (⟨"TakeDesk", "adopt", "(I)I"⟩, 9) := ⟨⟨by decide +kernel, by decide +kernel⟩, List.mem_of_getElem? (i := 13) (by decide +kernel), List.mem_of_getElem? (i := 625) (by decide +kernel), List.mem_of_getElem? (i := 626) (by decide +kernel)⟩
theorem lw_p22 : lw_okq (⟨"TakeDesk$Playing", "addStretch", "(IIZ)V"⟩, 8) := ⟨⟨by decide +kernel, by decide +kernel⟩, List.mem_of_getElem? (i := 204) (by decide +kernel), List.mem_of_getElem? (i := 634) (by decide +kernel), List.mem_of_getElem? (i := 635) (by decide +kernel)⟩
theorem lw_p23 : lw_okq (⟨"TakeDesk$Finder", "offerSteps", "(III)V"⟩, 8) := ⟨⟨by decide +kernel, by decide +kernel⟩, List.mem_of_getElem? (i := 172) (by decide +kernel), List.mem_of_getElem? (i := 660) (by decide +kernel), List.mem_of_getElem? (i := 661) (by decide +kernel)⟩
theorem lw_p24 : lw_okq (⟨"TakeDesk$Finder", "offer", "(III)V"⟩, 8) := ⟨⟨by decide +kernel, by decide +kernel⟩, List.mem_of_getElem? (i := 172) (by decide +kernel), List.mem_of_getElem? (i := 664) (by decide +kernel), List.mem_of_getElem? (i := 665) (by decide +kernel)⟩
theorem lw_p25 : lw_okq (⟨"TakeDesk", "mayStand", "(I)Z"⟩, 9) := ⟨⟨by decide +kernel, by decide +kernel⟩, List.mem_of_getElem? (i := 13) (by decide +kernel), List.mem_of_getElem? (i := 720) (by decide +kernel), List.mem_of_getElem? (i := 721) (by decide +kernel)⟩
theorem lw_p26 : lw_okq (⟨"TakeDeskModel", "begin", "()V"⟩, 42) := ⟨⟨by decide +kernel, by decide +kernel⟩, List.mem_of_getElem? (i := 729) (by decide +kernel), List.mem_of_getElem? (i := 735) (by decide +kernel), List.mem_of_getElem? (i := 736) (by decide +kernel)⟩
theorem lw_p27 : lw_okq (⟨"TakeDeskModel", "layNone", "()V"⟩, 42) := ⟨⟨by decide +kernel, by decide +kernel⟩, List.mem_of_getElem? (i := 729) (by decide +kernel), List.mem_of_getElem? (i := 739) (by decide +kernel), List.mem_of_getElem? (i := 740) (by decide +kernel)⟩
theorem lw_p28 : lw_okq (⟨"TakeDeskModel", "answer", "(I)I"⟩, 42) := ⟨⟨by decide +kernel, by decide +kernel⟩, List.mem_of_getElem? (i := 729) (by decide +kernel), List.mem_of_getElem? (i := 878) (by decide +kernel), List.mem_of_getElem? (i := 879) (by decide +kernel)⟩
theorem lw_p29 : lw_okq (⟨"TakeDeskModel", "isPart", "(I)Z"⟩, 42) := ⟨⟨by decide +kernel, by decide +kernel⟩, List.mem_of_getElem? (i := 729) (by decide +kernel), List.mem_of_getElem? (i := 884) (by decide +kernel), List.mem_of_getElem? (i := 885) (by decide +kernel)⟩
theorem lw_p30 : lw_okq (⟨"TakeDeskModel", "isBeat", "(I)Z"⟩, 42) := ⟨⟨by decide +kernel, by decide +kernel⟩, List.mem_of_getElem? (i := 729) (by decide +kernel), List.mem_of_getElem? (i := 892) (by decide +kernel), List.mem_of_getElem? (i := 893) (by decide +kernel)⟩
theorem lw_p31 : lw_okq (⟨"TakeDeskModel", "changed", "(I)V"⟩, 42) := ⟨⟨by decide +kernel, by decide +kernel⟩, List.mem_of_getElem? (i := 729) (by decide +kernel), List.mem_of_getElem? (i := 903) (by decide +kernel), List.mem_of_getElem? (i := 904) (by decide +kernel)⟩
def lw_privs_2 : List (MethodName × Nat) := [(⟨"TakeDesk$Finder", "gainOf", "(II)I"⟩, 8), (⟨"TakeDesk$Finder", "weighSteps", "(II)V"⟩, 8), (⟨"TakeDesk$Finder", "merge", "(IIII)V"⟩, 8), (⟨"TakeDesk$Finder", "nextInOrder", "(II)I"⟩, 8), (⟨"TakeDesk$Finder", "trace", "(I)I"⟩, 8), (⟨"TakeDesk", "adopt", "(I)I"⟩, 9), (⟨"TakeDesk$Playing", "addStretch", "(IIZ)V"⟩, 8), (⟨"TakeDesk$Finder", "offerSteps", "(III)V"⟩, 8), (⟨"TakeDesk$Finder", "offer", "(III)V"⟩, 8), (⟨"TakeDesk", "mayStand", "(I)Z"⟩, 9), (⟨"TakeDeskModel", "begin", "()V"⟩, 42), (⟨"TakeDeskModel", "layNone", "()V"⟩, 42), (⟨"TakeDeskModel", "answer", "(I)I"⟩, 42), (⟨"TakeDeskModel", "isPart", "(I)Z"⟩, 42), (⟨"TakeDeskModel", "isBeat", "(I)Z"⟩, 42), (⟨"TakeDeskModel", "changed", "(I)V"⟩, 42)]
theorem lw_r2 : ∀ q ∈ lw_privs_2, lw_okq q := List.forall_mem_cons.mpr ⟨lw_p16, List.forall_mem_cons.mpr ⟨lw_p17, List.forall_mem_cons.mpr ⟨lw_p18, List.forall_mem_cons.mpr ⟨lw_p19, List.forall_mem_cons.mpr ⟨lw_p20, List.forall_mem_cons.mpr ⟨lw_p21, List.forall_mem_cons.mpr ⟨lw_p22, List.forall_mem_cons.mpr ⟨lw_p23, List.forall_mem_cons.mpr ⟨lw_p24, List.forall_mem_cons.mpr ⟨lw_p25, List.forall_mem_cons.mpr ⟨lw_p26, List.forall_mem_cons.mpr ⟨lw_p27, List.forall_mem_cons.mpr ⟨lw_p28, List.forall_mem_cons.mpr ⟨lw_p29, List.forall_mem_cons.mpr ⟨lw_p30, List.forall_mem_cons.mpr ⟨lw_p31, fun _ h => absurd h List.not_mem_nil⟩⟩⟩⟩⟩⟩⟩⟩⟩⟩⟩⟩⟩⟩⟩⟩
theorem lw_p32 : lw_okq (⟨"TakeDeskModel", "look", "(I)I"⟩, 42) := ⟨⟨by decide +kernel, by decide +kernel⟩, List.mem_of_getElem? (i := 729) (by decide +kernel), List.mem_of_getElem? (i := 911) (by decide +kernel), List.mem_of_getElem? (i := 912) (by decide +kernel)⟩
theorem lw_p33 : lw_okq (⟨"TakeDeskModel", "add", "(II)V"⟩, 42) := ⟨⟨by decide +kernel, by decide +kernel⟩, List.mem_of_getElem? (i := 729) (by decide +kernel), List.mem_of_getElem? (i := 923) (by decide +kernel), List.mem_of_getElem? (i := 924) (by decide +kernel)⟩
theorem lw_p34 : lw_okq (⟨"TakeDeskModel", "ends", "(I)I"⟩, 42) := ⟨⟨by decide +kernel, by decide +kernel⟩, List.mem_of_getElem? (i := 729) (by decide +kernel), List.mem_of_getElem? (i := 945) (by decide +kernel), List.mem_of_getElem? (i := 946) (by decide +kernel)⟩
theorem lw_p35 : lw_okq (⟨"TakeDeskModel", "begins", "(I)I"⟩, 42) := ⟨⟨by decide +kernel, by decide +kernel⟩, List.mem_of_getElem? (i := 729) (by decide +kernel), List.mem_of_getElem? (i := 949) (by decide +kernel), List.mem_of_getElem? (i := 950) (by decide +kernel)⟩
theorem lw_p36 : lw_okq (⟨"TakeDeskModel", "frameMany", "(I)I"⟩, 42) := ⟨⟨by decide +kernel, by decide +kernel⟩, List.mem_of_getElem? (i := 729) (by decide +kernel), List.mem_of_getElem? (i := 958) (by decide +kernel), List.mem_of_getElem? (i := 959) (by decide +kernel)⟩
theorem lw_p37 : lw_okq (⟨"TakeDeskModel", "levelOf", "(II)I"⟩, 42) := ⟨⟨by decide +kernel, by decide +kernel⟩, List.mem_of_getElem? (i := 729) (by decide +kernel), List.mem_of_getElem? (i := 962) (by decide +kernel), List.mem_of_getElem? (i := 963) (by decide +kernel)⟩
theorem lw_p38 : lw_okq (⟨"TakeDeskModel", "has", "(II)Z"⟩, 42) := ⟨⟨by decide +kernel, by decide +kernel⟩, List.mem_of_getElem? (i := 729) (by decide +kernel), List.mem_of_getElem? (i := 970) (by decide +kernel), List.mem_of_getElem? (i := 971) (by decide +kernel)⟩
theorem lw_p39 : lw_okq (⟨"TakeDeskModel", "reckon", "(II)V"⟩, 42) := ⟨⟨by decide +kernel, by decide +kernel⟩, List.mem_of_getElem? (i := 729) (by decide +kernel), List.mem_of_getElem? (i := 978) (by decide +kernel), List.mem_of_getElem? (i := 979) (by decide +kernel)⟩
theorem lw_p40 : lw_okq (⟨"TakeDeskModel", "behind", "(IIII)I"⟩, 42) := ⟨⟨by decide +kernel, by decide +kernel⟩, List.mem_of_getElem? (i := 729) (by decide +kernel), List.mem_of_getElem? (i := 982) (by decide +kernel), List.mem_of_getElem? (i := 983) (by decide +kernel)⟩
theorem lw_p41 : lw_okq (⟨"TakeDeskModel", "worthOf", "(II)I"⟩, 42) := ⟨⟨by decide +kernel, by decide +kernel⟩, List.mem_of_getElem? (i := 729) (by decide +kernel), List.mem_of_getElem? (i := 1003) (by decide +kernel), List.mem_of_getElem? (i := 1004) (by decide +kernel)⟩
theorem lw_p42 : lw_okq (⟨"TakeDeskModel", "lookTwo", "(III)I"⟩, 42) := ⟨⟨by decide +kernel, by decide +kernel⟩, List.mem_of_getElem? (i := 729) (by decide +kernel), List.mem_of_getElem? (i := 1015) (by decide +kernel), List.mem_of_getElem? (i := 1016) (by decide +kernel)⟩
theorem lw_p43 : lw_okq (⟨"TakeDeskModel", "likeness", "(IIII)I"⟩, 42) := ⟨⟨by decide +kernel, by decide +kernel⟩, List.mem_of_getElem? (i := 729) (by decide +kernel), List.mem_of_getElem? (i := 1019) (by decide +kernel), List.mem_of_getElem? (i := 1020) (by decide +kernel)⟩
theorem lw_p44 : lw_okq (⟨"TakeDeskModel", "frameOf", "(II)I"⟩, 42) := ⟨⟨by decide +kernel, by decide +kernel⟩, List.mem_of_getElem? (i := 729) (by decide +kernel), List.mem_of_getElem? (i := 1023) (by decide +kernel), List.mem_of_getElem? (i := 1024) (by decide +kernel)⟩
theorem lw_p45 : lw_okq (⟨"TakeDeskModel", "sampleOf", "(II)I"⟩, 42) := ⟨⟨by decide +kernel, by decide +kernel⟩, List.mem_of_getElem? (i := 729) (by decide +kernel), List.mem_of_getElem? (i := 1027) (by decide +kernel), List.mem_of_getElem? (i := 1028) (by decide +kernel)⟩
theorem lw_p46 : lw_okq (⟨"TakeDeskModel", "shiftOf", "(III)I"⟩, 42) := ⟨⟨by decide +kernel, by decide +kernel⟩, List.mem_of_getElem? (i := 729) (by decide +kernel), List.mem_of_getElem? (i := 1036) (by decide +kernel), List.mem_of_getElem? (i := 1037) (by decide +kernel)⟩
theorem lw_p47 : lw_okq (⟨"TakeDeskModel", "costOf", "(III)I"⟩, 42) := ⟨⟨by decide +kernel, by decide +kernel⟩, List.mem_of_getElem? (i := 729) (by decide +kernel), List.mem_of_getElem? (i := 1044) (by decide +kernel), List.mem_of_getElem? (i := 1045) (by decide +kernel)⟩
def lw_privs_3 : List (MethodName × Nat) := [(⟨"TakeDeskModel", "look", "(I)I"⟩, 42), (⟨"TakeDeskModel", "add", "(II)V"⟩, 42), (⟨"TakeDeskModel", "ends", "(I)I"⟩, 42), (⟨"TakeDeskModel", "begins", "(I)I"⟩, 42), (⟨"TakeDeskModel", "frameMany", "(I)I"⟩, 42), (⟨"TakeDeskModel", "levelOf", "(II)I"⟩, 42), (⟨"TakeDeskModel", "has", "(II)Z"⟩, 42), (⟨"TakeDeskModel", "reckon", "(II)V"⟩, 42), (⟨"TakeDeskModel", "behind", "(IIII)I"⟩, 42), (⟨"TakeDeskModel", "worthOf", "(II)I"⟩, 42), (⟨"TakeDeskModel", "lookTwo", "(III)I"⟩, 42), (⟨"TakeDeskModel", "likeness", "(IIII)I"⟩, 42), (⟨"TakeDeskModel", "frameOf", "(II)I"⟩, 42), (⟨"TakeDeskModel", "sampleOf", "(II)I"⟩, 42), (⟨"TakeDeskModel", "shiftOf", "(III)I"⟩, 42), (⟨"TakeDeskModel", "costOf", "(III)I"⟩, 42)]
theorem lw_r3 : ∀ q ∈ lw_privs_3, lw_okq q := List.forall_mem_cons.mpr ⟨lw_p32, List.forall_mem_cons.mpr ⟨lw_p33, List.forall_mem_cons.mpr ⟨lw_p34, List.forall_mem_cons.mpr ⟨lw_p35, List.forall_mem_cons.mpr ⟨lw_p36, List.forall_mem_cons.mpr ⟨lw_p37, List.forall_mem_cons.mpr ⟨lw_p38, List.forall_mem_cons.mpr ⟨lw_p39, List.forall_mem_cons.mpr ⟨lw_p40, List.forall_mem_cons.mpr ⟨lw_p41, List.forall_mem_cons.mpr ⟨lw_p42, List.forall_mem_cons.mpr ⟨lw_p43, List.forall_mem_cons.mpr ⟨lw_p44, List.forall_mem_cons.mpr ⟨lw_p45, List.forall_mem_cons.mpr ⟨lw_p46, List.forall_mem_cons.mpr ⟨lw_p47, fun _ h => absurd h List.not_mem_nil⟩⟩⟩⟩⟩⟩⟩⟩⟩⟩⟩⟩⟩⟩⟩⟩
theorem lw_p48 : lw_okq (⟨"TakeDeskModel", "findWays", "()V"⟩, 42) := ⟨⟨by decide +kernel, by decide +kernel⟩, List.mem_of_getElem? (i := 729) (by decide +kernel), List.mem_of_getElem? (i := 1060) (by decide +kernel), List.mem_of_getElem? (i := 1061) (by decide +kernel)⟩
theorem lw_p49 : lw_okq (⟨"TakeDeskModel", "findCosts", "()V"⟩, 42) := ⟨⟨by decide +kernel, by decide +kernel⟩, List.mem_of_getElem? (i := 729) (by decide +kernel), List.mem_of_getElem? (i := 1064) (by decide +kernel), List.mem_of_getElem? (i := 1065) (by decide +kernel)⟩
theorem lw_p50 : lw_okq (⟨"TakeDeskModel", "may", "(II)Z"⟩, 42) := ⟨⟨by decide +kernel, by decide +kernel⟩, List.mem_of_getElem? (i := 729) (by decide +kernel), List.mem_of_getElem? (i := 1068) (by decide +kernel), List.mem_of_getElem? (i := 1069) (by decide +kernel)⟩
theorem lw_p51 : lw_okq (⟨"TakeDeskModel", "enter", "(IIIII)V"⟩, 42) := ⟨⟨by decide +kernel, by decide +kernel⟩, List.mem_of_getElem? (i := 729) (by decide +kernel), List.mem_of_getElem? (i := 1072) (by decide +kernel), List.mem_of_getElem? (i := 1073) (by decide +kernel)⟩
theorem lw_p52 : lw_okq (⟨"TakeDeskModel", "isAhead", "(IIII)Z"⟩, 42) := ⟨⟨by decide +kernel, by decide +kernel⟩, List.mem_of_getElem? (i := 729) (by decide +kernel), List.mem_of_getElem? (i := 1076) (by decide +kernel), List.mem_of_getElem? (i := 1077) (by decide +kernel)⟩
theorem lw_p53 : lw_okq (⟨"TakeDeskModel", "goOn", "(IIII)V"⟩, 42) := ⟨⟨by decide +kernel, by decide +kernel⟩, List.mem_of_getElem? (i := 729) (by decide +kernel), List.mem_of_getElem? (i := 1080) (by decide +kernel), List.mem_of_getElem? (i := 1081) (by decide +kernel)⟩
theorem lw_p54 : lw_okq (⟨"TakeDeskModel", "mayJoin", "(III)Z"⟩, 42) := ⟨⟨by decide +kernel, by decide +kernel⟩, List.mem_of_getElem? (i := 729) (by decide +kernel), List.mem_of_getElem? (i := 1084) (by decide +kernel), List.mem_of_getElem? (i := 1085) (by decide +kernel)⟩
theorem lw_p55 : lw_okq (⟨"TakeDeskModel", "isBefore", "(II)Z"⟩, 42) := ⟨⟨by decide +kernel, by decide +kernel⟩, List.mem_of_getElem? (i := 729) (by decide +kernel), List.mem_of_getElem? (i := 1088) (by decide +kernel), List.mem_of_getElem? (i := 1089) (by decide +kernel)⟩
theorem lw_p56 : lw_okq (⟨"TakeDeskModel", "follow", "(II)V"⟩, 42) := ⟨⟨by decide +kernel, by decide +kernel⟩, List.mem_of_getElem? (i := 729) (by decide +kernel), List.mem_of_getElem? (i := 1092) (by decide +kernel), List.mem_of_getElem? (i := 1093) (by decide +kernel)⟩
theorem lw_p57 : lw_okq (⟨"TakeDeskModel", "findFew", "(III)V"⟩, 42) := ⟨⟨by decide +kernel, by decide +kernel⟩, List.mem_of_getElem? (i := 729) (by decide +kernel), List.mem_of_getElem? (i := 1100) (by decide +kernel), List.mem_of_getElem? (i := 1101) (by decide +kernel)⟩
theorem lw_p58 : lw_okq (⟨"TakeDeskModel", "isJoin", "(I)Z"⟩, 42) := ⟨⟨by decide +kernel, by decide +kernel⟩, List.mem_of_getElem? (i := 729) (by decide +kernel), List.mem_of_getElem? (i := 1115) (by decide +kernel), List.mem_of_getElem? (i := 1116) (by decide +kernel)⟩
theorem lw_p59 : lw_okq (⟨"TakeDeskModel", "make", "()V"⟩, 42) := ⟨⟨by decide +kernel, by decide +kernel⟩, List.mem_of_getElem? (i := 729) (by decide +kernel), List.mem_of_getElem? (i := 1123) (by decide +kernel), List.mem_of_getElem? (i := 1124) (by decide +kernel)⟩
theorem lw_p60 : lw_okq (⟨"TakeDeskModel", "makeRow", "(II)V"⟩, 42) := ⟨⟨by decide +kernel, by decide +kernel⟩, List.mem_of_getElem? (i := 729) (by decide +kernel), List.mem_of_getElem? (i := 1127) (by decide +kernel), List.mem_of_getElem? (i := 1128) (by decide +kernel)⟩
def lw_privs_4 : List (MethodName × Nat) := [(⟨"TakeDeskModel", "findWays", "()V"⟩, 42), (⟨"TakeDeskModel", "findCosts", "()V"⟩, 42), (⟨"TakeDeskModel", "may", "(II)Z"⟩, 42), (⟨"TakeDeskModel", "enter", "(IIIII)V"⟩, 42), (⟨"TakeDeskModel", "isAhead", "(IIII)Z"⟩, 42), (⟨"TakeDeskModel", "goOn", "(IIII)V"⟩, 42), (⟨"TakeDeskModel", "mayJoin", "(III)Z"⟩, 42), (⟨"TakeDeskModel", "isBefore", "(II)Z"⟩, 42), (⟨"TakeDeskModel", "follow", "(II)V"⟩, 42), (⟨"TakeDeskModel", "findFew", "(III)V"⟩, 42), (⟨"TakeDeskModel", "isJoin", "(I)Z"⟩, 42), (⟨"TakeDeskModel", "make", "()V"⟩, 42), (⟨"TakeDeskModel", "makeRow", "(II)V"⟩, 42)]
theorem lw_r4 : ∀ q ∈ lw_privs_4, lw_okq q := List.forall_mem_cons.mpr ⟨lw_p48, List.forall_mem_cons.mpr ⟨lw_p49, List.forall_mem_cons.mpr ⟨lw_p50, List.forall_mem_cons.mpr ⟨lw_p51, List.forall_mem_cons.mpr ⟨lw_p52, List.forall_mem_cons.mpr ⟨lw_p53, List.forall_mem_cons.mpr ⟨lw_p54, List.forall_mem_cons.mpr ⟨lw_p55, List.forall_mem_cons.mpr ⟨lw_p56, List.forall_mem_cons.mpr ⟨lw_p57, List.forall_mem_cons.mpr ⟨lw_p58, List.forall_mem_cons.mpr ⟨lw_p59, List.forall_mem_cons.mpr ⟨lw_p60, fun _ h => absurd h List.not_mem_nil⟩⟩⟩⟩⟩⟩⟩⟩⟩⟩⟩⟩⟩
def lw_privs : List (MethodName × Nat) := lw_privs_1 ++ (lw_privs_2 ++ (lw_privs_3 ++ (lw_privs_4)))
def lw_tbl : List Cond := k2_sels lw_privs ++ tables_1
theorem lw_privs_ok : ∀ q ∈ lw_privs, lw_okq q := by
  show ∀ q ∈ lw_privs_1 ++ (lw_privs_2 ++ (lw_privs_3 ++ (lw_privs_4))), lw_okq q
  exact List.forall_mem_append.mpr ⟨lw_r1, List.forall_mem_append.mpr ⟨lw_r2, List.forall_mem_append.mpr ⟨lw_r3, lw_r4⟩⟩⟩
-- ===== end of PART A; then your names; then what follows =====

/-! ===== BEGIN printed: names, fields, word lists, decode rows ===== -/
def RX0 : String := "TakeDesk$Finder"
def TX0 : u_T := fun k => match k with
  | 0 => ("TakeDesk$Finder", "score", "LTakeDesk$Score;", true)
  | 1 => ("TakeDesk$Finder", "takes", "[LTakeDesk$Take;", true)
  | 2 => ("TakeDesk$Finder", "joiner", "LTakeDesk$Joiner;", true)
  | 3 => ("TakeDesk$Finder", "keys", "[I", true)
  | 4 => ("TakeDesk$Finder", "links", "[I", true)
  | 5 => ("TakeDesk$Finder", "steps", "[I", true)
  | 6 => ("TakeDesk$Finder", "heads", "[I", true)
  | _ => ("TakeDesk$Finder", "traced", "[I", true)
def tyX0 : Nat → FieldType := fun k => match k with
  | 0 => .object "TakeDesk$Score"
  | 1 => .array (.object "TakeDesk$Take")
  | 2 => .object "TakeDesk$Joiner"
  | 3 => .array .int
  | 4 => .array .int
  | 5 => .array .int
  | 6 => .array .int
  | _ => .array .int
abbrev wsX00 : List Cond := u_ws RX0 TX0 8
theorem nmX0 : ∀ a, a < 8 → ∀ b, b < 8 → a ≠ b → (TX0 a).2.1 ≠ (TX0 b).2.1 := by decide +kernel
theorem tyX0_ok : ∀ k, k < 8 → parseFieldDescriptor (TX0 k).2.2.1 = some (tyX0 k) := by decide +kernel
abbrev cX0_init : ByteArray := prog_2_method_1_code
def yX0_init : MethodName := ⟨RX0, "<init>", "(LTakeDesk$Score;[LTakeDesk$Take;LTakeDesk$Joiner;)V"⟩
abbrev cX0_fits : ByteArray := prog_2_method_2_code
def yX0_fits : MethodName := ⟨RX0, "fits", "(II)Z"⟩
abbrev cX0_findRanked : ByteArray := prog_2_method_3_code
def yX0_findRanked : MethodName := ⟨RX0, "findRanked", "(I)I"⟩
abbrev cX0_merge : ByteArray := prog_2_method_4_code
def yX0_merge : MethodName := ⟨RX0, "merge", "(IIII)V"⟩
abbrev cX0_nextInOrder : ByteArray := prog_2_method_5_code
def yX0_nextInOrder : MethodName := ⟨RX0, "nextInOrder", "(II)I"⟩
abbrev cX0_findWithin : ByteArray := prog_2_method_6_code
def yX0_findWithin : MethodName := ⟨RX0, "findWithin", "(I)I"⟩
abbrev cX0_offerSteps : ByteArray := prog_2_method_7_code
def yX0_offerSteps : MethodName := ⟨RX0, "offerSteps", "(III)V"⟩
abbrev cX0_offer : ByteArray := prog_2_method_8_code
def yX0_offer : MethodName := ⟨RX0, "offer", "(III)V"⟩
abbrev cX0_fillCells : ByteArray := prog_2_method_9_code
def yX0_fillCells : MethodName := ⟨RX0, "fillCells", "(III)V"⟩
abbrev cX0_gainOf : ByteArray := prog_2_method_10_code
def yX0_gainOf : MethodName := ⟨RX0, "gainOf", "(II)I"⟩
abbrev cX0_weighSteps : ByteArray := prog_2_method_11_code
def yX0_weighSteps : MethodName := ⟨RX0, "weighSteps", "(II)V"⟩
abbrev cX0_trace : ByteArray := prog_2_method_12_code
def yX0_trace : MethodName := ⟨RX0, "trace", "(I)I"⟩
abbrev cX0_cellOf : ByteArray := prog_2_method_13_code
def yX0_cellOf : MethodName := ⟨RX0, "cellOf", "(III)I"⟩
def RX1 : String := "TakeDesk$Joiner"
def TX1 : u_T := fun k => match k with
  | 0 => ("TakeDesk$Joiner", "takes", "[LTakeDesk$Take;", true)
  | 1 => ("TakeDesk$Joiner", "window", "I", false)
  | 2 => ("TakeDesk$Joiner", "reach", "I", false)
  | 3 => ("TakeDesk$Joiner", "constant", "I", false)
  | 4 => ("TakeDesk$Joiner", "ahead", "[I", true)
  | 5 => ("TakeDesk$Joiner", "behind", "[I", true)
  | 6 => ("TakeDesk$Joiner", "shifts", "[I", true)
  | _ => ("TakeDesk$Joiner", "losses", "[I", true)
def tyX1 : Nat → FieldType := fun k => match k with
  | 0 => .array (.object "TakeDesk$Take")
  | 1 => .int
  | 2 => .int
  | 3 => .int
  | 4 => .array .int
  | 5 => .array .int
  | 6 => .array .int
  | _ => .array .int
abbrev wsX10 : List Cond := u_ws RX1 TX1 8
theorem nmX1 : ∀ a, a < 8 → ∀ b, b < 8 → a ≠ b → (TX1 a).2.1 ≠ (TX1 b).2.1 := by decide +kernel
theorem tyX1_ok : ∀ k, k < 8 → parseFieldDescriptor (TX1 k).2.2.1 = some (tyX1 k) := by decide +kernel
abbrev cX1_init : ByteArray := prog_3_method_1_code
def yX1_init : MethodName := ⟨RX1, "<init>", "([LTakeDesk$Take;)V"⟩
abbrev cX1_forgetAll : ByteArray := prog_3_method_2_code
def yX1_forgetAll : MethodName := ⟨RX1, "forgetAll", "()V"⟩
abbrev cX1_forgetTake : ByteArray := prog_3_method_3_code
def yX1_forgetTake : MethodName := ⟨RX1, "forgetTake", "(I)V"⟩
abbrev cX1_likenessBy : ByteArray := prog_3_method_4_code
def yX1_likenessBy : MethodName := ⟨RX1, "likenessBy", "(IIII)I"⟩
abbrev cX1_shiftAt : ByteArray := prog_3_method_5_code
def yX1_shiftAt : MethodName := ⟨RX1, "shiftAt", "(III)I"⟩
abbrev cX1_costAt : ByteArray := prog_3_method_6_code
def yX1_costAt : MethodName := ⟨RX1, "costAt", "(III)I"⟩
abbrev cX1_cellOf : ByteArray := prog_3_method_7_code
def yX1_cellOf : MethodName := ⟨RX1, "cellOf", "(III)I"⟩
abbrev cX1_measure : ByteArray := prog_3_method_8_code
def yX1_measure : MethodName := ⟨RX1, "measure", "(III)V"⟩
abbrev cX1_listen : ByteArray := prog_3_method_9_code
def yX1_listen : MethodName := ⟨RX1, "listen", "([IILTakeDesk$Take;I)V"⟩
abbrev cX1_squaresOf : ByteArray := prog_3_method_10_code
def yX1_squaresOf : MethodName := ⟨RX1, "squaresOf", "([I)I"⟩
abbrev cX1_liken : ByteArray := prog_3_method_11_code
def yX1_liken : MethodName := ⟨RX1, "liken", "(II)I"⟩
def RX2 : String := "TakeDesk$Layer"
def TX2 : u_T := fun k => match k with
  | 0 => ("TakeDesk$Layer", "levels", "[I", true)
  | 1 => ("TakeDesk$Layer", "sums", "[I", true)
  | _ => ("TakeDesk$Layer", "nextFrames", "[I", true)
def tyX2 : Nat → FieldType := fun k => match k with
  | 0 => .array .int
  | 1 => .array .int
  | _ => .array .int
abbrev wsX20 : List Cond := u_ws RX2 TX2 3
theorem nmX2 : ∀ a, a < 3 → ∀ b, b < 3 → a ≠ b → (TX2 a).2.1 ≠ (TX2 b).2.1 := by decide +kernel
theorem tyX2_ok : ∀ k, k < 3 → parseFieldDescriptor (TX2 k).2.2.1 = some (tyX2 k) := by decide +kernel
abbrev cX2_init : ByteArray := prog_4_method_1_code
def yX2_init : MethodName := ⟨RX2, "<init>", "()V"⟩
abbrev cX2_place : ByteArray := prog_4_method_2_code
def yX2_place : MethodName := ⟨RX2, "place", "(LTakeDesk$Take;LTakeDesk$Score;)I"⟩
abbrev cX2_sumUp : ByteArray := prog_4_method_3_code
def yX2_sumUp : MethodName := ⟨RX2, "sumUp", "(LTakeDesk$Take;LTakeDesk$Score;III)V"⟩
abbrev cX2_leastRest : ByteArray := prog_4_method_4_code
def yX2_leastRest : MethodName := ⟨RX2, "leastRest", "(IIII)I"⟩
abbrev cX2_leastStart : ByteArray := prog_4_method_5_code
def yX2_leastStart : MethodName := ⟨RX2, "leastStart", "(II)I"⟩
abbrev cX2_write : ByteArray := prog_4_method_6_code
def yX2_write : MethodName := ⟨RX2, "write", "(LTakeDesk$Take;LTakeDesk$Score;I)V"⟩
def RX3 : String := "TakeDesk$Playing"
def TX3 : u_T := fun k => match k with
  | 0 => ("TakeDesk$Playing", "takes", "[LTakeDesk$Take;", true)
  | 1 => ("TakeDesk$Playing", "joiner", "LTakeDesk$Joiner;", true)
  | 2 => ("TakeDesk$Playing", "known", "Z", false)
  | 3 => ("TakeDesk$Playing", "ramp", "I", false)
  | 4 => ("TakeDesk$Playing", "row", "[I", true)
  | 5 => ("TakeDesk$Playing", "stretches", "[LTakeDesk$Stretch;", true)
  | 6 => ("TakeDesk$Playing", "stretchCount", "I", false)
  | _ => ("TakeDesk$Playing", "madeCount", "I", false)
def tyX3 : Nat → FieldType := fun k => match k with
  | 0 => .array (.object "TakeDesk$Take")
  | 1 => .object "TakeDesk$Joiner"
  | 2 => .boolean
  | 3 => .int
  | 4 => .array .int
  | 5 => .array (.object "TakeDesk$Stretch")
  | 6 => .int
  | _ => .int
abbrev wsX30 : List Cond := u_ws RX3 TX3 8
theorem nmX3 : ∀ a, a < 8 → ∀ b, b < 8 → a ≠ b → (TX3 a).2.1 ≠ (TX3 b).2.1 := by decide +kernel
theorem tyX3_ok : ∀ k, k < 8 → parseFieldDescriptor (TX3 k).2.2.1 = some (tyX3 k) := by decide +kernel
abbrev cX3_init : ByteArray := prog_5_method_1_code
def yX3_init : MethodName := ⟨RX3, "<init>", "([LTakeDesk$Take;LTakeDesk$Joiner;)V"⟩
abbrev cX3_follow : ByteArray := prog_5_method_2_code
def yX3_follow : MethodName := ⟨RX3, "follow", "([II)V"⟩
abbrev cX3_addStretch : ByteArray := prog_5_method_3_code
def yX3_addStretch : MethodName := ⟨RX3, "addStretch", "(IIZ)V"⟩
abbrev cX3_joinCount : ByteArray := prog_5_method_4_code
def yX3_joinCount : MethodName := ⟨RX3, "joinCount", "()I"⟩
abbrev cX3_stretchOf : ByteArray := prog_5_method_5_code
def yX3_stretchOf : MethodName := ⟨RX3, "stretchOf", "(I)LTakeDesk$Stretch;"⟩
abbrev cX3_isInRamp : ByteArray := prog_5_method_6_code
def yX3_isInRamp : MethodName := ⟨RX3, "isInRamp", "(LTakeDesk$Stretch;I)Z"⟩
abbrev cX3_soundOf : ByteArray := prog_5_method_7_code
def yX3_soundOf : MethodName := ⟨RX3, "soundOf", "(LTakeDesk$Stretch;I)I"⟩
def RX4 : String := "TakeDesk$Score"
def TX4 : u_T := fun k => match k with
  | 0 => ("TakeDesk$Score", "beats", "I", false)
  | 1 => ("TakeDesk$Score", "loudness", "[I", true)
  | 2 => ("TakeDesk$Score", "lengths", "[I", true)
  | 3 => ("TakeDesk$Score", "barred", "[Z", true)
  | _ => ("TakeDesk$Score", "kept", "[I", true)
def tyX4 : Nat → FieldType := fun k => match k with
  | 0 => .int
  | 1 => .array .int
  | 2 => .array .int
  | 3 => .array .boolean
  | _ => .array .int
abbrev wsX40 : List Cond := u_ws RX4 TX4 5
theorem nmX4 : ∀ a, a < 5 → ∀ b, b < 5 → a ≠ b → (TX4 a).2.1 ≠ (TX4 b).2.1 := by decide +kernel
theorem tyX4_ok : ∀ k, k < 5 → parseFieldDescriptor (TX4 k).2.2.1 = some (tyX4 k) := by decide +kernel
abbrev cX4_init : ByteArray := prog_6_method_1_code
def yX4_init : MethodName := ⟨RX4, "<init>", "()V"⟩
abbrev cX4_renew : ByteArray := prog_6_method_2_code
def yX4_renew : MethodName := ⟨RX4, "renew", "(I)V"⟩
abbrev cX4_holds : ByteArray := prog_6_method_3_code
def yX4_holds : MethodName := ⟨RX4, "holds", "(I)Z"⟩
def RX5 : String := "TakeDesk$Stretch"
def TX5 : u_T := fun k => match k with
  | 0 => ("TakeDesk$Stretch", "take", "I", false)
  | 1 => ("TakeDesk$Stretch", "beat", "I", false)
  | 2 => ("TakeDesk$Stretch", "aheadTake", "I", false)
  | 3 => ("TakeDesk$Stretch", "aheadStart", "I", false)
  | 4 => ("TakeDesk$Stretch", "start", "I", false)
  | 5 => ("TakeDesk$Stretch", "low", "I", false)
  | 6 => ("TakeDesk$Stretch", "high", "I", false)
  | _ => ("TakeDesk$Stretch", "madeFrom", "I", false)
def tyX5 : Nat → FieldType := fun k => match k with
  | 0 => .int
  | 1 => .int
  | 2 => .int
  | 3 => .int
  | 4 => .int
  | 5 => .int
  | 6 => .int
  | _ => .int
abbrev wsX50 : List Cond := u_ws RX5 TX5 8
theorem nmX5 : ∀ a, a < 8 → ∀ b, b < 8 → a ≠ b → (TX5 a).2.1 ≠ (TX5 b).2.1 := by decide +kernel
theorem tyX5_ok : ∀ k, k < 8 → parseFieldDescriptor (TX5 k).2.2.1 = some (tyX5 k) := by decide +kernel
abbrev cX5_init : ByteArray := prog_7_method_1_code
def yX5_init : MethodName := ⟨RX5, "<init>", "()V"⟩
abbrev cX5_size : ByteArray := prog_7_method_2_code
def yX5_size : MethodName := ⟨RX5, "size", "()I"⟩
abbrev cX5_indexOf : ByteArray := prog_7_method_3_code
def yX5_indexOf : MethodName := ⟨RX5, "indexOf", "(I)I"⟩
def RX6 : String := "TakeDesk$Take"
def TX6 : u_T := fun k => match k with
  | 0 => ("TakeDesk$Take", "here", "Z", false)
  | 1 => ("TakeDesk$Take", "laid", "Z", false)
  | 2 => ("TakeDesk$Take", "kind", "I", false)
  | 3 => ("TakeDesk$Take", "first", "I", false)
  | 4 => ("TakeDesk$Take", "last", "I", false)
  | 5 => ("TakeDesk$Take", "more", "I", false)
  | 6 => ("TakeDesk$Take", "count", "I", false)
  | 7 => ("TakeDesk$Take", "samples", "[I", true)
  | 8 => ("TakeDesk$Take", "hands", "[I", true)
  | 9 => ("TakeDesk$Take", "frames", "[I", true)
  | _ => ("TakeDesk$Take", "marks", "[I", true)
def tyX6 : Nat → FieldType := fun k => match k with
  | 0 => .boolean
  | 1 => .boolean
  | 2 => .int
  | 3 => .int
  | 4 => .int
  | 5 => .int
  | 6 => .int
  | 7 => .array .int
  | 8 => .array .int
  | 9 => .array .int
  | _ => .array .int
abbrev wsX60 : List Cond := u_ws RX6 TX6 11
theorem nmX6 : ∀ a, a < 11 → ∀ b, b < 11 → a ≠ b → (TX6 a).2.1 ≠ (TX6 b).2.1 := by decide +kernel
theorem tyX6_ok : ∀ k, k < 11 → parseFieldDescriptor (TX6 k).2.2.1 = some (tyX6 k) := by decide +kernel
abbrev cX6_init : ByteArray := prog_8_method_1_code
def yX6_init : MethodName := ⟨RX6, "<init>", "()V"⟩
abbrev cX6_begin : ByteArray := prog_8_method_2_code
def yX6_begin : MethodName := ⟨RX6, "begin", "(IIII)V"⟩
abbrev cX6_clearBeats : ByteArray := prog_8_method_3_code
def yX6_clearBeats : MethodName := ⟨RX6, "clearBeats", "()V"⟩
abbrev cX6_meetScore : ByteArray := prog_8_method_4_code
def yX6_meetScore : MethodName := ⟨RX6, "meetScore", "(I)V"⟩
abbrev cX6_has : ByteArray := prog_8_method_5_code
def yX6_has : MethodName := ⟨RX6, "has", "(I)Z"⟩
abbrev cX6_leadsTo : ByteArray := prog_8_method_6_code
def yX6_leadsTo : MethodName := ⟨RX6, "leadsTo", "(I)Z"⟩
abbrev cX6_room : ByteArray := prog_8_method_7_code
def yX6_room : MethodName := ⟨RX6, "room", "()I"⟩
abbrev cX6_append : ByteArray := prog_8_method_8_code
def yX6_append : MethodName := ⟨RX6, "append", "(I)V"⟩
abbrev cX6_write : ByteArray := prog_8_method_9_code
def yX6_write : MethodName := ⟨RX6, "write", "(II)V"⟩
abbrev cX6_soundAt : ByteArray := prog_8_method_10_code
def yX6_soundAt : MethodName := ⟨RX6, "soundAt", "(I)I"⟩
abbrev cX6_frameCount : ByteArray := prog_8_method_11_code
def yX6_frameCount : MethodName := ⟨RX6, "frameCount", "()I"⟩
abbrev cX6_levelAt : ByteArray := prog_8_method_12_code
def yX6_levelAt : MethodName := ⟨RX6, "levelAt", "(I)I"⟩
abbrev cX6_frameAt : ByteArray := prog_8_method_13_code
def yX6_frameAt : MethodName := ⟨RX6, "frameAt", "(I)I"⟩
abbrev cX6_startOf : ByteArray := prog_8_method_14_code
def yX6_startOf : MethodName := ⟨RX6, "startOf", "(I)I"⟩
abbrev cX6_worthAt : ByteArray := prog_8_method_15_code
def yX6_worthAt : MethodName := ⟨RX6, "worthAt", "(I)I"⟩
def RX7 : String := "TakeDesk"
def TX7 : u_T := fun k => match k with
  | 0 => ("TakeDesk", "score", "LTakeDesk$Score;", true)
  | 1 => ("TakeDesk", "takes", "[LTakeDesk$Take;", true)
  | 2 => ("TakeDesk", "layer", "LTakeDesk$Layer;", true)
  | 3 => ("TakeDesk", "joiner", "LTakeDesk$Joiner;", true)
  | 4 => ("TakeDesk", "finder", "LTakeDesk$Finder;", true)
  | 5 => ("TakeDesk", "playing", "LTakeDesk$Playing;", true)
  | 6 => ("TakeDesk", "foundCounts", "[I", true)
  | 7 => ("TakeDesk", "waiting", "[I", true)
  | _ => ("TakeDesk", "waitingCount", "I", false)
def tyX7 : Nat → FieldType := fun k => match k with
  | 0 => .object "TakeDesk$Score"
  | 1 => .array (.object "TakeDesk$Take")
  | 2 => .object "TakeDesk$Layer"
  | 3 => .object "TakeDesk$Joiner"
  | 4 => .object "TakeDesk$Finder"
  | 5 => .object "TakeDesk$Playing"
  | 6 => .array .int
  | 7 => .array .int
  | _ => .int
abbrev wsX70 : List Cond := u_ws RX7 TX7 9
theorem nmX7 : ∀ a, a < 9 → ∀ b, b < 9 → a ≠ b → (TX7 a).2.1 ≠ (TX7 b).2.1 := by decide +kernel
theorem tyX7_ok : ∀ k, k < 9 → parseFieldDescriptor (TX7 k).2.2.1 = some (tyX7 k) := by decide +kernel
abbrev cX7_init : ByteArray := prog_1_method_1_code
def yX7_init : MethodName := ⟨RX7, "<init>", "()V"⟩
abbrev cX7_score : ByteArray := prog_1_method_2_code
def yX7_score : MethodName := ⟨RX7, "score", "(I)I"⟩
abbrev cX7_beat : ByteArray := prog_1_method_3_code
def yX7_beat : MethodName := ⟨RX7, "beat", "(III)I"⟩
abbrev cX7_take : ByteArray := prog_1_method_4_code
def yX7_take : MethodName := ⟨RX7, "take", "(IIIII)I"⟩
abbrev cX7_tear : ByteArray := prog_1_method_5_code
def yX7_tear : MethodName := ⟨RX7, "tear", "(I)I"⟩
abbrev cX7_play : ByteArray := prog_1_method_6_code
def yX7_play : MethodName := ⟨RX7, "play", "(IIII)I"⟩
abbrev cX7_copy : ByteArray := prog_1_method_7_code
def yX7_copy : MethodName := ⟨RX7, "copy", "(IIIII)I"⟩
abbrev cX7_put : ByteArray := prog_1_method_8_code
def yX7_put : MethodName := ⟨RX7, "put", "(III)I"⟩
abbrev cX7_sample : ByteArray := prog_1_method_9_code
def yX7_sample : MethodName := ⟨RX7, "sample", "(II)I"⟩
abbrev cX7_as : ByteArray := prog_1_method_10_code
def yX7_as : MethodName := ⟨RX7, "as", "(II)I"⟩
abbrev cX7_level : ByteArray := prog_1_method_11_code
def yX7_level : MethodName := ⟨RX7, "level", "(II)I"⟩
abbrev cX7_hand : ByteArray := prog_1_method_12_code
def yX7_hand : MethodName := ⟨RX7, "hand", "(III)I"⟩
abbrev cX7_lay : ByteArray := prog_1_method_13_code
def yX7_lay : MethodName := ⟨RX7, "lay", "(I)I"⟩
abbrev cX7_frame : ByteArray := prog_1_method_14_code
def yX7_frame : MethodName := ⟨RX7, "frame", "(II)I"⟩
abbrev cX7_mark : ByteArray := prog_1_method_15_code
def yX7_mark : MethodName := ⟨RX7, "mark", "(III)I"⟩
abbrev cX7_worth : ByteArray := prog_1_method_16_code
def yX7_worth : MethodName := ⟨RX7, "worth", "(II)I"⟩
abbrev cX7_set : ByteArray := prog_1_method_17_code
def yX7_set : MethodName := ⟨RX7, "set", "(II)I"⟩
abbrev cX7_like : ByteArray := prog_1_method_18_code
def yX7_like : MethodName := ⟨RX7, "like", "(IIII)I"⟩
abbrev cX7_shift : ByteArray := prog_1_method_19_code
def yX7_shift : MethodName := ⟨RX7, "shift", "(III)I"⟩
abbrev cX7_cost : ByteArray := prog_1_method_20_code
def yX7_cost : MethodName := ⟨RX7, "cost", "(III)I"⟩
abbrev cX7_bar : ByteArray := prog_1_method_21_code
def yX7_bar : MethodName := ⟨RX7, "bar", "(IZ)I"⟩
abbrev cX7_keep : ByteArray := prog_1_method_22_code
def yX7_keep : MethodName := ⟨RX7, "keep", "(II)I"⟩
abbrev cX7_best : ByteArray := prog_1_method_23_code
def yX7_best : MethodName := ⟨RX7, "best", "(I)I"⟩
abbrev cX7_few : ByteArray := prog_1_method_24_code
def yX7_few : MethodName := ⟨RX7, "few", "(I)I"⟩
abbrev cX7_way : ByteArray := prog_1_method_25_code
def yX7_way : MethodName := ⟨RX7, "way", "(I)I"⟩
abbrev cX7_joins : ByteArray := prog_1_method_26_code
def yX7_joins : MethodName := ⟨RX7, "joins", "()I"⟩
abbrev cX7_made : ByteArray := prog_1_method_27_code
def yX7_made : MethodName := ⟨RX7, "made", "()I"⟩
abbrev cX7_heard : ByteArray := prog_1_method_28_code
def yX7_heard : MethodName := ⟨RX7, "heard", "(I)I"⟩
abbrev cX7_from : ByteArray := prog_1_method_29_code
def yX7_from : MethodName := ⟨RX7, "from", "(II)I"⟩
abbrev cX7_tell : ByteArray := prog_1_method_30_code
def yX7_tell : MethodName := ⟨RX7, "tell", "(I)I"⟩
abbrev cX7_check : ByteArray := prog_1_method_31_code
def yX7_check : MethodName := ⟨RX7, "check", "()I"⟩
abbrev cX7_found : ByteArray := prog_1_method_32_code
def yX7_found : MethodName := ⟨RX7, "found", "(I)I"⟩
abbrev cX7_refuse : ByteArray := prog_1_method_33_code
def yX7_refuse : MethodName := ⟨RX7, "refuse", "(I)I"⟩
abbrev cX7_askTake : ByteArray := prog_1_method_34_code
def yX7_askTake : MethodName := ⟨RX7, "askTake", "(I)I"⟩
abbrev cX7_askTakeBeat : ByteArray := prog_1_method_35_code
def yX7_askTakeBeat : MethodName := ⟨RX7, "askTakeBeat", "(II)I"⟩
abbrev cX7_askPair : ByteArray := prog_1_method_36_code
def yX7_askPair : MethodName := ⟨RX7, "askPair", "(II)I"⟩
abbrev cX7_askJoin : ByteArray := prog_1_method_37_code
def yX7_askJoin : MethodName := ⟨RX7, "askJoin", "(III)I"⟩
abbrev cX7_isSetting : ByteArray := prog_1_method_38_code
def yX7_isSetting : MethodName := ⟨RX7, "isSetting", "(II)Z"⟩
abbrev cX7_setting : ByteArray := prog_1_method_39_code
def yX7_setting : MethodName := ⟨RX7, "setting", "(I)I"⟩
abbrev cX7_mayStand : ByteArray := prog_1_method_40_code
def yX7_mayStand : MethodName := ⟨RX7, "mayStand", "(I)Z"⟩
abbrev cX7_changeTake : ByteArray := prog_1_method_41_code
def yX7_changeTake : MethodName := ⟨RX7, "changeTake", "(I)V"⟩
abbrev cX7_adopt : ByteArray := prog_1_method_42_code
def yX7_adopt : MethodName := ⟨RX7, "adopt", "(I)I"⟩
abbrev cX7_valueOf : ByteArray := prog_1_method_43_code
def yX7_valueOf : MethodName := ⟨RX7, "valueOf", "(I)I"⟩
abbrev cX7_isWithin : ByteArray := prog_1_method_44_code
def yX7_isWithin : MethodName := ⟨RX7, "isWithin", "(III)Z"⟩
abbrev cX7_isTake : ByteArray := prog_1_method_45_code
def yX7_isTake : MethodName := ⟨RX7, "isTake", "(I)Z"⟩
abbrev cX7_isKind : ByteArray := prog_1_method_46_code
def yX7_isKind : MethodName := ⟨RX7, "isKind", "(I)Z"⟩
abbrev cX7_isUnder : ByteArray := prog_1_method_47_code
def yX7_isUnder : MethodName := ⟨RX7, "isUnder", "(II)Z"⟩
def RX8 : String := "TakeDeskModel"
def TX8 : u_T := fun k => match k with
  | 0 => ("TakeDeskModel", "beats", "I", false)
  | 1 => ("TakeDeskModel", "loud", "[I", true)
  | 2 => ("TakeDeskModel", "length", "[I", true)
  | 3 => ("TakeDeskModel", "barred", "[Z", true)
  | 4 => ("TakeDeskModel", "kept", "[I", true)
  | 5 => ("TakeDeskModel", "kind", "[I", true)
  | 6 => ("TakeDeskModel", "first", "[I", true)
  | 7 => ("TakeDeskModel", "last", "[I", true)
  | 8 => ("TakeDeskModel", "more", "[I", true)
  | 9 => ("TakeDeskModel", "many", "[I", true)
  | 10 => ("TakeDeskModel", "samples", "[I", true)
  | 11 => ("TakeDeskModel", "marks", "[I", true)
  | 12 => ("TakeDeskModel", "hands", "[I", true)
  | 13 => ("TakeDeskModel", "laid", "[Z", true)
  | 14 => ("TakeDeskModel", "frames", "[I", true)
  | 15 => ("TakeDeskModel", "width", "I", false)
  | 16 => ("TakeDeskModel", "far", "I", false)
  | 17 => ("TakeDeskModel", "constant", "I", false)
  | 18 => ("TakeDeskModel", "ramp", "I", false)
  | 19 => ("TakeDeskModel", "hasWay", "Z", false)
  | 20 => ("TakeDeskModel", "theWay", "[I", true)
  | 21 => ("TakeDeskModel", "numbers", "[I", true)
  | 22 => ("TakeDeskModel", "numberMany", "I", false)
  | 23 => ("TakeDeskModel", "founds", "[I", true)
  | 24 => ("TakeDeskModel", "sums", "[I", true)
  | 25 => ("TakeDeskModel", "wMany", "[I", true)
  | 26 => ("TakeDeskModel", "wValue", "[I", true)
  | 27 => ("TakeDeskModel", "wJoins", "[I", true)
  | 28 => ("TakeDeskModel", "wNext", "[I", true)
  | 29 => ("TakeDeskModel", "wWhich", "[I", true)
  | 30 => ("TakeDeskModel", "costs", "[I", true)
  | 31 => ("TakeDeskModel", "tops", "[I", true)
  | 32 => ("TakeDeskModel", "fIs", "[Z", true)
  | 33 => ("TakeDeskModel", "fValue", "[I", true)
  | 34 => ("TakeDeskModel", "fJoins", "[I", true)
  | 35 => ("TakeDeskModel", "fNext", "[I", true)
  | 36 => ("TakeDeskModel", "mValue", "[I", true)
  | 37 => ("TakeDeskModel", "mTake", "[I", true)
  | 38 => ("TakeDeskModel", "mSample", "[I", true)
  | 39 => ("TakeDeskModel", "mBeat", "[I", true)
  | 40 => ("TakeDeskModel", "mRamp", "[Z", true)
  | _ => ("TakeDeskModel", "mMany", "I", false)
def tyX8 : Nat → FieldType := fun k => match k with
  | 0 => .int
  | 1 => .array .int
  | 2 => .array .int
  | 3 => .array .boolean
  | 4 => .array .int
  | 5 => .array .int
  | 6 => .array .int
  | 7 => .array .int
  | 8 => .array .int
  | 9 => .array .int
  | 10 => .array .int
  | 11 => .array .int
  | 12 => .array .int
  | 13 => .array .boolean
  | 14 => .array .int
  | 15 => .int
  | 16 => .int
  | 17 => .int
  | 18 => .int
  | 19 => .boolean
  | 20 => .array .int
  | 21 => .array .int
  | 22 => .int
  | 23 => .array .int
  | 24 => .array .int
  | 25 => .array .int
  | 26 => .array .int
  | 27 => .array .int
  | 28 => .array .int
  | 29 => .array .int
  | 30 => .array .int
  | 31 => .array .int
  | 32 => .array .boolean
  | 33 => .array .int
  | 34 => .array .int
  | 35 => .array .int
  | 36 => .array .int
  | 37 => .array .int
  | 38 => .array .int
  | 39 => .array .int
  | 40 => .array .boolean
  | _ => .int
abbrev wsX80 : List Cond := u_ws RX8 TX8 42
theorem nmX8 : ∀ a, a < 42 → ∀ b, b < 42 → a ≠ b → (TX8 a).2.1 ≠ (TX8 b).2.1 := by decide +kernel
theorem tyX8_ok : ∀ k, k < 42 → parseFieldDescriptor (TX8 k).2.2.1 = some (tyX8 k) := by decide +kernel
abbrev cX8_init : ByteArray := prog_10_method_1_code
def yX8_init : MethodName := ⟨RX8, "<init>", "()V"⟩
abbrev cX8_answer : ByteArray := prog_10_method_2_code
def yX8_answer : MethodName := ⟨RX8, "answer", "(I)I"⟩
abbrev cX8_in : ByteArray := prog_10_method_3_code
def yX8_in : MethodName := ⟨RX8, "in", "(III)Z"⟩
abbrev cX8_begin : ByteArray := prog_10_method_4_code
def yX8_begin : MethodName := ⟨RX8, "begin", "()V"⟩
abbrev cX8_layNone : ByteArray := prog_10_method_5_code
def yX8_layNone : MethodName := ⟨RX8, "layNone", "()V"⟩
abbrev cX8_score : ByteArray := prog_10_method_6_code
def yX8_score : MethodName := ⟨RX8, "score", "(I)I"⟩
abbrev cX8_isBeat : ByteArray := prog_10_method_7_code
def yX8_isBeat : MethodName := ⟨RX8, "isBeat", "(I)Z"⟩
abbrev cX8_beat : ByteArray := prog_10_method_8_code
def yX8_beat : MethodName := ⟨RX8, "beat", "(III)I"⟩
abbrev cX8_isTake : ByteArray := prog_10_method_9_code
def yX8_isTake : MethodName := ⟨RX8, "isTake", "(I)Z"⟩
abbrev cX8_isPart : ByteArray := prog_10_method_10_code
def yX8_isPart : MethodName := ⟨RX8, "isPart", "(I)Z"⟩
abbrev cX8_begins : ByteArray := prog_10_method_11_code
def yX8_begins : MethodName := ⟨RX8, "begins", "(I)I"⟩
abbrev cX8_ends : ByteArray := prog_10_method_12_code
def yX8_ends : MethodName := ⟨RX8, "ends", "(I)I"⟩
abbrev cX8_has : ByteArray := prog_10_method_13_code
def yX8_has : MethodName := ⟨RX8, "has", "(II)Z"⟩
abbrev cX8_look : ByteArray := prog_10_method_14_code
def yX8_look : MethodName := ⟨RX8, "look", "(I)I"⟩
abbrev cX8_take : ByteArray := prog_10_method_15_code
def yX8_take : MethodName := ⟨RX8, "take", "(IIIII)I"⟩
abbrev cX8_changed : ByteArray := prog_10_method_16_code
def yX8_changed : MethodName := ⟨RX8, "changed", "(I)V"⟩
abbrev cX8_tear : ByteArray := prog_10_method_17_code
def yX8_tear : MethodName := ⟨RX8, "tear", "(I)I"⟩
abbrev cX8_add : ByteArray := prog_10_method_18_code
def yX8_add : MethodName := ⟨RX8, "add", "(II)V"⟩
abbrev cX8_play : ByteArray := prog_10_method_19_code
def yX8_play : MethodName := ⟨RX8, "play", "(IIII)I"⟩
abbrev cX8_copy : ByteArray := prog_10_method_20_code
def yX8_copy : MethodName := ⟨RX8, "copy", "(IIIII)I"⟩
abbrev cX8_put : ByteArray := prog_10_method_21_code
def yX8_put : MethodName := ⟨RX8, "put", "(III)I"⟩
abbrev cX8_sample : ByteArray := prog_10_method_22_code
def yX8_sample : MethodName := ⟨RX8, "sample", "(II)I"⟩
abbrev cX8_as : ByteArray := prog_10_method_23_code
def yX8_as : MethodName := ⟨RX8, "as", "(II)I"⟩
abbrev cX8_frameMany : ByteArray := prog_10_method_24_code
def yX8_frameMany : MethodName := ⟨RX8, "frameMany", "(I)I"⟩
abbrev cX8_levelOf : ByteArray := prog_10_method_25_code
def yX8_levelOf : MethodName := ⟨RX8, "levelOf", "(II)I"⟩
abbrev cX8_level : ByteArray := prog_10_method_26_code
def yX8_level : MethodName := ⟨RX8, "level", "(II)I"⟩
abbrev cX8_hand : ByteArray := prog_10_method_27_code
def yX8_hand : MethodName := ⟨RX8, "hand", "(III)I"⟩
abbrev cX8_apart : ByteArray := prog_10_method_28_code
def yX8_apart : MethodName := ⟨RX8, "apart", "(II)I"⟩
abbrev cX8_behind : ByteArray := prog_10_method_29_code
def yX8_behind : MethodName := ⟨RX8, "behind", "(IIII)I"⟩
abbrev cX8_reckon : ByteArray := prog_10_method_30_code
def yX8_reckon : MethodName := ⟨RX8, "reckon", "(II)V"⟩
abbrev cX8_lay : ByteArray := prog_10_method_31_code
def yX8_lay : MethodName := ⟨RX8, "lay", "(I)I"⟩
abbrev cX8_frame : ByteArray := prog_10_method_32_code
def yX8_frame : MethodName := ⟨RX8, "frame", "(II)I"⟩
abbrev cX8_mark : ByteArray := prog_10_method_33_code
def yX8_mark : MethodName := ⟨RX8, "mark", "(III)I"⟩
abbrev cX8_worthOf : ByteArray := prog_10_method_34_code
def yX8_worthOf : MethodName := ⟨RX8, "worthOf", "(II)I"⟩
abbrev cX8_worth : ByteArray := prog_10_method_35_code
def yX8_worth : MethodName := ⟨RX8, "worth", "(II)I"⟩
abbrev cX8_set : ByteArray := prog_10_method_36_code
def yX8_set : MethodName := ⟨RX8, "set", "(II)I"⟩
abbrev cX8_frameOf : ByteArray := prog_10_method_37_code
def yX8_frameOf : MethodName := ⟨RX8, "frameOf", "(II)I"⟩
abbrev cX8_sampleOf : ByteArray := prog_10_method_38_code
def yX8_sampleOf : MethodName := ⟨RX8, "sampleOf", "(II)I"⟩
abbrev cX8_likeness : ByteArray := prog_10_method_39_code
def yX8_likeness : MethodName := ⟨RX8, "likeness", "(IIII)I"⟩
abbrev cX8_lookTwo : ByteArray := prog_10_method_40_code
def yX8_lookTwo : MethodName := ⟨RX8, "lookTwo", "(III)I"⟩
abbrev cX8_like : ByteArray := prog_10_method_41_code
def yX8_like : MethodName := ⟨RX8, "like", "(IIII)I"⟩
abbrev cX8_shiftOf : ByteArray := prog_10_method_42_code
def yX8_shiftOf : MethodName := ⟨RX8, "shiftOf", "(III)I"⟩
abbrev cX8_costOf : ByteArray := prog_10_method_43_code
def yX8_costOf : MethodName := ⟨RX8, "costOf", "(III)I"⟩
abbrev cX8_shift : ByteArray := prog_10_method_44_code
def yX8_shift : MethodName := ⟨RX8, "shift", "(III)I"⟩
abbrev cX8_cost : ByteArray := prog_10_method_45_code
def yX8_cost : MethodName := ⟨RX8, "cost", "(III)I"⟩
abbrev cX8_bar : ByteArray := prog_10_method_46_code
def yX8_bar : MethodName := ⟨RX8, "bar", "(IZ)I"⟩
abbrev cX8_keep : ByteArray := prog_10_method_47_code
def yX8_keep : MethodName := ⟨RX8, "keep", "(II)I"⟩
abbrev cX8_may : ByteArray := prog_10_method_48_code
def yX8_may : MethodName := ⟨RX8, "may", "(II)Z"⟩
abbrev cX8_mayJoin : ByteArray := prog_10_method_49_code
def yX8_mayJoin : MethodName := ⟨RX8, "mayJoin", "(III)Z"⟩
abbrev cX8_findCosts : ByteArray := prog_10_method_50_code
def yX8_findCosts : MethodName := ⟨RX8, "findCosts", "()V"⟩
abbrev cX8_enter : ByteArray := prog_10_method_51_code
def yX8_enter : MethodName := ⟨RX8, "enter", "(IIIII)V"⟩
abbrev cX8_isAhead : ByteArray := prog_10_method_52_code
def yX8_isAhead : MethodName := ⟨RX8, "isAhead", "(IIII)Z"⟩
abbrev cX8_findWays : ByteArray := prog_10_method_53_code
def yX8_findWays : MethodName := ⟨RX8, "findWays", "()V"⟩
abbrev cX8_goOn : ByteArray := prog_10_method_54_code
def yX8_goOn : MethodName := ⟨RX8, "goOn", "(IIII)V"⟩
abbrev cX8_best : ByteArray := prog_10_method_55_code
def yX8_best : MethodName := ⟨RX8, "best", "(I)I"⟩
abbrev cX8_isBefore : ByteArray := prog_10_method_56_code
def yX8_isBefore : MethodName := ⟨RX8, "isBefore", "(II)Z"⟩
abbrev cX8_follow : ByteArray := prog_10_method_57_code
def yX8_follow : MethodName := ⟨RX8, "follow", "(II)V"⟩
abbrev cX8_few : ByteArray := prog_10_method_58_code
def yX8_few : MethodName := ⟨RX8, "few", "(III)I"⟩
abbrev cX8_findFew : ByteArray := prog_10_method_59_code
def yX8_findFew : MethodName := ⟨RX8, "findFew", "(III)V"⟩
abbrev cX8_few_ : ByteArray := prog_10_method_60_code
def yX8_few_ : MethodName := ⟨RX8, "few", "(I)I"⟩
abbrev cX8_way : ByteArray := prog_10_method_61_code
def yX8_way : MethodName := ⟨RX8, "way", "(I)I"⟩
abbrev cX8_isJoin : ByteArray := prog_10_method_62_code
def yX8_isJoin : MethodName := ⟨RX8, "isJoin", "(I)Z"⟩
abbrev cX8_joins : ByteArray := prog_10_method_63_code
def yX8_joins : MethodName := ⟨RX8, "joins", "()I"⟩
abbrev cX8_make : ByteArray := prog_10_method_64_code
def yX8_make : MethodName := ⟨RX8, "make", "()V"⟩
abbrev cX8_makeRow : ByteArray := prog_10_method_65_code
def yX8_makeRow : MethodName := ⟨RX8, "makeRow", "(II)V"⟩
abbrev cX8_made : ByteArray := prog_10_method_66_code
def yX8_made : MethodName := ⟨RX8, "made", "()I"⟩
abbrev cX8_heard : ByteArray := prog_10_method_67_code
def yX8_heard : MethodName := ⟨RX8, "heard", "(I)I"⟩
abbrev cX8_from : ByteArray := prog_10_method_68_code
def yX8_from : MethodName := ⟨RX8, "from", "(II)I"⟩
abbrev cX8_tell : ByteArray := prog_10_method_69_code
def yX8_tell : MethodName := ⟨RX8, "tell", "(I)I"⟩
abbrev cX8_check : ByteArray := prog_10_method_70_code
def yX8_check : MethodName := ⟨RX8, "check", "()I"⟩
abbrev cX8_found : ByteArray := prog_10_method_71_code
def yX8_found : MethodName := ⟨RX8, "found", "(I)I"⟩
def RJ9 : String := "java/lang/Math"
def TJ9 : u_T := fun k => match k with
  | _ => ("", "", "", false)
def tyJ9 : Nat → FieldType := fun k => match k with
  | _ => .int
abbrev wsJ90 : List Cond := u_ws RJ9 TJ9 0
theorem nmJ9 : ∀ a, a < 0 → ∀ b, b < 0 → a ≠ b → (TJ9 a).2.1 ≠ (TJ9 b).2.1 := by decide +kernel
theorem tyJ9_ok : ∀ k, k < 0 → parseFieldDescriptor (TJ9 k).2.2.1 = some (tyJ9 k) := by decide +kernel
abbrev cJ9_floorDiv_7cf53 : ByteArray := prog_11_method_47_code
def yJ9_floorDiv_7cf53 : MethodName := ⟨RJ9, "floorDiv", "(II)I"⟩
abbrev cJ9_abs_0f7a4 : ByteArray := prog_11_method_59_code
def yJ9_abs_0f7a4 : MethodName := ⟨RJ9, "abs", "(I)I"⟩
abbrev cJ9_max_7cf53 : ByteArray := prog_11_method_65_code
def yJ9_max_7cf53 : MethodName := ⟨RJ9, "max", "(II)I"⟩
abbrev cJ9_min_7cf53 : ByteArray := prog_11_method_69_code
def yJ9_min_7cf53 : MethodName := ⟨RJ9, "min", "(II)I"⟩
def RJ7 : String := "java/util/Arrays"
def TJ7 : u_T := fun k => match k with
  | _ => ("", "", "", false)
def tyJ7 : Nat → FieldType := fun k => match k with
  | _ => .int
abbrev wsJ70 : List Cond := u_ws RJ7 TJ7 0
theorem nmJ7 : ∀ a, a < 0 → ∀ b, b < 0 → a ≠ b → (TJ7 a).2.1 ≠ (TJ7 b).2.1 := by decide +kernel
theorem tyJ7_ok : ∀ k, k < 0 → parseFieldDescriptor (TJ7 k).2.2.1 = some (tyJ7 k) := by decide +kernel
abbrev cJ7_fill_53178 : ByteArray := prog_12_method_103_code
def yJ7_fill_53178 : MethodName := ⟨RJ7, "fill", "([II)V"⟩
def RL : String := "TakeDeskLaw"
abbrev cL_law : ByteArray := code
def yL_law : MethodName := ⟨RL, "law", "([I)Z"⟩
end
section
/-! the shape of the heap behind the two constructors: groups of cells, by the order of their making -/
abbrev xcl : List vw_C := [(RX0, TX0, 8), (RX1, TX1, 8), (RX2, TX2, 3), (RX3, TX3, 8), (RX4, TX4, 5), (RX5, TX5, 8), (RX6, TX6, 11), (RX7, TX7, 9), (RX8, TX8, 42)]
/-- how many slots objects of a class have -/
def snf (ci : Nat) : Nat := [8, 8, 3, 8, 5, 8, 11, 9, 42].getD ci 0
/-- the kind of a group: objects of a class, or arrays (0 int, 1 boolean, from 2 on references) with their length -/
def skdL : List (Nat ⊕ (Nat × Nat)) := [.inl 7, .inl 4, .inr (0, 24), .inr (0, 24), .inr (1, 24), .inr (0, 24), .inr (2, 6), .inl 6, .inr (0, 400), .inr (0, 24), .inr (0, 25), .inr (0, 96), .inl 1, .inr (0, 40), .inr (0, 58), .inr (0, 864), .inr (0, 864), .inl 2, .inr (0, 40), .inr (0, 960), .inr (0, 960), .inl 0, .inr (0, 3480), .inr (0, 3480), .inr (0, 6), .inr (0, 6), .inr (0, 24), .inl 3, .inr (0, 24), .inr (3, 24), .inl 5, .inr (0, 7), .inr (0, 30), .inl 8, .inr (0, 24), .inr (0, 24), .inr (1, 24), .inr (0, 24), .inr (0, 6), .inr (0, 6), .inr (0, 6), .inr (0, 6), .inr (0, 6), .inr (0, 2400), .inr (0, 576), .inr (0, 144), .inr (1, 6), .inr (0, 144), .inr (0, 24), .inr (0, 30), .inr (0, 8), .inr (0, 960), .inr (0, 144), .inr (0, 2880), .inr (0, 2880), .inr (0, 2880), .inr (0, 2880), .inr (0, 864), .inr (0, 6), .inr (1, 3456), .inr (0, 3456), .inr (0, 3456), .inr (0, 3456), .inr (0, 9600), .inr (0, 9600), .inr (0, 9600), .inr (0, 9600), .inr (1, 9600)]
def skd (g : Nat) : Option (Nat ⊕ (Nat × Nat)) := skdL[g]?
def scnt (g : Nat) : Nat := [1, 1, 1, 1, 1, 1, 1, 6, 6, 6, 6, 6, 1, 1, 1, 1, 1, 1, 1, 1, 1, 1, 1, 1, 1, 1, 1, 1, 1, 1, 24, 1, 1, 1, 1, 1, 1, 1, 1, 1, 1, 1, 1, 1, 1, 1, 1, 1, 1, 1, 1, 1, 1, 1, 1, 1, 1, 1, 1, 1, 1, 1, 1, 1, 1, 1, 1, 1].getD g 0
def sbL : List (Nat × Nat) := [(0, 0), (1, 0), (2, 0), (3, 0), (4, 0), (5, 0), (6, 0), (7, 5), (8, 5), (9, 5), (10, 5), (11, 5), (37, 0), (38, 0), (39, 0), (40, 0), (41, 0), (42, 0), (43, 0), (44, 0), (45, 0), (46, 0), (47, 0), (48, 0), (49, 0), (50, 0), (51, 0), (52, 0), (53, 0), (54, 0), (55, 1), (79, 0), (80, 0), (81, 0), (82, 0), (83, 0), (84, 0), (85, 0), (86, 0), (87, 0), (88, 0), (89, 0), (90, 0), (91, 0), (92, 0), (93, 0), (94, 0), (95, 0), (96, 0), (97, 0), (98, 0), (99, 0), (100, 0), (101, 0), (102, 0), (103, 0), (104, 0), (105, 0), (106, 0), (107, 0), (108, 0), (109, 0), (110, 0), (111, 0), (112, 0), (113, 0), (114, 0), (115, 0)]
def pos (g i : Nat) : Nat := (sbL.getD g (0, 0)).1 + (sbL.getD g (0, 0)).2 * i
def cellsL : List (Nat × Nat) := [(0, 0), (1, 0), (2, 0), (3, 0), (4, 0), (5, 0), (6, 0), (7, 0), (8, 0), (9, 0), (10, 0), (11, 0), (7, 1), (8, 1), (9, 1), (10, 1), (11, 1), (7, 2), (8, 2), (9, 2), (10, 2), (11, 2), (7, 3), (8, 3), (9, 3), (10, 3), (11, 3), (7, 4), (8, 4), (9, 4), (10, 4), (11, 4), (7, 5), (8, 5), (9, 5), (10, 5), (11, 5), (12, 0), (13, 0), (14, 0), (15, 0), (16, 0), (17, 0), (18, 0), (19, 0), (20, 0), (21, 0), (22, 0), (23, 0), (24, 0), (25, 0), (26, 0), (27, 0), (28, 0), (29, 0), (30, 0), (30, 1), (30, 2), (30, 3), (30, 4), (30, 5), (30, 6), (30, 7), (30, 8), (30, 9), (30, 10), (30, 11), (30, 12), (30, 13), (30, 14), (30, 15), (30, 16), (30, 17), (30, 18), (30, 19), (30, 20), (30, 21), (30, 22), (30, 23), (31, 0), (32, 0), (33, 0), (34, 0), (35, 0), (36, 0), (37, 0), (38, 0), (39, 0), (40, 0), (41, 0), (42, 0), (43, 0), (44, 0), (45, 0), (46, 0), (47, 0), (48, 0), (49, 0), (50, 0), (51, 0), (52, 0), (53, 0), (54, 0), (55, 0), (56, 0), (57, 0), (58, 0), (59, 0), (60, 0), (61, 0), (62, 0), (63, 0), (64, 0), (65, 0), (66, 0), (67, 0)]
def stauL : List (List (Option (Nat × Nat))) := [[some (1, 0), some (6, 0), some (17, 0), some (12, 0), some (21, 0), some (27, 0), some (31, 0), some (32, 0), none], [none, some (2, 0), some (3, 0), some (4, 0), some (5, 0)], [], [], [], [], [], [none, none, none, none, none, none, none, some (8, 1), some (9, 1), some (10, 1), some (11, 1)], [], [], [], [], [some (6, 0), none, none, none, some (13, 0), some (14, 0), some (15, 0), some (16, 0)], [], [], [], [], [some (18, 0), some (19, 0), some (20, 0)], [], [], [], [some (1, 0), some (6, 0), some (12, 0), some (22, 0), some (23, 0), some (24, 0), some (25, 0), some (26, 0)], [], [], [], [], [], [some (6, 0), some (12, 0), none, none, some (28, 0), some (29, 0), none, none], [], [], [none, none, none, none, none, none, none, none], [], [], [none, some (34, 0), some (35, 0), some (36, 0), some (37, 0), some (38, 0), some (39, 0), some (40, 0), some (41, 0), some (42, 0), some (43, 0), some (44, 0), some (45, 0), some (46, 0), some (47, 0), none, none, none, none, none, some (48, 0), some (49, 0), none, some (50, 0), some (51, 0), some (52, 0), some (53, 0), some (54, 0), some (55, 0), some (56, 0), some (57, 0), some (58, 0), some (59, 0), some (60, 0), some (61, 0), some (62, 0), some (63, 0), some (64, 0), some (65, 0), some (66, 0), some (67, 0), none], [], [], [], [], [], [], [], [], [], [], [], [], [], [], [], [], [], [], [], [], [], [], [], [], [], [], [], [], [], [], [], [], [], []]
/-- what a field of references holds in the end -/
def tau (g i k : Nat) : Option (Nat × Nat) := match (stauL.getD g []).getD k none with
  | none => none
  | some (h, 0) => some (h, 0)
  | some (h, _) => some (h, i)
/-- the group of the elements of an array of references, by its type -/
def rtg (t : Nat) : Nat := [0, 0, 7, 30].getD t 0
def rcl (t : Nat) : String := ["", "", RX6, RX5].getD t ""
/-- what the constructors do to the heap's shape, in turn: (0, g, i, 0) a cell comes, (1, g, i, k) a reference is set -/
def evs : List (Nat × Nat × Nat × Nat) := [(0, 0, 0, 0), (0, 1, 0, 0), (0, 2, 0, 0), (1, 1, 0, 1), (0, 3, 0, 0), (1, 1, 0, 2), (0, 4, 0, 0), (1, 1, 0, 3), (0, 5, 0, 0), (1, 1, 0, 4), (0, 6, 0, 0), (0, 7, 0, 0), (0, 8, 0, 0), (1, 7, 0, 7), (0, 9, 0, 0), (1, 7, 0, 8), (0, 10, 0, 0), (1, 7, 0, 9), (0, 11, 0, 0), (1, 7, 0, 10), (1, 6, 0, 0), (0, 7, 1, 0), (0, 8, 1, 0), (1, 7, 1, 7), (0, 9, 1, 0), (1, 7, 1, 8), (0, 10, 1, 0), (1, 7, 1, 9), (0, 11, 1, 0), (1, 7, 1, 10), (1, 6, 0, 1), (0, 7, 2, 0), (0, 8, 2, 0), (1, 7, 2, 7), (0, 9, 2, 0), (1, 7, 2, 8), (0, 10, 2, 0), (1, 7, 2, 9), (0, 11, 2, 0), (1, 7, 2, 10), (1, 6, 0, 2), (0, 7, 3, 0), (0, 8, 3, 0), (1, 7, 3, 7), (0, 9, 3, 0), (1, 7, 3, 8), (0, 10, 3, 0), (1, 7, 3, 9), (0, 11, 3, 0), (1, 7, 3, 10), (1, 6, 0, 3), (0, 7, 4, 0), (0, 8, 4, 0), (1, 7, 4, 7), (0, 9, 4, 0), (1, 7, 4, 8), (0, 10, 4, 0), (1, 7, 4, 9), (0, 11, 4, 0), (1, 7, 4, 10), (1, 6, 0, 4), (0, 7, 5, 0), (0, 8, 5, 0), (1, 7, 5, 7), (0, 9, 5, 0), (1, 7, 5, 8), (0, 10, 5, 0), (1, 7, 5, 9), (0, 11, 5, 0), (1, 7, 5, 10), (1, 6, 0, 5), (0, 12, 0, 0), (0, 13, 0, 0), (1, 12, 0, 4), (0, 14, 0, 0), (1, 12, 0, 5), (0, 15, 0, 0), (1, 12, 0, 6), (0, 16, 0, 0), (1, 12, 0, 7), (1, 12, 0, 0), (1, 0, 0, 0), (1, 0, 0, 1), (0, 17, 0, 0), (0, 18, 0, 0), (1, 17, 0, 0), (0, 19, 0, 0), (1, 17, 0, 1), (0, 20, 0, 0), (1, 17, 0, 2), (1, 0, 0, 2), (1, 0, 0, 3), (0, 21, 0, 0), (0, 22, 0, 0), (1, 21, 0, 3), (0, 23, 0, 0), (1, 21, 0, 4), (0, 24, 0, 0), (1, 21, 0, 5), (0, 25, 0, 0), (1, 21, 0, 6), (0, 26, 0, 0), (1, 21, 0, 7), (1, 21, 0, 0), (1, 21, 0, 1), (1, 21, 0, 2), (1, 0, 0, 4), (0, 27, 0, 0), (0, 28, 0, 0), (1, 27, 0, 4), (0, 29, 0, 0), (1, 27, 0, 5), (1, 27, 0, 0), (1, 27, 0, 1), (0, 30, 0, 0), (1, 29, 0, 0), (0, 30, 1, 0), (1, 29, 0, 1), (0, 30, 2, 0), (1, 29, 0, 2), (0, 30, 3, 0), (1, 29, 0, 3), (0, 30, 4, 0), (1, 29, 0, 4), (0, 30, 5, 0), (1, 29, 0, 5), (0, 30, 6, 0), (1, 29, 0, 6), (0, 30, 7, 0), (1, 29, 0, 7), (0, 30, 8, 0), (1, 29, 0, 8), (0, 30, 9, 0), (1, 29, 0, 9), (0, 30, 10, 0), (1, 29, 0, 10), (0, 30, 11, 0), (1, 29, 0, 11), (0, 30, 12, 0), (1, 29, 0, 12), (0, 30, 13, 0), (1, 29, 0, 13), (0, 30, 14, 0), (1, 29, 0, 14), (0, 30, 15, 0), (1, 29, 0, 15), (0, 30, 16, 0), (1, 29, 0, 16), (0, 30, 17, 0), (1, 29, 0, 17), (0, 30, 18, 0), (1, 29, 0, 18), (0, 30, 19, 0), (1, 29, 0, 19), (0, 30, 20, 0), (1, 29, 0, 20), (0, 30, 21, 0), (1, 29, 0, 21), (0, 30, 22, 0), (1, 29, 0, 22), (0, 30, 23, 0), (1, 29, 0, 23), (1, 0, 0, 5), (0, 31, 0, 0), (1, 0, 0, 6), (0, 32, 0, 0), (1, 0, 0, 7), (0, 33, 0, 0), (0, 34, 0, 0), (1, 33, 0, 1), (0, 35, 0, 0), (1, 33, 0, 2), (0, 36, 0, 0), (1, 33, 0, 3), (0, 37, 0, 0), (1, 33, 0, 4), (0, 38, 0, 0), (1, 33, 0, 5), (0, 39, 0, 0), (1, 33, 0, 6), (0, 40, 0, 0), (1, 33, 0, 7), (0, 41, 0, 0), (1, 33, 0, 8), (0, 42, 0, 0), (1, 33, 0, 9), (0, 43, 0, 0), (1, 33, 0, 10), (0, 44, 0, 0), (1, 33, 0, 11), (0, 45, 0, 0), (1, 33, 0, 12), (0, 46, 0, 0), (1, 33, 0, 13), (0, 47, 0, 0), (1, 33, 0, 14), (0, 48, 0, 0), (1, 33, 0, 20), (0, 49, 0, 0), (1, 33, 0, 21), (0, 50, 0, 0), (1, 33, 0, 23), (0, 51, 0, 0), (1, 33, 0, 24), (0, 52, 0, 0), (1, 33, 0, 25), (0, 53, 0, 0), (1, 33, 0, 26), (0, 54, 0, 0), (1, 33, 0, 27), (0, 55, 0, 0), (1, 33, 0, 28), (0, 56, 0, 0), (1, 33, 0, 29), (0, 57, 0, 0), (1, 33, 0, 30), (0, 58, 0, 0), (1, 33, 0, 31), (0, 59, 0, 0), (1, 33, 0, 32), (0, 60, 0, 0), (1, 33, 0, 33), (0, 61, 0, 0), (1, 33, 0, 34), (0, 62, 0, 0), (1, 33, 0, 35), (0, 63, 0, 0), (1, 33, 0, 36), (0, 64, 0, 0), (1, 33, 0, 37), (0, 65, 0, 0), (1, 33, 0, 38), (0, 66, 0, 0), (1, 33, 0, 39), (0, 67, 0, 0), (1, 33, 0, 40)]
def SF : Nat := 236
/-- the static arrays that nobody writes: 101 and on -/
def xsa101 : List Int32 := [-1, 0, 1, 0, 3]
-- 101: TakeDesk.KIND_ABOVE
def xsa102 : List Int32 := [-300, -100, -50, 200]
-- 102: TakeDesk.MARK_WORTH
def onm (o : Nat) : String := [RX0, RX1, RX2, RX3, RX4, RX5, RX6, RX7, RX8, RJ9, RJ7, RL].getD o ""
/-- fields that are named by a constant pool: class, entry, the class of the field, its slot -/
def fldT : List (Nat × Nat × Nat × Nat) := [(7, 20, 7, 0), (7, 24, 7, 1), (7, 31, 7, 2), (7, 35, 7, 3), (7, 44, 7, 4), (7, 53, 7, 5), (7, 57, 7, 6), (7, 61, 7, 7), (7, 64, 7, 8), (7, 84, 3, 2), (7, 92, 4, 1), (7, 95, 4, 2), (7, 111, 4, 0), (7, 121, 6, 0), (7, 134, 6, 6), (7, 156, 6, 2), (7, 160, 6, 4), (7, 163, 6, 3), (7, 175, 6, 8), (7, 186, 6, 1), (7, 193, 6, 9), (7, 196, 6, 10), (7, 208, 1, 1), (7, 214, 1, 2), (7, 217, 1, 3), (7, 220, 3, 3), (7, 237, 4, 3), (7, 241, 4, 4), (7, 253, 3, 4), (7, 259, 3, 7), (7, 270, 5, 0), (7, 278, 5, 1), (7, 296, 0, 7), (0, 9, 0, 3), (0, 15, 0, 4), (0, 18, 0, 5), (0, 21, 0, 6), (0, 24, 0, 7), (0, 27, 0, 0), (0, 31, 0, 1), (0, 35, 0, 2), (0, 39, 6, 0), (0, 45, 6, 1), (0, 52, 4, 4), (0, 57, 4, 0), (0, 108, 4, 3), (1, 9, 1, 1), (1, 15, 1, 2), (1, 18, 1, 3), (1, 21, 1, 4), (1, 25, 1, 5), (1, 28, 1, 6), (1, 31, 1, 7), (1, 34, 1, 0), (1, 81, 6, 6), (1, 84, 6, 7), (2, 9, 2, 0), (2, 15, 2, 1), (2, 18, 2, 2), (2, 37, 6, 4), (2, 41, 6, 3), (2, 55, 6, 8), (2, 58, 4, 2), (2, 67, 4, 1), (2, 73, 6, 9), (2, 76, 6, 1), (3, 9, 3, 3), (3, 15, 3, 4), (3, 21, 3, 5), (3, 25, 3, 0), (3, 29, 3, 1), (3, 34, 3, 6), (3, 37, 3, 7), (3, 44, 3, 2), (3, 48, 5, 0), (3, 51, 5, 1), (3, 54, 5, 2), (3, 57, 5, 3), (3, 66, 5, 4), (3, 75, 6, 6), (3, 84, 5, 5), (3, 90, 5, 6), (3, 93, 5, 7), (4, 9, 4, 1), (4, 15, 4, 2), (4, 18, 4, 3), (4, 22, 4, 4), (4, 29, 4, 0), (5, 7, 5, 6), (5, 13, 5, 5), (5, 16, 5, 7), (6, 9, 6, 7), (6, 15, 6, 8), (6, 18, 6, 9), (6, 21, 6, 10), (6, 24, 6, 0), (6, 28, 6, 2), (6, 32, 6, 3), (6, 35, 6, 4), (6, 38, 6, 5), (6, 41, 6, 6), (6, 47, 6, 1), (8, 7, 8, 0), (8, 13, 8, 1), (8, 17, 8, 2), (8, 20, 8, 3), (8, 24, 8, 4), (8, 27, 8, 5), (8, 30, 8, 6), (8, 33, 8, 7), (8, 36, 8, 8), (8, 39, 8, 9), (8, 42, 8, 10), (8, 45, 8, 11), (8, 48, 8, 12), (8, 51, 8, 13), (8, 54, 8, 14), (8, 57, 8, 15), (8, 60, 8, 16), (8, 63, 8, 17), (8, 66, 8, 18), (8, 69, 8, 20), (8, 72, 8, 21), (8, 75, 8, 23), (8, 78, 8, 24), (8, 81, 8, 25), (8, 84, 8, 26), (8, 87, 8, 27), (8, 90, 8, 28), (8, 93, 8, 29), (8, 96, 8, 30), (8, 99, 8, 31), (8, 102, 8, 32), (8, 105, 8, 33), (8, 108, 8, 34), (8, 111, 8, 35), (8, 114, 8, 36), (8, 117, 8, 37), (8, 120, 8, 38), (8, 123, 8, 39), (8, 126, 8, 40), (8, 138, 8, 19), (8, 277, 8, 41), (8, 289, 8, 22)]
def cstT : List (Nat × Nat × Int32) := [(7, 72, -1000001), (7, 124, -1000004), (7, 129, -1000005), (7, 130, 1103515245), (7, 159, -1000003), (7, 182, -1000007), (7, 189, -1000006), (7, 288, -1000002), (7, 295, -2000000000), (0, 65, -2000000000), (8, 132, -1000001), (8, 133, -1000007), (8, 134, -1000000), (8, 166, -1000002), (8, 174, -1000004), (8, 175, -1000005), (8, 176, 1103515245), (8, 190, -1000003), (8, 201, 1000000000), (8, 212, -1000006)]
def cstLT : List (Nat × Nat × Nat) := [(8, 222, 2000)]
abbrev wAll : List Cond := lw_tbl.filter goodWord
/-- words on nest mates, which go from state to state on their own -/
def nwW : List Cond := [.methodLinkNest "TakeDesk" 14 ⟨"TakeDesk$Take", "<init>", "()V"⟩ "TakeDesk", .methodLinkNest "TakeDesk" 30 ⟨"TakeDesk$Layer", "<init>", "()V"⟩ "TakeDesk", .methodLinkNest "TakeDesk$Playing" 33 ⟨"TakeDesk$Stretch", "<init>", "()V"⟩ "TakeDesk", .methodLinkNest "TakeDesk$Take" 56 ⟨"TakeDesk", "isUnder", "(II)Z"⟩ "TakeDesk", .fieldLinkNest "TakeDesk$Take" 68 "TakeDesk" "MARK_WORTH" "[I" "TakeDesk"]
theorem nw_warm {s U : State} (hW : s.WarmedH U.vm) (h : ∀ w ∈ nwW, va_Nw w s) : ∀ w ∈ nwW, va_Nw w U := by
  intro w hw
  have h0 := h w hw
  simp only [nwW, List.mem_cons, List.not_mem_nil, or_false] at hw
  rcases hw with rfl | rfl | rfl | rfl | rfl <;> first | exact va_Nw.warmF hW h0 | exact va_Nw.warmM hW h0
theorem nw_same {s U : State} (hv : s.vm = U.vm) (h : ∀ w ∈ nwW, va_Nw w s) : ∀ w ∈ nwW, va_Nw w U := fun w hw => va_Nw.same ((by decide +kernel : ∀ w ∈ nwW, w.onTables = true) w hw) hv (h w hw)
end
section
/-! ===== the classes and links, by program ===== -/
def sty (ci : Nat) : Nat → FieldType := [tyX0, tyX1, tyX2, tyX3, tyX4, tyX5, tyX6, tyX7, tyX8].getD ci (fun _ => .int)
def clOk (ci : Nat) (r : vw_C) : Prop := (∀ w ∈ u_ws r.1 r.2.1 r.2.2, w ∈ wAll) ∧ (∀ a, a < r.2.2 → ∀ b, b < r.2.2 → a ≠ b → (r.2.1 a).2.1 ≠ (r.2.1 b).2.1) ∧ (∀ k, k < r.2.2 → parseFieldDescriptor (r.2.1 k).2.2.1 = some (sty ci k)) ∧ snf ci = r.2.2
theorem wX0_in : ∀ w ∈ wsX00, w ∈ wAll := by decide +kernel
theorem wX1_in : ∀ w ∈ wsX10, w ∈ wAll := by decide +kernel
theorem wX2_in : ∀ w ∈ wsX20, w ∈ wAll := by decide +kernel
theorem wX3_in : ∀ w ∈ wsX30, w ∈ wAll := by decide +kernel
theorem wX4_in : ∀ w ∈ wsX40, w ∈ wAll := by decide +kernel
theorem wX5_in : ∀ w ∈ wsX50, w ∈ wAll := by decide +kernel
theorem wX6_in : ∀ w ∈ wsX60, w ∈ wAll := by decide +kernel
theorem wX7_in : ∀ w ∈ wsX70, w ∈ wAll := by decide +kernel
theorem wX8_in : ∀ w ∈ wsX80, w ∈ wAll := by decide +kernel
theorem cl_ok : ∀ (ci : Nat) (r : vw_C), xcl[ci]? = some r → clOk ci r
  | 0, r, h => by cases h; exact ⟨wX0_in, nmX0, tyX0_ok, rfl⟩
  | 1, r, h => by cases h; exact ⟨wX1_in, nmX1, tyX1_ok, rfl⟩
  | 2, r, h => by cases h; exact ⟨wX2_in, nmX2, tyX2_ok, rfl⟩
  | 3, r, h => by cases h; exact ⟨wX3_in, nmX3, tyX3_ok, rfl⟩
  | 4, r, h => by cases h; exact ⟨wX4_in, nmX4, tyX4_ok, rfl⟩
  | 5, r, h => by cases h; exact ⟨wX5_in, nmX5, tyX5_ok, rfl⟩
  | 6, r, h => by cases h; exact ⟨wX6_in, nmX6, tyX6_ok, rfl⟩
  | 7, r, h => by cases h; exact ⟨wX7_in, nmX7, tyX7_ok, rfl⟩
  | 8, r, h => by cases h; exact ⟨wX8_in, nmX8, tyX8_ok, rfl⟩
  | k + 9, r, h => by simp [xcl] at h
/-- a field's word, as it stands in the tables -/
def flW (e : Nat × Nat × Nat × Nat) : Cond := .fieldLink (onm e.1) e.2.1 ((xcl.getD e.2.2.1 ("", TX0, 0)).2.1 e.2.2.2).1 ((xcl.getD e.2.2.1 ("", TX0, 0)).2.1 e.2.2.2).2.1 ((xcl.getD e.2.2.1 ("", TX0, 0)).2.1 e.2.2.2).2.2.1
def flOk (e : Nat × Nat × Nat × Nat) : Bool := decide (e.2.2.1 < 9) && decide (e.2.2.2 < (xcl.getD e.2.2.1 ("", TX0, 0)).2.2)
theorem fld_in1 : ∀ e ∈ fldT, flOk e = true := by decide +kernel
set_option maxRecDepth 100000 in
theorem fld_in2 : ∀ e ∈ fldT, flW e ∈ wAll := by decide +kernel
theorem cst_in : ∀ e ∈ cstT, Cond.constant (onm e.1) e.2.1 e.2.2 ∈ wAll := by decide +kernel
theorem cstL_in : ∀ e ∈ cstLT, Cond.constantLong (onm e.1) e.2.1 (Int64.ofNat e.2.2) ∈ wAll := by decide +kernel
theorem xs101_in : Cond.fieldLink RX7 309 "TakeDesk" "KIND_ABOVE" "[I" ∈ wAll := by decide +kernel
theorem xs102_in : Cond.fieldLinkNest RX6 68 "TakeDesk" "MARK_WORTH" "[I" RX7 ∈ nwW := by decide +kernel
theorem good_all {w : Cond} (h : w ∈ wAll) : goodWord w = true := (List.mem_filter.mp h).2
theorem goodIn_all : GoodIn wAll wAll := fun _ h => ⟨h, good_of_word (good_all h)⟩
end
section
/-! ===== the pure machine: values, memory, the heap's picture ===== -/
abbrev PV : Type := Int32 ⊕ (Int64 ⊕ (Nat × Nat))
abbrev vI (x : Int32) : PV := .inl x
abbrev vL (x : Int64) : PV := .inr (.inl x)
abbrev vR (g i : Nat) : PV := .inr (.inr (g, i))
abbrev Mem : Type := Nat → Nat → Nat → Int32
abbrev LC : Type := List (Option PV)
/-- a cell's number changed -/
def mup (I : Mem) (g i k : Nat) (v : Int32) : Mem := fun a b c => if a = g ∧ b = i ∧ c = k then v else I a b c
/-- a cell that comes is all 0 -/
def mz (I : Mem) (g i : Nat) : Mem := fun a b c => if a = g ∧ b = i then 0 else I a b c
/-- the world's constants: where the new cells begin, class numbers, array classes, the script, static arrays -/
abbrev GX : Type := Nat × va_G × (Nat → ClassId) × (Nat × Nat × (Nat → Int32)) × (Nat × Nat)
abbrev gA (G : GX) : Nat → Prop := fun q => G.1 ≤ q
def cnS (s : Nat) : Nat := ((evs.take s).filter (fun e => e.1 == 0)).length
def csz (g : Nat) : Nat := match skd g with
  | some (.inl ci) => snf ci
  | some (.inr (_, n)) => n
  | none => 0
def slS (s : Nat) : Nat := (((evs.take s).filter (fun e => e.1 == 0)).map (fun e => csz e.2.1)).sum
def sA (s g i k : Nat) : Bool := (evs.take s).contains (1, g, i, k)
def svv (G : GX) (s : Nat) (I : Mem) (g i j : Nat) : Value := match tau g i j with
  | none => .int (I g i j)
  | some (h, b) => if sA s g i j = true then .ref (G.1 + pos h b) else .null
def cG (G : GX) (s : Nat) (I : Mem) (g i : Nat) : va_E := match skd g with
  | some (.inl ci) => .inr (ci, (List.range (snf ci)).map (fun j => svv G s I g i j))
  | some (.inr (t, n)) => if t < 2 then .inl (G.2.2.1 t, n, .inl (I g i)) else .inl (G.2.2.1 t, n, .inr (.inr (.inr (.inr (fun j => if sA s g i j = true then some (G.1 + pos (rtg t) j) else none)))))
  | none => .inr (0, [])
def cE (G : GX) (s : Nat) (I : Mem) (k : Nat) : Nat × va_E := (G.1 + k, cG G s I (cellsL.getD k (0, 0)).1 (cellsL.getD k (0, 0)).2)
def wsG (G : GX) (s : Nat) (I : Mem) : va_W := (List.range (cnS s)).map (cE G s I)
abbrev tysG (G : GX) : List (ClassId × FieldType) := [(G.2.2.1 0, .int), (G.2.2.1 1, .boolean), (G.2.2.1 2, .object (rcl 2)), (G.2.2.1 3, .object (rcl 3))]
def ada (G : GX) (g i : Nat) : Nat := if g < 100 then G.1 + pos g i else if g = 100 then G.2.2.2.1.1 else if g = 101 then G.2.2.2.2.1 else G.2.2.2.2.2
def tvv (G : GX) (v : PV) : Value := match v with
  | .inl x => .int x
  | .inr (.inl x) => .long x
  | .inr (.inr (g, i)) => .ref (ada G g i)
/-- a reference is good at a stage -/
def rok (s g i : Nat) : Prop := (g < 100 ∧ i < scnt g ∧ pos g i < cnS s) ∨ (100 ≤ g ∧ g < 103 ∧ i = 0)
def pok (s : Nat) (v : PV) : Prop := match v with
  | .inr (.inr (g, i)) => rok s g i
  | _ => True
def lok (s : Nat) (L : LC) : Prop := ∀ v, some v ∈ L → pok s v
def sok (s : Nat) (st : List PV) : Prop := ∀ v ∈ st, pok s v
def lvl (G : GX) : Nat → LC → List (Nat × Value)
  | _, [] => []
  | k, none :: t => lvl G (k + 1) t
  | k, some v :: t => (k, tvv G v) :: lvl G (k + 1) t
/-- the numbers that nobody writes stand in the memory, too -/
def xok (G : GX) (I : Mem) : Prop := (∀ j, I 100 0 j = G.2.2.2.1.2.2 j) ∧ I 103 0 0 = nI G.2.2.2.1.2.1 ∧ (∀ j, I 101 0 j = xsa101.getD j 0) ∧ ∀ j, I 102 0 j = xsa102.getD j 0
def HW (G : GX) (s : Nat) (I : Mem) (H : Heap) : Prop := va_P G.2.1 xcl (wsG G s I) H ∧ H.size = G.1 + cnS s ∧ xok G I
/-- what a method's start state must give beside its heap -/
def FX (G : GX) (U : State) : Prop := va_K G.2.1 xcl (tysG G) U ∧ (va_X G.2.2.2.1.1 G.2.2.2.1.2.1 G.2.2.2.1.2.2 U U.heap ∧ G.2.2.2.1.1 < G.1 ∧ G.2.2.2.1.2.1 < 2 ^ 31) ∧
  (va_Z "TakeDesk" "KIND_ABOVE" "[I" (.ref G.2.2.2.2.1) (gA G) U U.heap ∧ va_T .int G.2.2.2.2.1 5 (fun j => .int (xsa101.getD j 0)) (gA G) U U.heap) ∧
  (va_Z "TakeDesk" "MARK_WORTH" "[I" (.ref G.2.2.2.2.2) (gA G) U U.heap ∧ va_T .int G.2.2.2.2.2 4 (fun j => .int (xsa102.getD j 0)) (gA G) U U.heap) ∧ G.1 ≤ U.heap.size ∧ (∀ w ∈ nwW, va_Nw w U) ∧ va_AO (rcl 2) U ∧ va_AO (rcl 3) U
/-- a method: its class, its name, its code, locals, answer, room -/
abbrev MD : Type := Nat × MethodName × ByteArray × Nat × Option FieldType × Nat × Nat
abbrev rmM (M : MD) (s s' : Nat) : Room := { frames := M.2.2.2.2.2.1, cells := cnS s' - cnS s, slots := slS s' - slS s, locals := M.2.2.2.2.2.2 }
abbrev wsM (M : MD) : List Cond := .code M.2.1 M.2.2.1 M.2.2.2.1 M.2.2.2.2.1 :: wAll
/-- the frame's own facts -/
def FC (G : GX) (M : MD) (p : Program) (R : Room) (s0 : State) (mid : MethodId) (args : Array Value) (meth : Method) (c : Code) : Prop :=
  p.tables.exec = Jvm.exec ∧ c.code = M.2.2.1 ∧ c.maxLocals = M.2.2.2.1 ∧ s0.vm.findClass (onm M.1) = some mid.cls ∧ (∀ w ∈ wAll, w.before args s0 = true) ∧ meth.name = M.2.1.name ∧ M.2.2.2.2.2.1 ≤ R.frames ∧ M.2.2.2.2.2.2 ≤ R.locals ∧ FX G s0
/-- how a frame may end: by any instruction that answers r, with the heap's picture I' -/
def retI (r : Option PV) : Instr := match r with
  | none => .return_
  | some (.inl _) => .ireturn
  | some (.inr (.inl _)) => .lreturn
  | some (.inr (.inr _)) => .areturn
/-- an answer fits the method's kind -/
def retOk (M : MD) (r : Option PV) : Prop := match M.2.2.2.2.1, r with
  | some .int, some (.inl _) => True
  | some .boolean, some (.inl v) => v = 0 ∨ v = 1
  | some (.object _), some (.inr (.inr _)) => True
  | none, none => True
  | _, _ => False
def LV (G : GX) (M : MD) (L : LC) (ls : Array Slot) : Prop := lv_has ls M.2.2.2.1 (lvl G 0 L) ∧ L.length = M.2.2.2.1
/-- the judgement: from here the method answers as X says, if X says anything -/
def RR (M : MD) (s s' : Nat) (pc : Nat) (L : LC) (st : List PV) (I : Mem) (X : Option (Option PV × Mem)) : Prop :=
  ∀ (r : Option PV) (I' : Mem), X = some (r, I') → lok s L → sok s st → s ≤ s' →
  ∀ (G : GX) (p : Program) (l : Launch) (e : Env) (R : Room) (s0 : State) (mid : MethodId) (args : Array Value) (below : List Frame) (meth : Method) (c : Code) (Q : State → Prop) (c0 z0 : Nat),
    FC G M p R s0 mid args meth c → cnS s' ≤ R.cells + c0 → slS s' ≤ R.slots + z0 →
    (∀ (H : Heap) (locs : List Loc) (cells slots pc : Nat) (ls : Array Slot), retOk M r → (∀ v, r = some v → pok s' v) → HW G s' I' H → va_S (gA G) s0.heap H locs → cells + c0 = cnS s' → slots + z0 = slS s' → decode M.2.2.1 pc = .ok (retI r, 1) → W p l e R s0 mid args below meth c H locs cells slots Q (F0 mid pc ls (r.map (tvv G)).toList)) →
    ∀ (H : Heap) (locs : List Loc) (cells slots : Nat) (ls : Array Slot), HW G s I H → va_S (gA G) s0.heap H locs → cells + c0 = cnS s → slots + z0 = slS s → LV G M L ls →
      W p l e R s0 mid args below meth c H locs cells slots Q (F0 mid pc ls (st.map (tvv G)))
end
section
theorem cn_take {a b : Nat} (h : a ≤ b) : ∃ t, evs.take b = evs.take a ++ t := ⟨(evs.take b).drop a, by
  have h1 : evs.take a = (evs.take b).take a := by rw [List.take_take, Nat.min_eq_left h]
  rw [h1, List.take_append_drop]⟩
theorem cnS_le {a b : Nat} (h : a ≤ b) : cnS a ≤ cnS b := by
  obtain ⟨t, ht⟩ := cn_take h
  simp [cnS, ht]
theorem slS_le {a b : Nat} (h : a ≤ b) : slS a ≤ slS b := by
  obtain ⟨t, ht⟩ := cn_take h
  simp [slS, ht]
theorem sA_le {a b g i k : Nat} (h : a ≤ b) (hs : sA a g i k = true) : sA b g i k = true := by
  obtain ⟨t, ht⟩ := cn_take h
  unfold sA at hs ⊢
  rw [ht]
  simp only [List.contains_iff_mem, List.mem_append] at hs ⊢
  exact Or.inl hs
theorem scnt_hi {g : Nat} (h : 100 ≤ g) : scnt g = 0 := by
  unfold scnt
  rw [List.getD_eq_getElem?_getD, List.getElem?_eq_none]
  · rfl
  · exact Nat.le_trans (by decide) h
theorem scnt_le (g : Nat) : scnt g ≤ 24 := by
  by_cases h : g < 100
  · have : ∀ g, g < 100 → scnt g ≤ 24 := by decide +kernel
    exact this g h
  · rw [scnt_hi (Nat.not_lt.mp h)]; decide
theorem cells_at {g i : Nat} (h : i < scnt g) : cellsL.getD (pos g i) (0, 0) = (g, i) := by
  have hg : g < 100 := by
    rcases Nat.lt_or_ge g 100 with q | q
    · exact q
    · rw [scnt_hi q] at h; omega
  have h24 : i < 24 := Nat.lt_of_lt_of_le h (scnt_le g)
  have : ∀ g, g < 100 → ∀ i, i < 24 → i < scnt g → cellsL.getD (pos g i) (0, 0) = (g, i) := by decide +kernel
  exact this g hg i h24 h
theorem cells_of {k : Nat} (h : k < cnS SF) : (cellsL.getD k (0, 0)).2 < scnt (cellsL.getD k (0, 0)).1 ∧ pos (cellsL.getD k (0, 0)).1 (cellsL.getD k (0, 0)).2 = k := by
  have : ∀ k, k < cnS SF → (cellsL.getD k (0, 0)).2 < scnt (cellsL.getD k (0, 0)).1 ∧ pos (cellsL.getD k (0, 0)).1 (cellsL.getD k (0, 0)).2 = k := by decide +kernel
  exact this k h
theorem cnS_SF (s : Nat) : cnS s ≤ cnS SF := by
  rcases Nat.le_total s SF with h | h
  · exact cnS_le h
  · have : evs.take s = evs.take SF := by
      rw [List.take_of_length_le, List.take_of_length_le]
      · decide +kernel
      · exact Nat.le_trans (by decide +kernel) h
    simp [cnS, this]
theorem pos_SF {g i : Nat} (h : i < scnt g) : pos g i < cnS SF := by
  have hg : g < 100 := by
    rcases Nat.lt_or_ge g 100 with q | q
    · exact q
    · rw [scnt_hi q] at h; omega
  have h24 : i < 24 := Nat.lt_of_lt_of_le h (scnt_le g)
  have : ∀ g, g < 100 → ∀ i, i < 24 → i < scnt g → pos g i < cnS SF := by decide +kernel
  exact this g hg i h24 h
theorem wsG_len (G : GX) (s : Nat) (I : Mem) : (wsG G s I).length = cnS s := by simp [wsG]
theorem wsG_at {G : GX} {s : Nat} {I : Mem} {k : Nat} (h : k < cnS s) : (wsG G s I)[k]? = some (cE G s I k) := by simp [wsG, h]
theorem wsG_get {G : GX} {s : Nat} {I : Mem} {g i : Nat} (h : i < scnt g) (hp : pos g i < cnS s) : (wsG G s I)[pos g i]? = some (G.1 + pos g i, cG G s I g i) := by
  rw [wsG_at hp, cE, cells_at h]
theorem wsG_D (G : GX) (s : Nat) (I : Mem) : va_D (gA G) (wsG G s I) := by
  refine ⟨fun i j p q hi hj h => ?_, fun k q hk => ?_⟩
  · have h1 := (List.getElem?_eq_some_iff.mp hi).1
    have h2 := (List.getElem?_eq_some_iff.mp hj).1
    rw [wsG_len] at h1 h2
    rw [wsG_at h1] at hi
    rw [wsG_at h2] at hj
    cases hi
    cases hj
    simp only [cE] at h
    omega
  · have h1 := (List.getElem?_eq_some_iff.mp hk).1
    rw [wsG_len] at h1
    rw [wsG_at h1] at hk
    cases hk
    show G.1 ≤ _
    simp only [cE]
    omega
/-- one cell changed: the list of all -/
theorem wsG_set {G : GX} {s t : Nat} {I J : Mem} {g i : Nat} (hi : i < scnt g) (hp : pos g i < cnS s) (hc : cnS t = cnS s) (ho : ∀ h b, b < scnt h → (h, b) ≠ (g, i) → cG G t J h b = cG G s I h b) : (wsG G s I).set (pos g i) (G.1 + pos g i, cG G t J g i) = wsG G t J := by
  apply List.ext_getElem?
  intro k
  by_cases hk : k < cnS s
  · rw [wsG_at (by rw [hc]; exact hk)]
    by_cases e : k = pos g i
    · subst e
      rw [List.getElem?_set_self (by rw [wsG_len]; exact hk), cE, cells_at hi]
    · rw [List.getElem?_set_ne (fun q => e q.symm), wsG_at hk]
      obtain ⟨q1, q2⟩ := cells_of (k := k) (Nat.lt_of_lt_of_le hk (cnS_SF s))
      unfold cE
      rw [ho _ _ q1 (fun q => e (by obtain ⟨w1, w2⟩ := Prod.mk.inj q; rw [w1, w2] at q2; exact q2.symm))]
  · rw [List.getElem?_eq_none, List.getElem?_eq_none]
    · rw [wsG_len]; omega
    · rw [List.length_set, wsG_len]; omega
theorem wsG_push {G : GX} {s t : Nat} {I J : Mem} {g i : Nat} (hi : i < scnt g) (hp : pos g i = cnS s) (hc : cnS t = cnS s + 1) (ho : ∀ h b, b < scnt h → pos h b < cnS s → cG G t J h b = cG G s I h b) : wsG G s I ++ [(G.1 + pos g i, cG G t J g i)] = wsG G t J := by
  apply List.ext_getElem?
  intro k
  by_cases hk : k < cnS s
  · rw [List.getElem?_append_left (by rw [wsG_len]; exact hk), wsG_at hk, wsG_at (by omega)]
    obtain ⟨q1, q2⟩ := cells_of (k := k) (Nat.lt_of_lt_of_le hk (cnS_SF s))
    unfold cE
    rw [ho _ _ q1 (by omega)]
  · by_cases e : k = cnS s
    · subst e
      rw [List.getElem?_append_right (by rw [wsG_len]; omega), wsG_at (by omega), wsG_len, Nat.sub_self, cE, ← hp, cells_at hi]
      rfl
    · rw [List.getElem?_eq_none, List.getElem?_eq_none]
      · rw [wsG_len]; omega
      · rw [List.length_append, wsG_len, List.length_singleton]; omega
theorem lvl_mem {G : GX} {L : LC} {k : Nat} {q : Nat × Value} : q ∈ lvl G k L ↔ ∃ i v, L[i]? = some (some v) ∧ q = (k + i, tvv G v) := by
  induction L generalizing k with
  | nil => simp [lvl]
  | cons a t ih =>
    cases a with
    | none =>
      simp only [lvl, ih]
      constructor
      · rintro ⟨i, v, h1, h2⟩
        exact ⟨i + 1, v, by simpa using h1, by rw [h2]; congr 1; omega⟩
      · rintro ⟨i, v, h1, h2⟩
        cases i with
        | zero => simp at h1
        | succ i => exact ⟨i, v, by simpa using h1, by rw [h2]; congr 1; omega⟩
    | some w =>
      simp only [lvl, List.mem_cons, ih]
      constructor
      · rintro (rfl | ⟨i, v, h1, h2⟩)
        · exact ⟨0, w, rfl, rfl⟩
        · exact ⟨i + 1, v, by simpa using h1, by rw [h2]; congr 1; omega⟩
      · rintro ⟨i, v, h1, h2⟩
        cases i with
        | zero => left; simp at h1; rw [h2, h1]; rfl
        | succ i => right; exact ⟨i, v, by simpa using h1, by rw [h2]; congr 1; omega⟩
theorem lvl_at {G : GX} {L : LC} {ls : Array Slot} {nL i : Nat} {v : PV} (h : lv_has ls nL (lvl G 0 L)) (hi : L[i]? = some (some v)) : ls[i]? = some (.val (tvv G v)) := h.2.2 (i, tvv G v) (lvl_mem.mpr ⟨i, v, hi, by rw [Nat.zero_add]⟩)
theorem lok_at {s : Nat} {L : LC} {i : Nat} {v : PV} (h : lok s L) (hi : L[i]? = some (some v)) : pok s v := h v (List.mem_of_getElem? hi)
theorem pok_le {s t : Nat} {v : PV} (h : s ≤ t) (hp : pok s v) : pok t v := by
  rcases v with x | x | ⟨g, i⟩
  · trivial
  · trivial
  · rcases hp with ⟨h1, h2, h3⟩ | h4
    · exact Or.inl ⟨h1, h2, Nat.lt_of_lt_of_le h3 (cnS_le h)⟩
    · exact Or.inr h4
theorem lok_le {s t : Nat} {L : LC} (h : s ≤ t) (hp : lok s L) : lok t L := fun v hv => pok_le h (hp v hv)
theorem sok_le {s t : Nat} {L : List PV} (h : s ≤ t) (hp : sok s L) : sok t L := fun v hv => pok_le h (hp v hv)
theorem sok_c {s : Nat} {v : PV} {st : List PV} (hv : pok s v) (h : sok s st) : sok s (v :: st) := fun w hw => (List.mem_cons.mp hw).elim (fun e => e ▸ hv) (h w)
theorem sok_h {s : Nat} {v : PV} {st : List PV} (h : sok s (v :: st)) : pok s v := h v List.mem_cons_self
theorem sok_t {s : Nat} {v : PV} {st : List PV} (h : sok s (v :: st)) : sok s st := fun w hw => h w (List.mem_cons_of_mem _ hw)
theorem lok_set {s : Nat} {L : LC} {a : Nat} {v : PV} (h : lok s L) (hv : pok s v) : lok s (L.set a (some v)) := by
  intro w hw
  rcases List.mem_or_eq_of_mem_set hw with q | q
  · exact h w q
  · cases q; exact hv
theorem lok_setN {s : Nat} {L : LC} {a : Nat} (h : lok s L) : lok s (L.set a none) := by
  intro w hw
  rcases List.mem_or_eq_of_mem_set hw with q | q
  · exact h w q
  · cases q
def is2 (o : Option (Option PV)) : Bool := match o with
  | some (some (.inr (.inl _))) => true
  | _ => false
theorem tvv_cat (G : GX) (v : PV) : (tvv G v).category = if is2 (some (some v)) = true then 2 else 1 := by
  rcases v with x | x | ⟨g, i⟩ <;> rfl
/-- a store of one word: no long stands just ahead of it -/
theorem lvl_set {G : GX} {L : LC} {ls : Array Slot} {nL a : Nat} {v : PV} (hl : a < L.length) (h2 : a = 0 ∨ is2 L[a - 1]? = false) (h : lv_has ls nL ((a, tvv G v) :: (lvl G 0 L).filter (fun q => !(q.1 == a) && !(q.1 + 1 == a && q.2.category == 2)))) : lv_has ls nL (lvl G 0 (L.set a (some v))) := by
  refine ⟨h.1, h.2.1, fun q hq => ?_⟩
  obtain ⟨i, w, h3, rfl⟩ := lvl_mem.mp hq
  by_cases e : i = a
  · subst e
    rw [List.getElem?_set_self hl] at h3
    cases h3
    exact h.2.2 _ (by rw [Nat.zero_add]; exact List.mem_cons_self)
  · rw [List.getElem?_set_ne (fun q => e q.symm)] at h3
    refine h.2.2 _ (List.mem_cons_of_mem _ (List.mem_filter.mpr ⟨lvl_mem.mpr ⟨i, w, h3, rfl⟩, ?_⟩))
    have e1 : (0 + i == a) = false := by simp; omega
    have e2 : (0 + i + 1 == a && (tvv G w).category == 2) = false := by
      rcases h2 with h2 | h2
      · simp; omega
      · by_cases e3 : i + 1 = a
        · subst e3
          rw [Nat.add_sub_cancel, h3] at h2
          rw [tvv_cat, h2]
          simp
        · simp; omega
    rw [e1, e2]; rfl
theorem lvl_set2 {G : GX} {L : LC} {ls : Array Slot} {nL a : Nat} {x : Int64} (hl : a + 1 < L.length) (h2 : a = 0 ∨ is2 L[a - 1]? = false) (h : lv_has ls nL ((a, tvv G (vL x)) :: (lvl G 0 L).filter (fun q => !(q.1 == a) && (!(q.1 == a + 1) && !(q.1 + 1 == a && q.2.category == 2))))) : lv_has ls nL (lvl G 0 ((L.set a (some (vL x))).set (a + 1) none)) := by
  refine ⟨h.1, h.2.1, fun q hq => ?_⟩
  obtain ⟨i, w, h3, rfl⟩ := lvl_mem.mp hq
  by_cases e0 : i = a + 1
  · subst e0
    rw [List.getElem?_set_self (by rw [List.length_set]; exact hl)] at h3
    cases h3
  rw [List.getElem?_set_ne (fun q => e0 q.symm)] at h3
  by_cases e : i = a
  · subst e
    rw [List.getElem?_set_self (by omega)] at h3
    cases h3
    exact h.2.2 _ (by rw [Nat.zero_add]; exact List.mem_cons_self)
  · rw [List.getElem?_set_ne (fun q => e q.symm)] at h3
    refine h.2.2 _ (List.mem_cons_of_mem _ (List.mem_filter.mpr ⟨lvl_mem.mpr ⟨i, w, h3, rfl⟩, ?_⟩))
    have e1 : (0 + i == a) = false := by simp; omega
    have e4 : (0 + i == a + 1) = false := by simp; omega
    have e2 : (0 + i + 1 == a && (tvv G w).category == 2) = false := by
      rcases h2 with h2 | h2
      · simp; omega
      · by_cases e3 : i + 1 = a
        · subst e3
          rw [Nat.add_sub_cancel, h3] at h2
          rw [tvv_cat, h2]
          simp
        · simp; omega
    rw [e1, e2, e4]; rfl
end
section
/-! ===== instructions in a row ===== -/
abbrev PO : Type := Nat × Nat × Nat × Nat × Int32
def opI (pc : Nat) (o : PO) : Instr × Nat := match o with
  | (0, 0, _, _, z) => (.iconst z.toInt, 1)
  | (0, 1, _, _, z) => (.bipush z.toInt, 2)
  | (0, 2, _, _, z) => (.sipush z.toInt, 3)
  | (0, 3, _, c, _) => (.ldc c, 2)
  | (0, _, _, c, _) => (.ldc_w c, 3)
  | (1, a, 0, _, _) => (.iload_n (Fin.ofNat 4 a), 1)
  | (1, a, _, _, _) => (.iload a, 2)
  | (2, a, 0, _, _) => (.aload_n (Fin.ofNat 4 a), 1)
  | (2, a, _, _, _) => (.aload a, 2)
  | (3, a, _, _, _) => (.lload a, 2)
  | (4, a, 0, _, _) => (.istore_n (Fin.ofNat 4 a), 1)
  | (4, a, _, _, _) => (.istore a, 2)
  | (5, a, 0, _, _) => (.astore_n (Fin.ofNat 4 a), 1)
  | (5, a, _, _, _) => (.astore a, 2)
  | (6, a, _, _, _) => (.lstore a, 2)
  | (7, a, _, _, z) => (.iinc a z.toInt, 3)
  | (8, _) => (.iadd, 1)
  | (9, _) => (.isub, 1)
  | (10, _) => (.imul, 1)
  | (11, _) => (.ineg, 1)
  | (12, _) => (.iand, 1)
  | (13, _) => (.ixor, 1)
  | (14, _) => (.iushr, 1)
  | (15, _) => (.ladd, 1)
  | (16, _) => (.lmul, 1)
  | (17, _) => (.i2l, 1)
  | (18, _) => (.l2i, 1)
  | (19, _) => (.lconst 0, 1)
  | (20, _, _, c, _) => (.ldc2_w c, 3)
  | (21, _) => (.dup, 1)
  | (22, _) => (.dup2, 1)
  | (23, b, _, _, _) => (.goto ((b : Int) - (pc : Int)), 3)
  | (24, _, _, c, _) => (.getfield c, 3)
  | (25, _, _, c, _) => (.getfield c, 3)
  | (26, _, _, c, _) => (.putfield c, 3)
  | (27, _) => (.arraylength, 1)
  | (28, _) => (.lcmp, 1)
  | (29, _, _, c, _) => (.getstatic c, 3)
  | _ => (.nop, 1)
def opOk (own : Nat) (o : PO) : Bool := match o with
  | (0, 0, _, _, z) => Int32.ofInt z.toInt == z
  | (0, 1, _, _, z) => (Int8.ofInt z.toInt).toInt32 == z
  | (0, 2, _, _, z) => (Int16.ofInt z.toInt).toInt32 == z
  | (0, _, _, c, z) => cstT.contains (own, c, z)
  | (1, a, 0, _, _) => decide (a < 4)
  | (2, a, 0, _, _) => decide (a < 4)
  | (4, a, 0, _, _) => decide (a < 4)
  | (5, a, 0, _, _) => decide (a < 4)
  | (19, _, _, _, z) => z == 0
  | (20, a, _, c, _) => cstLT.contains (own, c, a)
  | (24, a, b, c, _) => fldT.contains (own, c, a, b)
  | (25, a, b, c, _) => fldT.contains (own, c, a, b)
  | (26, a, b, c, _) => fldT.contains (own, c, a, b)
  | (29, a, _, c, _) => (a == 101 && own == 7 && c == 309) || (a == 102 && own == 6 && c == 68)
  | _ => true
def okOp (M : MD) (pc : Nat) (o : PO) : Bool := decide (decode M.2.2.1 pc = .ok (opI pc o)) && opOk M.1 o
def nxO (pc : Nat) (o : PO) : Nat := match o with
  | (23, b, _, _, _) => b
  | o => pc + (opI 0 o).2
/-- is the slot of a class a number (0), a truth value (1), or a reference (2) -/
def fkd (ci k : Nat) : Nat := match (xcl.getD ci ("", TX0, 0)).2.1 k with
  | (_, _, "I", _) => 0
  | (_, _, "Z", _) => 1
  | _ => 2
def pfk (ci k : Nat) (x : Int32) : Bool := match fkd ci k with
  | 0 => true
  | 1 => decide (x = 0) || decide (x = 1)
  | _ => false
def isObj (g ci : Nat) : Bool := match skd g with
  | some (.inl a) => Nat.beq a ci
  | _ => false
def aln (I : Mem) (g : Nat) : Nat := match skd g with
  | some (.inr (_, n)) => n
  | some (.inl _) => 0
  | none => if g = 100 then (I 103 0 0).toNatClampNeg else if g = 101 then 5 else if g = 102 then 4 else 0
def isArr (g : Nat) : Bool := match skd g with
  | some (.inr _) => true
  | some (.inl _) => false
  | none => Nat.beq g 100 || (Nat.beq g 101 || Nat.beq g 102)
def lget (L : LC) (a : Nat) : Option PV := (L[a]?).join
def lput1 (L : LC) (a : Nat) (v : PV) : Option LC := if Nat.blt a L.length && (Nat.beq a 0 || !is2 L[a - 1]?) then some (L.set a (some v)) else none
def lput2 (L : LC) (a : Nat) (v : PV) : Option LC := if Nat.blt (a + 1) L.length && (Nat.beq a 0 || !is2 L[a - 1]?) then some ((L.set a (some v)).set (a + 1) none) else none
def seg1 (fin : Bool) (s : Nat) (o : PO) (L : LC) (st : List PV) (I : Mem) : Option (LC × List PV × Mem) := match o with
  | (0, _, _, _, z) => some (L, vI z :: st, I)
  | (1, a, _, _, _) => match lget L a with
    | some (.inl x) => some (L, vI x :: st, I)
    | _ => none
  | (2, a, _, _, _) => match lget L a with
    | some (.inr (.inr (g, i))) => some (L, vR g i :: st, I)
    | _ => none
  | (3, a, _, _, _) => match lget L a with
    | some (.inr (.inl x)) => some (L, vL x :: st, I)
    | _ => none
  | (4, a, _, _, _) => match st with
    | .inl x :: t => (lput1 L a (vI x)).map (fun L' => (L', t, I))
    | _ => none
  | (5, a, _, _, _) => match st with
    | .inr (.inr (g, i)) :: t => (lput1 L a (vR g i)).map (fun L' => (L', t, I))
    | _ => none
  | (6, a, _, _, _) => match st with
    | .inr (.inl x) :: t => (lput2 L a (vL x)).map (fun L' => (L', t, I))
    | _ => none
  | (7, a, _, _, z) => match lget L a with
    | some (.inl x) => (lput1 L a (vI (x + z))).map (fun L' => (L', st, I))
    | _ => none
  | (8, _) => match st with
    | .inl y :: .inl x :: t => some (L, vI (x + y) :: t, I)
    | _ => none
  | (9, _) => match st with
    | .inl y :: .inl x :: t => some (L, vI (x - y) :: t, I)
    | _ => none
  | (10, _) => match st with
    | .inl y :: .inl x :: t => some (L, vI (x * y) :: t, I)
    | _ => none
  | (11, _) => match st with
    | .inl x :: t => some (L, vI (-x) :: t, I)
    | _ => none
  | (12, _) => match st with
    | .inl y :: .inl x :: t => some (L, vI (x &&& y) :: t, I)
    | _ => none
  | (13, _) => match st with
    | .inl y :: .inl x :: t => some (L, vI (x ^^^ y) :: t, I)
    | _ => none
  | (14, _) => match st with
    | .inl y :: .inl x :: t => some (L, vI ((x.toUInt32 >>> (y.toUInt32 &&& Int32.toUInt32 31)).toInt32) :: t, I)
    | _ => none
  | (15, _) => match st with
    | .inr (.inl y) :: .inr (.inl x) :: t => some (L, vL (x + y) :: t, I)
    | _ => none
  | (16, _) => match st with
    | .inr (.inl y) :: .inr (.inl x) :: t => some (L, vL (x * y) :: t, I)
    | _ => none
  | (17, _) => match st with
    | .inl x :: t => some (L, vL x.toInt64 :: t, I)
    | _ => none
  | (18, _) => match st with
    | .inr (.inl x) :: t => some (L, vI x.toInt32 :: t, I)
    | _ => none
  | (19, _) => some (L, vL 0 :: st, I)
  | (20, a, _, _, _) => some (L, vL (Int64.ofNat a) :: st, I)
  | (21, _) => match st with
    | .inl x :: t => some (L, vI x :: vI x :: t, I)
    | .inr (.inr (g, i)) :: t => some (L, vR g i :: vR g i :: t, I)
    | _ => none
  | (22, _) => match st with
    | .inl x :: .inl y :: t => some (L, vI x :: vI y :: vI x :: vI y :: t, I)
    | .inl x :: .inr (.inr (g, i)) :: t => some (L, vI x :: vR g i :: vI x :: vR g i :: t, I)
    | _ => none
  | (23, _) => some (L, st, I)
  | (24, a, b, _, _) => match st with
    | .inr (.inr (g, i)) :: t => if isObj g a && Nat.blt (fkd a b) 2 then some (L, vI (I g i b) :: t, I) else none
    | _ => none
  | (25, a, b, _, _) => match st with
    | .inr (.inr (g, i)) :: t => if isObj g a && (fin || sA s g i b) then (match tau g i b with
      | some (h, k) => some (L, vR h k :: t, I)
      | none => none) else none
    | _ => none
  | (26, a, b, _, _) => match st with
    | .inl x :: .inr (.inr (g, i)) :: t => if isObj g a && pfk a b x then some (L, t, mup I g i b x) else none
    | _ => none
  | (27, _) => match st with
    | .inr (.inr (g, _)) :: t => if isArr g then some (L, vI (nI (aln I g)) :: t, I) else none
    | _ => none
  | (28, _) => match st with
    | .inr (.inl y) :: .inr (.inl x) :: t => some (L, vI (lg_cmp x y) :: t, I)
    | _ => none
  | (29, a, _, _, _) => some (L, vR a 0 :: st, I)
  | _ => none
def seg (fin : Bool) (s : Nat) : List PO → Nat → LC → List PV → Mem → Option (Nat × LC × List PV × Mem)
  | [], pc, L, st, I => some (pc, L, st, I)
  | o :: os, pc, L, st, I => match seg1 fin s o L st I with
    | some (L', st', I') => seg fin s os (nxO pc o) L' st' I'
    | none => none
def okOps (M : MD) : Nat → List PO → Bool
  | _, [] => true
  | pc, o :: os => okOp M pc o && okOps M (nxO pc o) os
end
section
/-! ===== each instruction of a row is the machine's ===== -/
theorem ok_d {M : MD} {pc : Nat} {o : PO} (h : okOp M pc o = true) : decode M.2.2.1 pc = .ok (opI pc o) ∧ opOk M.1 o = true := by
  simpa only [okOp, Bool.and_eq_true, decide_eq_true_eq] using h
theorem rr_pure {M : MD} {s s' pc pc' : Nat} {L : LC} {st st' : List PV} {I : Mem} {X : Option (Option PV × Mem)} (hsk : lok s L → sok s st → sok s st')
    (hw : ∀ (G : GX) (p : Program) (l : Launch) (e : Env) (R : Room) (s0 : State) (mid : MethodId) (args : Array Value) (below : List Frame) (meth : Method) (c : Code) (Q : State → Prop) (H : Heap) (locs : List Loc) (cells slots : Nat) (ls : Array Slot),
      FC G M p R s0 mid args meth c → LV G M L ls → HW G s I H → va_S (gA G) s0.heap H locs → lok s L → sok s st →
      W p l e R s0 mid args below meth c H locs cells slots Q (F0 mid pc' ls (st'.map (tvv G))) → W p l e R s0 mid args below meth c H locs cells slots Q (F0 mid pc ls (st.map (tvv G))))
    (k : RR M s s' pc' L st' I X) : RR M s s' pc L st I X := by
  intro r I' hX hL hst hss G p l e R s0 mid args below meth c Q c0 z0 hF hc hz hQ H locs cells slots ls hH hS h1 h2 hl
  exact hw G p l e R s0 mid args below meth c Q H locs cells slots ls hF hl hH hS hL hst (k r I' hX hL (hsk hL hst) hss G p l e R s0 mid args below meth c Q c0 z0 hF hc hz hQ H locs cells slots ls hH hS h1 h2 hl)
theorem rr_loc {M : MD} {s s' pc pc' : Nat} {L L' : LC} {st st' : List PV} {I : Mem} {X : Option (Option PV × Mem)} (hsk : lok s L → sok s st → lok s L' ∧ sok s st')
    (hw : ∀ (G : GX) (p : Program) (l : Launch) (e : Env) (R : Room) (s0 : State) (mid : MethodId) (args : Array Value) (below : List Frame) (meth : Method) (c : Code) (Q : State → Prop) (H : Heap) (locs : List Loc) (cells slots : Nat) (ls : Array Slot),
      FC G M p R s0 mid args meth c → LV G M L ls →
      (∀ ls', LV G M L' ls' → W p l e R s0 mid args below meth c H locs cells slots Q (F0 mid pc' ls' (st'.map (tvv G)))) → W p l e R s0 mid args below meth c H locs cells slots Q (F0 mid pc ls (st.map (tvv G))))
    (k : RR M s s' pc' L' st' I X) : RR M s s' pc L st I X := by
  intro r I' hX hL hst hss G p l e R s0 mid args below meth c Q c0 z0 hF hc hz hQ H locs cells slots ls hH hS h1 h2 hl
  exact hw G p l e R s0 mid args below meth c Q H locs cells slots ls hF hl (fun ls' hl' => k r I' hX (hsk hL hst).1 (hsk hL hst).2 hss G p l e R s0 mid args below meth c Q c0 z0 hF hc hz hQ H locs cells slots ls' hH hS h1 h2 hl')
theorem sok_i {s : Nat} {x : Int32} {st : List PV} (h : sok s st) : sok s (vI x :: st) := sok_c (v := vI x) trivial h
theorem sok_l {s : Nat} {x : Int64} {st : List PV} (h : sok s st) : sok s (vL x :: st) := sok_c (v := vL x) trivial h
section OPS
variable {M : MD} {s s' pc : Nat} {L : LC} {st : List PV} {I : Mem} {X : Option (Option PV × Mem)} {a b cx : Nat} {z : Int32}
theorem op_0_0 (hok : okOp M pc (0, 0, b, cx, z) = true) (k : RR M s s' (pc + 1) L (vI z :: st) I X) : RR M s s' pc L st I X := by
  obtain ⟨hd, ho⟩ := ok_d hok
  refine rr_pure (fun _ h => sok_i h) (fun G p l e R s0 mid args below meth c Q H locs cells slots ls hF hl hH hS hL hst kk => ?_) k
  exact lv_iconst hF.1 hF.2.1 (n := z.toInt) (v := z) hd (by simpa [opOk] using ho) kk
theorem op_0_1 (hok : okOp M pc (0, 1, b, cx, z) = true) (k : RR M s s' (pc + 2) L (vI z :: st) I X) : RR M s s' pc L st I X := by
  obtain ⟨hd, ho⟩ := ok_d hok
  refine rr_pure (fun _ h => sok_i h) (fun G p l e R s0 mid args below meth c Q H locs cells slots ls hF hl hH hS hL hst kk => ?_) k
  exact lv_bipush hF.1 hF.2.1 (n := z.toInt) (v := z) hd (by simpa [opOk] using ho) kk
theorem op_0_2 (hok : okOp M pc (0, 2, b, cx, z) = true) (k : RR M s s' (pc + 3) L (vI z :: st) I X) : RR M s s' pc L st I X := by
  obtain ⟨hd, ho⟩ := ok_d hok
  refine rr_pure (fun _ h => sok_i h) (fun G p l e R s0 mid args below meth c Q H locs cells slots ls hF hl hH hS hL hst kk => ?_) k
  exact lv_sipush hF.1 hF.2.1 (n := z.toInt) (v := z) hd (by simpa [opOk] using ho) kk
theorem cst_ok {own : Nat} (h : cstT.contains (own, cx, z) = true) : Cond.constant (onm own) cx z ∈ wAll := cst_in (own, cx, z) (by simpa using h)
theorem op_0_3 (hok : okOp M pc (0, 3, b, cx, z) = true) (k : RR M s s' (pc + 2) L (vI z :: st) I X) : RR M s s' pc L st I X := by
  obtain ⟨hd, ho⟩ := ok_d hok
  refine rr_pure (fun _ h => sok_i h) (fun G p l e R s0 mid args below meth c Q H locs cells slots ls hF hl hH hS hL hst kk => ?_) k
  exact lv_ldc hF.1 hF.2.1 hF.2.2.2.1 (hF.2.2.2.2.1 _ (cst_ok ho)) hd kk
theorem op_0_4 (hok : okOp M pc (0, a + 4, b, cx, z) = true) (k : RR M s s' (pc + 3) L (vI z :: st) I X) : RR M s s' pc L st I X := by
  obtain ⟨hd, ho⟩ := ok_d hok
  refine rr_pure (fun _ h => sok_i h) (fun G p l e R s0 mid args below meth c Q H locs cells slots ls hF hl hH hS hL hst kk => ?_) k
  exact lv_ldcw hF.1 hF.2.1 hF.2.2.2.1 (hF.2.2.2.2.1 _ (cst_ok ho)) hd kk
theorem lget_at {v : PV} (h : lget L a = some v) : L[a]? = some (some v) := by
  unfold lget at h
  cases hq : L[a]? with
  | none => rw [hq] at h; cases h
  | some o => rw [hq] at h; exact congrArg some h
theorem fin4 {a : Nat} (h : a < 4) : ((Fin.ofNat 4 a : Fin 4) : Nat) = a := Nat.mod_eq_of_lt h
theorem op_1_0 {x : Int32} (hok : okOp M pc (1, a, 0, cx, z) = true) (hg : lget L a = some (vI x)) (k : RR M s s' (pc + 1) L (vI x :: st) I X) : RR M s s' pc L st I X := by
  obtain ⟨hd, ho⟩ := ok_d hok
  refine rr_pure (fun _ h => sok_i h) (fun G p l e R s0 mid args below meth c Q H locs cells slots ls hF hl hH hS hL hst kk => ?_) k
  exact lv_iload_n hF.1 hF.2.1 hd (fin4 (of_decide_eq_true ho)) (lvl_at hl.1 (lget_at hg)) kk
theorem op_1_1 {x : Int32} (hok : okOp M pc (1, a, b + 1, cx, z) = true) (hg : lget L a = some (vI x)) (k : RR M s s' (pc + 2) L (vI x :: st) I X) : RR M s s' pc L st I X := by
  obtain ⟨hd, ho⟩ := ok_d hok
  refine rr_pure (fun _ h => sok_i h) (fun G p l e R s0 mid args below meth c Q H locs cells slots ls hF hl hH hS hL hst kk => ?_) k
  exact lv_iload hF.1 hF.2.1 hd (lvl_at hl.1 (lget_at hg)) kk
theorem op_2_0 {g i : Nat} (hok : okOp M pc (2, a, 0, cx, z) = true) (hg : lget L a = some (vR g i)) (k : RR M s s' (pc + 1) L (vR g i :: st) I X) : RR M s s' pc L st I X := by
  obtain ⟨hd, ho⟩ := ok_d hok
  refine rr_pure (fun hL h => sok_c (lok_at hL (lget_at hg)) h) (fun G p l e R s0 mid args below meth c Q H locs cells slots ls hF hl hH hS hL hst kk => ?_) k
  exact lv_aload_n hF.1 hF.2.1 hd (fin4 (of_decide_eq_true ho)) (lvl_at hl.1 (lget_at hg)) kk
theorem op_2_1 {g i : Nat} (hok : okOp M pc (2, a, b + 1, cx, z) = true) (hg : lget L a = some (vR g i)) (k : RR M s s' (pc + 2) L (vR g i :: st) I X) : RR M s s' pc L st I X := by
  obtain ⟨hd, ho⟩ := ok_d hok
  refine rr_pure (fun hL h => sok_c (lok_at hL (lget_at hg)) h) (fun G p l e R s0 mid args below meth c Q H locs cells slots ls hF hl hH hS hL hst kk => ?_) k
  exact lv_aload hF.1 hF.2.1 hd (lvl_at hl.1 (lget_at hg)) kk
theorem op_3 {x : Int64} (hok : okOp M pc (3, a, b, cx, z) = true) (hg : lget L a = some (vL x)) (k : RR M s s' (pc + 2) L (vL x :: st) I X) : RR M s s' pc L st I X := by
  obtain ⟨hd, ho⟩ := ok_d hok
  refine rr_pure (fun _ h => sok_l h) (fun G p l e R s0 mid args below meth c Q H locs cells slots ls hF hl hH hS hL hst kk => ?_) k
  exact lv_lload hF.1 hF.2.1 hd (lvl_at hl.1 (lget_at hg)) kk
theorem lput1_ok {v : PV} {L' : LC} (h : lput1 L a v = some L') : a < L.length ∧ (a = 0 ∨ is2 L[a - 1]? = false) ∧ L' = L.set a (some v) := by
  unfold lput1 at h
  split at h
  · next h0 =>
    simp only [Bool.and_eq_true, Bool.or_eq_true, Bool.not_eq_true', Nat.beq_eq_true_eq, Nat.blt_eq] at h0
    exact ⟨h0.1, h0.2.imp (fun q => Nat.eq_of_beq_eq_true q) id, (Option.some.inj h).symm⟩
  · cases h
theorem lput2_ok {v : PV} {L' : LC} (h : lput2 L a v = some L') : a + 1 < L.length ∧ (a = 0 ∨ is2 L[a - 1]? = false) ∧ L' = (L.set a (some v)).set (a + 1) none := by
  unfold lput2 at h
  split at h
  · next h0 =>
    simp only [Bool.and_eq_true, Bool.or_eq_true, Bool.not_eq_true', Nat.beq_eq_true_eq, Nat.blt_eq] at h0
    exact ⟨h0.1, h0.2.imp (fun q => Nat.eq_of_beq_eq_true q) id, (Option.some.inj h).symm⟩
  · cases h
theorem lvs1 {G : GX} {v : PV} {L' : LC} {ls : Array Slot} (h : lput1 L a v = some L') (hl : LV G M L ls) : a < M.2.2.2.1 ∧ ∀ ls', lv_has ls' M.2.2.2.1 ((a, tvv G v) :: (lvl G 0 L).filter (fun q => !(q.1 == a) && !(q.1 + 1 == a && q.2.category == 2))) → LV G M L' ls' := by
  obtain ⟨q1, q2, rfl⟩ := lput1_ok h
  exact ⟨hl.2 ▸ q1, fun ls' h' => ⟨lvl_set q1 q2 h', by rw [List.length_set]; exact hl.2⟩⟩
theorem lvs2 {G : GX} {x : Int64} {L' : LC} {ls : Array Slot} (h : lput2 L a (vL x) = some L') (hl : LV G M L ls) : a + 1 < M.2.2.2.1 ∧ ∀ ls', lv_has ls' M.2.2.2.1 ((a, tvv G (vL x)) :: (lvl G 0 L).filter (fun q => !(q.1 == a) && (!(q.1 == a + 1) && !(q.1 + 1 == a && q.2.category == 2)))) → LV G M L' ls' := by
  obtain ⟨q1, q2, rfl⟩ := lput2_ok h
  exact ⟨hl.2 ▸ q1, fun ls' h' => ⟨lvl_set2 q1 q2 h', by rw [List.length_set, List.length_set]; exact hl.2⟩⟩
theorem lok1 {v : PV} {L' : LC} (h : lput1 L a v = some L') (hL : lok s L) (hv : pok s v) : lok s L' := by
  obtain ⟨q1, q2, rfl⟩ := lput1_ok h
  exact lok_set hL hv
theorem lok2 {v : PV} {L' : LC} (h : lput2 L a v = some L') (hL : lok s L) (hv : pok s v) : lok s L' := by
  obtain ⟨q1, q2, rfl⟩ := lput2_ok h
  exact lok_setN (lok_set hL hv)
theorem op_4_0 {x : Int32} {L' : LC} (hok : okOp M pc (4, a, 0, cx, z) = true) (hp : lput1 L a (vI x) = some L') (k : RR M s s' (pc + 1) L' st I X) : RR M s s' pc L (vI x :: st) I X := by
  obtain ⟨hd, ho⟩ := ok_d hok
  refine rr_loc (fun hL h => ⟨lok1 hp hL trivial, sok_t h⟩) (fun G p l e R s0 mid args below meth c Q H locs cells slots ls hF hl kk => ?_) k
  exact lv_istore_n hF.1 hF.2.1 hd (fin4 (of_decide_eq_true ho)) hl.1 (lvs1 hp hl).1 rfl (fun ls' h' => kk ls' ((lvs1 hp hl).2 ls' h'))
theorem op_4_1 {x : Int32} {L' : LC} (hok : okOp M pc (4, a, b + 1, cx, z) = true) (hp : lput1 L a (vI x) = some L') (k : RR M s s' (pc + 2) L' st I X) : RR M s s' pc L (vI x :: st) I X := by
  obtain ⟨hd, ho⟩ := ok_d hok
  refine rr_loc (fun hL h => ⟨lok1 hp hL trivial, sok_t h⟩) (fun G p l e R s0 mid args below meth c Q H locs cells slots ls hF hl kk => ?_) k
  exact lv_istore hF.1 hF.2.1 hd hl.1 (lvs1 hp hl).1 rfl (fun ls' h' => kk ls' ((lvs1 hp hl).2 ls' h'))
theorem op_5_0 {g i : Nat} {L' : LC} (hok : okOp M pc (5, a, 0, cx, z) = true) (hp : lput1 L a (vR g i) = some L') (k : RR M s s' (pc + 1) L' st I X) : RR M s s' pc L (vR g i :: st) I X := by
  obtain ⟨hd, ho⟩ := ok_d hok
  refine rr_loc (fun hL h => ⟨lok1 hp hL (sok_h h), sok_t h⟩) (fun G p l e R s0 mid args below meth c Q H locs cells slots ls hF hl kk => ?_) k
  exact lv_astore_n hF.1 hF.2.1 hd (fin4 (of_decide_eq_true ho)) hl.1 (lvs1 hp hl).1 rfl (fun ls' h' => kk ls' ((lvs1 hp hl).2 ls' h'))
theorem op_5_1 {g i : Nat} {L' : LC} (hok : okOp M pc (5, a, b + 1, cx, z) = true) (hp : lput1 L a (vR g i) = some L') (k : RR M s s' (pc + 2) L' st I X) : RR M s s' pc L (vR g i :: st) I X := by
  obtain ⟨hd, ho⟩ := ok_d hok
  refine rr_loc (fun hL h => ⟨lok1 hp hL (sok_h h), sok_t h⟩) (fun G p l e R s0 mid args below meth c Q H locs cells slots ls hF hl kk => ?_) k
  exact lv_astore hF.1 hF.2.1 hd hl.1 (lvs1 hp hl).1 rfl (fun ls' h' => kk ls' ((lvs1 hp hl).2 ls' h'))
theorem op_6 {x : Int64} {L' : LC} (hok : okOp M pc (6, a, b, cx, z) = true) (hp : lput2 L a (vL x) = some L') (k : RR M s s' (pc + 2) L' st I X) : RR M s s' pc L (vL x :: st) I X := by
  obtain ⟨hd, ho⟩ := ok_d hok
  refine rr_loc (fun hL h => ⟨lok2 hp hL trivial, sok_t h⟩) (fun G p l e R s0 mid args below meth c Q H locs cells slots ls hF hl kk => ?_) k
  exact lv_lstore hF.1 hF.2.1 hd hl.1 (lvs2 hp hl).1 rfl (fun ls' h' => kk ls' ((lvs2 hp hl).2 ls' h'))
theorem op_7 {x : Int32} {L' : LC} (hok : okOp M pc (7, a, b, cx, z) = true) (hg : lget L a = some (vI x)) (hp : lput1 L a (vI (x + z)) = some L') (k : RR M s s' (pc + 3) L' st I X) : RR M s s' pc L st I X := by
  obtain ⟨hd, ho⟩ := ok_d hok
  refine rr_loc (fun hL h => ⟨lok1 hp hL trivial, h⟩) (fun G p l e R s0 mid args below meth c Q H locs cells slots ls hF hl kk => ?_) k
  obtain ⟨kx, hk⟩ := List.getElem?_of_mem (lvl_mem.mpr ⟨a, vI x, lget_at hg, rfl⟩ : (0 + a, tvv G (vI x)) ∈ lvl G 0 L)
  rw [Nat.zero_add] at hk
  exact lv_iinc hF.1 hF.2.1 hd hl.1 hk (by rw [Int32.ofInt_toInt]) (lvs1 hp hl).1 rfl (fun ls' h' => kk ls' ((lvs1 hp hl).2 ls' h'))
end OPS
end
section
section OPS2
variable {M : MD} {s s' pc : Nat} {L : LC} {st : List PV} {I : Mem} {X : Option (Option PV × Mem)} {a b cx : Nat} {z : Int32}
theorem op_8 {x y : Int32} {o : Nat × Nat × Nat × Int32} (hok : okOp M pc (8, o) = true) (k : RR M s s' (pc + 1) L (vI (x + y) :: st) I X) : RR M s s' pc L (vI y :: vI x :: st) I X := by
  obtain ⟨hd, ho⟩ := ok_d hok
  refine rr_pure (fun _ h => sok_i (sok_t (sok_t h))) (fun G p l e R s0 mid args below meth c Q H locs cells slots ls hF hl hH hS hL hst kk => ?_) k
  exact lv_iadd hF.1 hF.2.1 hd kk
theorem op_9 {x y : Int32} {o : Nat × Nat × Nat × Int32} (hok : okOp M pc (9, o) = true) (k : RR M s s' (pc + 1) L (vI (x - y) :: st) I X) : RR M s s' pc L (vI y :: vI x :: st) I X := by
  obtain ⟨hd, ho⟩ := ok_d hok
  refine rr_pure (fun _ h => sok_i (sok_t (sok_t h))) (fun G p l e R s0 mid args below meth c Q H locs cells slots ls hF hl hH hS hL hst kk => ?_) k
  exact lv_isub hF.1 hF.2.1 hd kk
theorem op_10 {x y : Int32} {o : Nat × Nat × Nat × Int32} (hok : okOp M pc (10, o) = true) (k : RR M s s' (pc + 1) L (vI (x * y) :: st) I X) : RR M s s' pc L (vI y :: vI x :: st) I X := by
  obtain ⟨hd, ho⟩ := ok_d hok
  refine rr_pure (fun _ h => sok_i (sok_t (sok_t h))) (fun G p l e R s0 mid args below meth c Q H locs cells slots ls hF hl hH hS hL hst kk => ?_) k
  exact lv_imul hF.1 hF.2.1 hd kk
theorem op_12 {x y : Int32} {o : Nat × Nat × Nat × Int32} (hok : okOp M pc (12, o) = true) (k : RR M s s' (pc + 1) L (vI (x &&& y) :: st) I X) : RR M s s' pc L (vI y :: vI x :: st) I X := by
  obtain ⟨hd, ho⟩ := ok_d hok
  refine rr_pure (fun _ h => sok_i (sok_t (sok_t h))) (fun G p l e R s0 mid args below meth c Q H locs cells slots ls hF hl hH hS hL hst kk => ?_) k
  exact lv_iand hF.1 hF.2.1 hd kk
theorem op_13 {x y : Int32} {o : Nat × Nat × Nat × Int32} (hok : okOp M pc (13, o) = true) (k : RR M s s' (pc + 1) L (vI (x ^^^ y) :: st) I X) : RR M s s' pc L (vI y :: vI x :: st) I X := by
  obtain ⟨hd, ho⟩ := ok_d hok
  refine rr_pure (fun _ h => sok_i (sok_t (sok_t h))) (fun G p l e R s0 mid args below meth c Q H locs cells slots ls hF hl hH hS hL hst kk => ?_) k
  exact lv_ixor hF.1 hF.2.1 hd kk
theorem op_14 {x y : Int32} {o : Nat × Nat × Nat × Int32} (hok : okOp M pc (14, o) = true) (k : RR M s s' (pc + 1) L (vI ((x.toUInt32 >>> (y.toUInt32 &&& Int32.toUInt32 31)).toInt32) :: st) I X) : RR M s s' pc L (vI y :: vI x :: st) I X := by
  obtain ⟨hd, ho⟩ := ok_d hok
  refine rr_pure (fun _ h => sok_i (sok_t (sok_t h))) (fun G p l e R s0 mid args below meth c Q H locs cells slots ls hF hl hH hS hL hst kk => ?_) k
  exact lv_iushr hF.1 hF.2.1 hd rfl kk
theorem op_15 {x y : Int64} {o : Nat × Nat × Nat × Int32} (hok : okOp M pc (15, o) = true) (k : RR M s s' (pc + 1) L (vL (x + y) :: st) I X) : RR M s s' pc L (vL y :: vL x :: st) I X := by
  obtain ⟨hd, ho⟩ := ok_d hok
  refine rr_pure (fun _ h => sok_l (sok_t (sok_t h))) (fun G p l e R s0 mid args below meth c Q H locs cells slots ls hF hl hH hS hL hst kk => ?_) k
  exact lv_ladd hF.1 hF.2.1 hd kk
theorem op_16 {x y : Int64} {o : Nat × Nat × Nat × Int32} (hok : okOp M pc (16, o) = true) (k : RR M s s' (pc + 1) L (vL (x * y) :: st) I X) : RR M s s' pc L (vL y :: vL x :: st) I X := by
  obtain ⟨hd, ho⟩ := ok_d hok
  refine rr_pure (fun _ h => sok_l (sok_t (sok_t h))) (fun G p l e R s0 mid args below meth c Q H locs cells slots ls hF hl hH hS hL hst kk => ?_) k
  exact lv_lmul hF.1 hF.2.1 hd kk
theorem op_28 {x y : Int64} {o : Nat × Nat × Nat × Int32} (hok : okOp M pc (28, o) = true) (k : RR M s s' (pc + 1) L (vI (lg_cmp x y) :: st) I X) : RR M s s' pc L (vL y :: vL x :: st) I X := by
  obtain ⟨hd, ho⟩ := ok_d hok
  refine rr_pure (fun _ h => sok_i (sok_t (sok_t h))) (fun G p l e R s0 mid args below meth c Q H locs cells slots ls hF hl hH hS hL hst kk => ?_) k
  exact W.lcmp hF.1 hF.2.1 hd kk
theorem op_11 {x : Int32} {o : Nat × Nat × Nat × Int32} (hok : okOp M pc (11, o) = true) (k : RR M s s' (pc + 1) L (vI (-x) :: st) I X) : RR M s s' pc L (vI x :: st) I X := by
  obtain ⟨hd, ho⟩ := ok_d hok
  refine rr_pure (fun _ h => sok_i (sok_t h)) (fun G p l e R s0 mid args below meth c Q H locs cells slots ls hF hl hH hS hL hst kk => ?_) k
  exact lv_ineg hF.1 hF.2.1 hd kk
theorem op_17 {x : Int32} {o : Nat × Nat × Nat × Int32} (hok : okOp M pc (17, o) = true) (k : RR M s s' (pc + 1) L (vL x.toInt64 :: st) I X) : RR M s s' pc L (vI x :: st) I X := by
  obtain ⟨hd, ho⟩ := ok_d hok
  refine rr_pure (fun _ h => sok_l (sok_t h)) (fun G p l e R s0 mid args below meth c Q H locs cells slots ls hF hl hH hS hL hst kk => ?_) k
  exact lv_i2l hF.1 hF.2.1 hd rfl kk
theorem op_18 {x : Int64} {o : Nat × Nat × Nat × Int32} (hok : okOp M pc (18, o) = true) (k : RR M s s' (pc + 1) L (vI x.toInt32 :: st) I X) : RR M s s' pc L (vL x :: st) I X := by
  obtain ⟨hd, ho⟩ := ok_d hok
  refine rr_pure (fun _ h => sok_i (sok_t h)) (fun G p l e R s0 mid args below meth c Q H locs cells slots ls hF hl hH hS hL hst kk => ?_) k
  exact lv_l2i hF.1 hF.2.1 hd rfl kk
theorem op_19 {o : Nat × Nat × Nat × Int32} (hok : okOp M pc (19, o) = true) (k : RR M s s' (pc + 1) L (vL 0 :: st) I X) : RR M s s' pc L st I X := by
  obtain ⟨hd, ho⟩ := ok_d hok
  refine rr_pure (fun _ h => sok_l h) (fun G p l e R s0 mid args below meth c Q H locs cells slots ls hF hl hH hS hL hst kk => ?_) k
  exact lv_lconst hF.1 hF.2.1 hd rfl kk
theorem op_20 (hok : okOp M pc (20, a, b, cx, z) = true) (k : RR M s s' (pc + 3) L (vL (Int64.ofNat a) :: st) I X) : RR M s s' pc L st I X := by
  obtain ⟨hd, ho⟩ := ok_d hok
  refine rr_pure (fun _ h => sok_l h) (fun G p l e R s0 mid args below meth c Q H locs cells slots ls hF hl hH hS hL hst kk => ?_) k
  exact lv_ldc2 hF.1 hF.2.1 hF.2.2.2.1 (hF.2.2.2.2.1 _ (cstL_in (M.1, cx, a) (by simpa [opOk] using ho))) hd kk
theorem op_21 {v : PV} {o : Nat × Nat × Nat × Int32} (hv : is2 (some (some v)) = false) (hok : okOp M pc (21, o) = true) (k : RR M s s' (pc + 1) L (v :: v :: st) I X) : RR M s s' pc L (v :: st) I X := by
  obtain ⟨hd, ho⟩ := ok_d hok
  refine rr_pure (fun _ h => sok_c (sok_h h) h) (fun G p l e R s0 mid args below meth c Q H locs cells slots ls hF hl hH hS hL hst kk => ?_) k
  exact lv_dup hF.1 hF.2.1 hd (by rw [tvv_cat, hv]; rfl) kk
theorem op_22 {v w : PV} {o : Nat × Nat × Nat × Int32} (hv : is2 (some (some v)) = false) (hw : is2 (some (some w)) = false) (hok : okOp M pc (22, o) = true) (k : RR M s s' (pc + 1) L (v :: w :: v :: w :: st) I X) : RR M s s' pc L (v :: w :: st) I X := by
  obtain ⟨hd, ho⟩ := ok_d hok
  refine rr_pure (fun _ h => sok_c (sok_h h) (sok_c (sok_h (sok_t h)) h)) (fun G p l e R s0 mid args below meth c Q H locs cells slots ls hF hl hH hS hL hst kk => ?_) k
  exact lv_dup2_11 hF.1 hF.2.1 hd (by rw [tvv_cat, hv]; rfl) (by rw [tvv_cat, hw]; rfl) kk
theorem op_23 (hok : okOp M pc (23, a, b, cx, z) = true) (k : RR M s s' a L st I X) : RR M s s' pc L st I X := by
  obtain ⟨hd, ho⟩ := ok_d hok
  refine rr_pure (fun _ h => h) (fun G p l e R s0 mid args below meth c Q H locs cells slots ls hF hl hH hS hL hst kk => ?_) k
  exact lv_goto hF.1 hF.2.1 (off := (a : Int) - (pc : Int)) (tgt := a) hd (by omega) kk
/-! fields -/
theorem isObj_at {g ci : Nat} (h : isObj g ci = true) : skd g = some (.inl ci) := by
  unfold isObj at h
  split at h
  · next a e => rw [e, Nat.eq_of_beq_eq_true h]
  · cases h
theorem skd_lt {g : Nat} {x : Nat ⊕ (Nat × Nat)} (h : skd g = some x) : g < 100 := by
  have h1 := (List.getElem?_eq_some_iff.mp h).1
  exact Nat.lt_of_lt_of_le h1 (by decide +kernel)
theorem ada_lt {G : GX} {g i : Nat} (h : g < 100) : ada G g i = G.1 + pos g i := by rw [ada, if_pos h]
theorem rok_at {s g i : Nat} (h : rok s g i) (hg : g < 100) : i < scnt g ∧ pos g i < cnS s := by
  rcases h with h | h
  · exact h.2
  · omega
theorem fld_ok {own ci k : Nat} (h : fldT.contains (own, cx, ci, k) = true) : ∃ r : vw_C, xcl[ci]? = some r ∧ k < r.2.2 ∧ xcl.getD ci ("", TX0, 0) = r ∧ Cond.fieldLink (onm own) cx (r.2.1 k).1 (r.2.1 k).2.1 (r.2.1 k).2.2.1 ∈ wAll := by
  have hm : (own, cx, ci, k) ∈ fldT := by simpa using h
  have h1 := fld_in1 _ hm
  have h2 := fld_in2 _ hm
  simp only [flOk, Bool.and_eq_true, decide_eq_true_eq] at h1
  obtain ⟨r, hr⟩ : ∃ r, xcl[ci]? = some r := ⟨_, List.getElem?_eq_getElem (show ci < xcl.length from h1.1)⟩
  have he : xcl.getD ci ("", TX0, 0) = r := by rw [List.getD_eq_getElem?_getD, hr]; rfl
  exact ⟨r, hr, by rw [← he]; exact h1.2, he, by rw [← he]; exact h2⟩
/-- the kinds of the slots: what the descriptor says, tau says -/
theorem fkd_tau {g i ci k : Nat} (h : skd g = some (.inl ci)) (hk : k < snf ci) : fkd ci k < 2 ↔ tau g i k = none := by
  have hg := skd_lt h
  have t1 : ∀ g, g < 100 → (match skd g with | some (.inl ci) => (List.range (snf ci)).all (fun k => (Nat.blt (fkd ci k) 2) == ((stauL.getD g []).getD k none).isNone) | _ => true) = true := by decide +kernel
  have h2 := t1 g hg
  rw [h] at h2
  have h3 := List.all_eq_true.mp h2 k (List.mem_range.mpr hk)
  have h4 : tau g i k = none ↔ ((stauL.getD g []).getD k none).isNone = true := by
    unfold tau
    split <;> simp_all
  rw [h4]
  have h5 := eq_of_beq h3
  rw [← h5]
  rw [Nat.blt_eq]
theorem cG_obj {G : GX} {s : Nat} {I : Mem} {g i ci : Nat} (h : skd g = some (.inl ci)) : cG G s I g i = .inr (ci, (List.range (snf ci)).map (fun j => svv G s I g i j)) := by rw [cG, h]
theorem op_24 {g i : Nat} (hok : okOp M pc (24, a, b, cx, z) = true) (hg : isObj g a = true) (hk : fkd a b < 2) (k : RR M s s' (pc + 3) L (vI (I g i b) :: st) I X) : RR M s s' pc L (vR g i :: st) I X := by
  obtain ⟨hd, ho⟩ := ok_d hok
  have hsk := isObj_at hg
  have hlt := skd_lt hsk
  obtain ⟨r, hr, hb, -, hw⟩ := fld_ok ho
  obtain ⟨k1, k2, k3, k4⟩ := cl_ok a r hr
  refine rr_pure (fun _ h => sok_i (sok_t h)) (fun G p l e R s0 mid args below meth c Q H locs cells slots ls hF hl hH hS hL hst kk => ?_) k
  obtain ⟨q1, q2⟩ := rok_at (sok_h hst) hlt
  have hws := wsG_get (G := G) (I := I) q1 q2
  rw [cG_obj hsk] at hws
  show W p l e R s0 mid args below meth c H locs cells slots Q (F0 mid pc ls (.ref (ada G g i) :: st.map (tvv G)))
  rw [ada_lt hlt]
  refine va_get hF.1 hF.2.1 hF.2.2.2.2.1 k1 hF.2.2.2.1 hF.2.2.2.2.2.2.2.2.1 hH.1 (pos g i) hws hr b hb (hF.2.2.2.2.1 _ hw) (fun _ q => q) (v := .int (I g i b)) ?_ hd kk
  rw [List.getElem?_map, List.getElem?_range (by rw [k4]; exact hb)]
  show some (svv G s I g i b) = _
  rw [svv, (fkd_tau (i := i) hsk (by rw [k4]; exact hb)).mp hk]
end OPS2
end
section
/-! references: what they name is there -/
def tgt (g i k : Nat) : Option (Nat × Nat) := match skd g with
  | some (.inr (t, n)) => if t < 2 then none else if k < n then some (rtg t, k) else none
  | _ => tau g i k
def evOk (j : Nat) : Bool := match evs.getD j (0, 0, 0, 0) with
  | (0, g, i, _) => Nat.blt i (scnt g) && Nat.beq (pos g i) (cnS j)
  | (_, g, i, k) => Nat.blt i (scnt g) && (Nat.blt (pos g i) (cnS j) && match tgt g i k with
    | some (h, b) => Nat.blt b (scnt h) && Nat.blt (pos h b) (cnS j)
    | none => false)
theorem evs_ok : ∀ j, j < SF → evOk j = true := by decide +kernel
theorem evs_len : evs.length = SF := by decide +kernel
theorem scnt_pos {g i : Nat} (h : i < scnt g) : g < 100 := by
  rcases Nat.lt_or_ge g 100 with q | q
  · exact q
  · rw [scnt_hi q] at h; omega
theorem sA_ev {s g i k : Nat} (h : sA s g i k = true) : ∃ j, j < s ∧ j < SF ∧ evs[j]? = some (1, g, i, k) := by
  have h1 : (1, g, i, k) ∈ evs.take s := by simpa [sA] using h
  obtain ⟨j, hj⟩ := List.getElem?_of_mem h1
  have h2 := (List.getElem?_eq_some_iff.mp hj).1
  rw [List.length_take, evs_len] at h2
  rw [List.getElem?_take_of_lt (by omega)] at hj
  exact ⟨j, by omega, by omega, hj⟩
theorem ev_set {j g i k : Nat} (hj : j < SF) (h : evs[j]? = some (1, g, i, k)) : i < scnt g ∧ pos g i < cnS j ∧ ∃ t b, tgt g i k = some (t, b) ∧ b < scnt t ∧ pos t b < cnS j := by
  have h1 := evs_ok j hj
  unfold evOk at h1
  rw [List.getD_eq_getElem?_getD, h] at h1
  simp only [Option.getD_some, Bool.and_eq_true, Nat.blt_eq] at h1
  obtain ⟨q1, q2, q3⟩ := h1
  cases ht : tgt g i k with
  | none => rw [ht] at q3; cases q3
  | some t =>
    rw [ht] at q3
    simp only [Bool.and_eq_true, Nat.blt_eq] at q3
    exact ⟨q1, q2, t.1, t.2, rfl, q3.1, q3.2⟩
theorem sA_tgt {s g i k : Nat} (h : sA s g i k = true) : ∃ t b, tgt g i k = some (t, b) ∧ rok s t b ∧ t < 100 := by
  obtain ⟨j, h1, h2, h3⟩ := sA_ev h
  obtain ⟨-, -, t, b, h4, h5, h6⟩ := ev_set h2 h3
  exact ⟨t, b, h4, Or.inl ⟨scnt_pos h5, h5, Nat.lt_of_lt_of_le h6 (cnS_le (Nat.le_of_lt h1))⟩, scnt_pos h5⟩
/-- in the end every reference is set -/
theorem sA_all {g i k : Nat} (hi : i < scnt g) (hk : k < csz g) (ht : tgt g i k ≠ none) : sA SF g i k = true := by
  have t1 : ∀ g, g < 100 → ∀ i, i < 24 → i < scnt g → (List.range (csz g)).all (fun k => (tgt g i k).isNone || sA SF g i k) = true := by decide +kernel
  have h := List.all_eq_true.mp (t1 g (scnt_pos hi) i (Nat.lt_of_lt_of_le hi (scnt_le g)) hi) k (List.mem_range.mpr hk)
  rw [Bool.or_eq_true] at h
  rcases h with h | h
  · exact absurd (Option.isNone_iff_eq_none.mp h) ht
  · exact h
section OPS3
variable {M : MD} {s s' pc : Nat} {L : LC} {st : List PV} {I : Mem} {X : Option (Option PV × Mem)} {a b cx : Nat} {z : Int32}
theorem op_25 {fin : Bool} {g i h bb : Nat} (hfin : fin = true → s = SF) (hok : okOp M pc (25, a, b, cx, z) = true) (hg : isObj g a = true) (hs : (fin || sA s g i b) = true) (ht : tau g i b = some (h, bb)) (k : RR M s s' (pc + 3) L (vR h bb :: st) I X) : RR M s s' pc L (vR g i :: st) I X := by
  obtain ⟨hd, ho⟩ := ok_d hok
  have hsk := isObj_at hg
  have hlt := skd_lt hsk
  obtain ⟨r, hr, hb, -, hw⟩ := fld_ok ho
  obtain ⟨k1, k2, k3, k4⟩ := cl_ok a r hr
  have htg : tgt g i b = some (h, bb) := by rw [tgt, hsk]; exact ht
  have hset : ∀ hst : sok s (vR g i :: st), sA s g i b = true := by
    intro hst
    obtain ⟨q1, q2⟩ := rok_at (sok_h hst) hlt
    cases fin with
    | true =>
      rw [hfin rfl]
      exact sA_all q1 (by rw [csz, hsk]; show b < snf a; rw [k4]; exact hb) (by rw [htg]; exact fun q => by cases q)
    | false => exact hs
  have hrok : ∀ hst : sok s (vR g i :: st), rok s h bb ∧ h < 100 := by
    intro hst
    obtain ⟨t, b1, e1, e2, e3⟩ := sA_tgt (hset hst)
    rw [htg] at e1
    cases e1
    exact ⟨e2, e3⟩
  refine rr_pure (fun _ hst => sok_c (v := vR h bb) (hrok hst).1 (sok_t hst)) (fun G p l e R s0 mid args below meth c Q H locs cells slots ls hF hl hH hS hL hst kk => ?_) k
  obtain ⟨q1, q2⟩ := rok_at (sok_h hst) hlt
  have hws := wsG_get (G := G) (I := I) q1 q2
  rw [cG_obj hsk] at hws
  have hh : h < 100 := (hrok hst).2
  show W p l e R s0 mid args below meth c H locs cells slots Q (F0 mid pc ls (.ref (ada G g i) :: st.map (tvv G)))
  rw [ada_lt hlt]
  refine va_get hF.1 hF.2.1 hF.2.2.2.2.1 k1 hF.2.2.2.1 hF.2.2.2.2.2.2.2.2.1 hH.1 (pos g i) hws hr b hb (hF.2.2.2.2.1 _ hw) (fun _ q => q) (v := .ref (ada G h bb)) ?_ hd kk
  rw [List.getElem?_map, List.getElem?_range (by rw [k4]; exact hb)]
  show some (svv G s I g i b) = _
  simp only [svv, ht]
  rw [if_pos (hset hst), ada_lt hh]
theorem cG_mup {G : GX} {g i k h bb : Nat} {v : Int32} (hn : (h, bb) ≠ (g, i)) : cG G s (mup I g i k v) h bb = cG G s I h bb := by
  have e : ∀ j, mup I g i k v h bb j = I h bb j := fun j => by
    unfold mup
    rw [if_neg (fun q => hn (by rw [q.1, q.2.1]))]
  unfold cG
  split
  · have : ∀ j, svv G s (mup I g i k v) h bb j = svv G s I h bb j := fun j => by unfold svv; split <;> simp [e]
    simp [this]
  · rw [show mup I g i k v h bb = I h bb from funext e]
  · rfl
theorem xok_mup {G : GX} {g i k : Nat} {v : Int32} (h : xok G I) (hg : g < 100) : xok G (mup I g i k v) := by
  obtain ⟨h1, h2, h3, h4⟩ := h
  have e : ∀ a b c, 100 ≤ a → mup I g i k v a b c = I a b c := fun a b c ha => by
    unfold mup
    rw [if_neg (fun q => by omega)]
  exact ⟨fun j => by rw [e _ _ _ (by omega)]; exact h1 j, by rw [e _ _ _ (by omega)]; exact h2, fun j => by rw [e _ _ _ (by omega)]; exact h3 j, fun j => by rw [e _ _ _ (by omega)]; exact h4 j⟩
theorem mup_self {g i k : Nat} {v : Int32} : mup I g i k v g i k = v := by simp [mup]
/-- a field's number is written -/
theorem op_26 {g i : Nat} {x : Int32} (hok : okOp M pc (26, a, b, cx, z) = true) (hg : isObj g a = true) (hk : pfk a b x = true) (k : RR M s s' (pc + 3) L st (mup I g i b x) X) : RR M s s' pc L (vI x :: vR g i :: st) I X := by
  obtain ⟨hd, ho⟩ := ok_d hok
  have hsk := isObj_at hg
  have hlt := skd_lt hsk
  obtain ⟨r, hr, hb, hre, hw⟩ := fld_ok ho
  obtain ⟨k1, k2, k3, k4⟩ := cl_ok a r hr
  have hbs : b < snf a := by rw [k4]; exact hb
  unfold pfk at hk
  have hk2 : fkd a b < 2 := by
    split at hk
    · next e => rw [e]; decide
    · next e => rw [e]; decide
    · cases hk
  have hfin : (r.2.1 b).2.2.2 = false ∧ ∃ ty, parseFieldDescriptor (r.2.1 b).2.2.1 = some ty ∧ narrow ty (.int x) = .int x ∧ fits ty (.int x) = true := by
    have t1 : ∀ ci, ci < 9 → (List.range (snf ci)).all (fun k => !(Nat.blt (fkd ci k) 2) || (!((xcl.getD ci ("", TX0, 0)).2.1 k).2.2.2 && (decide (((xcl.getD ci ("", TX0, 0)).2.1 k).2.2.1 = "I") && Nat.beq (fkd ci k) 0 || decide (((xcl.getD ci ("", TX0, 0)).2.1 k).2.2.1 = "Z") && Nat.beq (fkd ci k) 1))) = true := by decide +kernel
    have ha9 : a < 9 := (List.getElem?_eq_some_iff.mp hr).1
    have h1 := List.all_eq_true.mp (t1 a ha9) b (List.mem_range.mpr hbs)
    rw [hre] at h1
    have hb2 : Nat.blt (fkd a b) 2 = true := by rw [Nat.blt_eq]; exact hk2
    rw [hb2] at h1
    simp only [Bool.not_true, Bool.false_or, Bool.and_eq_true, Bool.or_eq_true, decide_eq_true_eq, Bool.not_eq_true'] at h1
    refine ⟨h1.1, ?_⟩
    rcases h1.2 with ⟨q1, q2⟩ | ⟨q1, q2⟩
    · rw [q1]
      exact ⟨.int, by decide +kernel, rfl, rfl⟩
    · rw [q1]
      rw [Nat.eq_of_beq_eq_true q2] at hk
      simp only [Bool.or_eq_true, decide_eq_true_eq] at hk
      refine ⟨.boolean, by decide +kernel, ?_⟩
      rcases hk with rfl | rfl <;> exact ⟨by decide +kernel, by decide +kernel⟩
  obtain ⟨hfin, ty, hty, hn, hfit⟩ := hfin
  intro r9 I' hX hL hst hss G p l e R s0 mid args below meth c Q c0 z0 hF hc hz hQ H locs cells slots ls hH hS h1 h2 hl
  obtain ⟨q1, q2⟩ := rok_at (sok_h (sok_t hst)) hlt
  have hws := wsG_get (G := G) (I := I) q1 q2
  rw [cG_obj hsk] at hws
  show W p l e R s0 mid args below meth c H locs cells slots Q (F0 mid pc ls (.int x :: .ref (ada G g i) :: st.map (tvv G)))
  rw [ada_lt hlt]
  obtain ⟨hP, hsz, hxo⟩ := hH
  have hK := hF.2.2.2.2.2.2.2.2.1
  have hts := hF.2.2.2.2.1
  have hap := va_apart (own := onm M.1) hts k1 (sty a) k3 k2 hK hr
  obtain ⟨r2, hr2, cell, w1, w2, w3, w4⟩ := hP (pos g i) _ hws
  have hr3 : r2 = r := Option.some.inj (hr2.symm.trans hr)
  subst hr3
  obtain ⟨hSl, hfc, kC, hkC, hkind⟩ := hK.1 a _ hr
  obtain ⟨cf, kf, fi, f, hi, hsl⟩ := hSl b hb
  have hlay := hts _ (k1 _ (u_in_lay hb))
  unfold u_lay at hlay
  rw [if_neg (by rw [hfin]; decide)] at hlay
  have hstc := (u_facts hfc hkC (u_lays hts k1 hb) hi).1
  have h6 := u_store hfc hkC hkind hlay hi hty hn hfit
  refine W.putK hF.1 hF.2.1 (f := f) ⟨hF.2.2.2.1, hts _ hw, ⟨_, _, _, hi⟩, hstc⟩ (by rw [w2]; exact h6) w1 w3 (by rw [hsl]; exact k2_hasslot (w4 b hb)) rfl rfl hd fun H' e1 e2 e3 => ?_
  rw [hsl] at e1 ⊢
  have hD := wsG_D G s I
  have hlen : b < ((List.range (snf a)).map (fun j => svv G s I g i j)).length := by simpa using hbs
  have hP' := hP.set hD hws (e := .inr (a, ((List.range (snf a)).map (fun j => svv G s I g i j)).set b (.int x))) ⟨_, hr, t_OB.to (V := updV (vp_V ((List.range (snf a)).map (fun j => svv G s I g i j))) b (.int x)) ⟨_, e1, w2, w3, t_set w4 hap hb (.int x)⟩ (fun j _ => vp_updV_set hlen (.int x) j)⟩ e3
  have hnew : (.inr (a, ((List.range (snf a)).map (fun j => svv G s I g i j)).set b (.int x)) : va_E) = cG G s (mup I g i b x) g i := by
    rw [cG_obj hsk]
    congr 2
    apply List.ext_getElem?
    intro j
    by_cases hj : j < snf a
    · rw [List.getElem?_map, List.getElem?_range hj]
      by_cases ej : j = b
      · subst ej
        rw [List.getElem?_set_self hlen]
        simp only [Option.map_some, svv, (fkd_tau (i := i) hsk hbs).mp hk2, mup_self]
      · rw [List.getElem?_set_ne (fun q => ej q.symm), List.getElem?_map, List.getElem?_range hj]
        simp only [Option.map_some, svv]
        have : mup I g i b x g i j = I g i j := by simp [mup, ej]
        rw [this]
    · rw [List.getElem?_eq_none (by simpa using Nat.not_lt.mp hj), List.getElem?_eq_none (by simpa using Nat.not_lt.mp hj)]
  rw [hnew, wsG_set q1 q2 rfl (fun h bb _ hne => cG_mup hne)] at hP'
  exact k r9 I' hX hL (sok_t (sok_t hst)) hss G p l e R s0 mid args below meth c Q c0 z0 hF hc hz hQ H' _ cells slots ls ⟨hP', e2.trans hsz, xok_mup hxo hlt⟩ (hS.put e2 e3 (hD.2 _ _ hws)) h1 h2 hl
end OPS3
end
section
section OPS4
variable {M : MD} {s s' pc : Nat} {L : LC} {st : List PV} {I : Mem} {X : Option (Option PV × Mem)} {a b cx : Nat} {z : Int32}
theorem FC_fx {G : GX} {p : Program} {R : Room} {s0 : State} {mid : MethodId} {args : Array Value} {meth : Method} {c : Code} (h : FC G M p R s0 mid args meth c) : FX G s0 := h.2.2.2.2.2.2.2.2
theorem cG_arr {G : GX} {g i t n : Nat} (h : skd g = some (.inr (t, n))) (ht : t < 2) : cG G s I g i = .inl (G.2.2.1 t, n, .inl (I g i)) := by
  rw [cG, h]
  show (if t < 2 then _ else _) = _
  rw [if_pos ht]
theorem cG_rarr {G : GX} {g i t n : Nat} (h : skd g = some (.inr (t, n))) (ht : ¬ t < 2) : cG G s I g i = .inl (G.2.2.1 t, n, .inr (.inr (.inr (.inr (fun j => if sA s g i j = true then some (G.1 + pos (rtg t) j) else none))))) := by
  rw [cG, h]
  show (if t < 2 then _ else _) = _
  rw [if_neg ht]
theorem skd_t {g t n : Nat} (h : skd g = some (.inr (t, n))) : t < 4 := by
  have t1 : ∀ g, g < 100 → (match skd g with | some (.inr (t, _)) => Nat.blt t 4 | _ => true) = true := by decide +kernel
  have := t1 g (skd_lt h)
  rw [h] at this
  exact Nat.blt_eq.mp this
theorem tysG_at {G : GX} {t : Nat} (h : t < 4) : (tysG G)[t]? = some (G.2.2.1 t, [.int, .boolean, .object (rcl 2), .object (rcl 3)].getD t .int) := by
  match t, h with
  | 0, _ => rfl
  | 1, _ => rfl
  | 2, _ => rfl
  | 3, _ => rfl
theorem rok_ext {g i : Nat} (h : rok s g i) (hg : skd g = none) : 100 ≤ g ∧ g < 103 ∧ i = 0 := by
  rcases h with h | h
  · have t1 : ∀ g, g < 100 → 0 < scnt g → (skd g).isSome = true := by decide +kernel
    have := t1 g h.1 (by omega)
    rw [hg] at this
    cases this
  · exact h
theorem aln_ext {G : GX} {g : Nat} (hx : xok G I) (hL : G.2.2.2.1.2.1 < 2 ^ 31) (hs : skd g = none) : (g = 100 → aln I g = G.2.2.2.1.2.1) ∧ (g = 101 → aln I g = 5) ∧ (g = 102 → aln I g = 4) := by
  refine ⟨fun e => ?_, fun e => ?_, fun e => ?_⟩ <;> subst e <;> unfold aln <;> rw [hs]
  · show (if 100 = 100 then _ else _) = _
    rw [if_pos rfl, hx.2.1, nI_clamp hL]
  · rfl
  · rfl
theorem op_27 {g i : Nat} {o : Nat × Nat × Nat × Int32} (hok : okOp M pc (27, o) = true) (hg : isArr g = true) (k : RR M s s' (pc + 1) L (vI (nI (aln I g)) :: st) I X) : RR M s s' pc L (vR g i :: st) I X := by
  obtain ⟨hd, ho⟩ := ok_d hok
  refine rr_pure (fun _ h => sok_i (sok_t h)) (fun G p l e R s0 mid args below meth c Q H locs cells slots ls hF hl hH hS hL hst kk => ?_) k
  have hfx := FC_fx hF
  show W p l e R s0 mid args below meth c H locs cells slots Q (F0 mid pc ls (.ref (ada G g i) :: st.map (tvv G)))
  cases hsk : skd g with
  | none =>
    obtain ⟨e1, e2, e3⟩ := rok_ext (sok_h hst) hsk
    obtain ⟨f1, f2, f3⟩ := aln_ext hH.2.2 hfx.2.1.2.2 hsk
    rcases (show g = 100 ∨ g = 101 ∨ g = 102 by omega) with rfl | rfl | rfl
    · rw [f1 rfl] at kk
      exact va_slen hF.1 hF.2.1 hfx.2.1.1 (Nat.lt_of_lt_of_le hfx.2.1.2.1 hfx.2.2.2.2.1) (Nat.not_le.mpr hfx.2.1.2.1) hS hd kk
    · rw [f2 rfl] at kk
      exact va_tlen hF.1 hF.2.1 hfx.2.2.1.2 hS rfl hd kk
    · rw [f3 rfl] at kk
      exact va_tlen hF.1 hF.2.1 hfx.2.2.2.1.2 hS rfl hd kk
  | some x =>
    have hlt := skd_lt hsk
    rw [ada_lt hlt]
    obtain ⟨q1, q2⟩ := rok_at (sok_h hst) hlt
    have hws := wsG_get (G := G) (I := I) q1 q2
    rcases x with ci | ⟨t, n⟩
    · rw [isArr, hsk] at hg; cases hg
    · have ha : aln I g = n := by rw [aln, hsk]
      rw [ha] at kk
      by_cases h2 : t < 2
      · rw [cG_arr hsk h2] at hws
        exact va_alen hF.1 hF.2.1 hfx.1 hH.1 (pos g i) t hws (tysG_at (skd_t hsk)) rfl hd kk
      · rw [cG_rarr hsk h2] at hws
        exact va_alen hF.1 hF.2.1 hfx.1 hH.1 (pos g i) t hws (tysG_at (skd_t hsk)) rfl hd kk
theorem op_29 (hok : okOp M pc (29, a, b, cx, z) = true) (k : RR M s s' (pc + 3) L (vR a 0 :: st) I X) : RR M s s' pc L st I X := by
  obtain ⟨hd, ho⟩ := ok_d hok
  have ho2 : (a = 101 ∧ M.1 = 7 ∧ cx = 309) ∨ (a = 102 ∧ M.1 = 6 ∧ cx = 68) := by
    simp only [opOk, Bool.or_eq_true, Bool.and_eq_true, beq_iff_eq] at ho
    rcases ho with ⟨⟨h1, h2⟩, h3⟩ | ⟨⟨h1, h2⟩, h3⟩
    · exact Or.inl ⟨h1, h2, h3⟩
    · exact Or.inr ⟨h1, h2, h3⟩
  refine rr_pure (fun _ h => sok_c (v := vR a 0) (Or.inr (by rcases ho2 with q | q <;> (rw [q.1]; decide))) h) (fun G p l e R s0 mid args below meth c Q H locs cells slots ls hF hl hH hS hL hst kk => ?_) k
  have hfx := FC_fx hF
  have hown := hF.2.2.2.1
  rcases ho2 with ⟨rfl, e2, rfl⟩ | ⟨rfl, e2, rfl⟩
  · rw [e2] at hown
    exact va_gets hF.1 hF.2.1 hfx.2.2.1.1 hS hown (hF.2.2.2.2.1 _ xs101_in) (fun _ q => q) hd kk
  · rw [e2] at hown
    exact va_getsN hF.1 hF.2.1 hfx.2.2.2.1.1 hS hown (va_Nw.use rfl (hfx.2.2.2.2.2.1 _ xs102_in)) (fun _ q => q) hd kk
end OPS4
/-- an instruction of a row -/
theorem rr_op1 {M : MD} {s s' pc : Nat} {L L' : LC} {st st' : List PV} {I I1 : Mem} {X : Option (Option PV × Mem)} {fin : Bool} (hfin : fin = true → s = SF) : ∀ o : PO, okOp M pc o = true → seg1 fin s o L st I = some (L', st', I1) → RR M s s' (nxO pc o) L' st' I1 X → RR M s s' pc L st I X
  | (0, 0, _, _, _), hok, hs, k => by cases hs; exact op_0_0 hok k
  | (0, 1, _, _, _), hok, hs, k => by cases hs; exact op_0_1 hok k
  | (0, 2, _, _, _), hok, hs, k => by cases hs; exact op_0_2 hok k
  | (0, 3, _, _, _), hok, hs, k => by cases hs; exact op_0_3 hok k
  | (0, _ + 4, _, _, _), hok, hs, k => by cases hs; exact op_0_4 hok k
  | (1, a, 0, _, _), hok, hs, k => by
    simp only [seg1] at hs
    split at hs
    · next e => cases hs; exact op_1_0 hok e k
    · cases hs
  | (1, a, _ + 1, _, _), hok, hs, k => by
    simp only [seg1] at hs
    split at hs
    · next e => cases hs; exact op_1_1 hok e k
    · cases hs
  | (2, a, 0, _, _), hok, hs, k => by
    simp only [seg1] at hs
    split at hs
    · next e => cases hs; exact op_2_0 hok e k
    · cases hs
  | (2, a, _ + 1, _, _), hok, hs, k => by
    simp only [seg1] at hs
    split at hs
    · next e => cases hs; exact op_2_1 hok e k
    · cases hs
  | (3, a, _, _, _), hok, hs, k => by
    simp only [seg1] at hs
    split at hs
    · next e => cases hs; exact op_3 hok e k
    · cases hs
  | (4, a, 0, _, _), hok, hs, k => by
    simp only [seg1] at hs
    split at hs
    · obtain ⟨L1, h1, h2⟩ := Option.map_eq_some_iff.mp hs
      cases h2; exact op_4_0 hok h1 k
    · cases hs
  | (4, a, _ + 1, _, _), hok, hs, k => by
    simp only [seg1] at hs
    split at hs
    · obtain ⟨L1, h1, h2⟩ := Option.map_eq_some_iff.mp hs
      cases h2; exact op_4_1 hok h1 k
    · cases hs
  | (5, a, 0, _, _), hok, hs, k => by
    simp only [seg1] at hs
    split at hs
    · obtain ⟨L1, h1, h2⟩ := Option.map_eq_some_iff.mp hs
      cases h2; exact op_5_0 hok h1 k
    · cases hs
  | (5, a, _ + 1, _, _), hok, hs, k => by
    simp only [seg1] at hs
    split at hs
    · obtain ⟨L1, h1, h2⟩ := Option.map_eq_some_iff.mp hs
      cases h2; exact op_5_1 hok h1 k
    · cases hs
  | (6, a, _, _, _), hok, hs, k => by
    simp only [seg1] at hs
    split at hs
    · obtain ⟨L1, h1, h2⟩ := Option.map_eq_some_iff.mp hs
      cases h2; exact op_6 hok h1 k
    · cases hs
  | (7, a, _, _, z), hok, hs, k => by
    simp only [seg1] at hs
    split at hs
    · next e =>
      obtain ⟨L1, h1, h2⟩ := Option.map_eq_some_iff.mp hs
      cases h2; exact op_7 hok e h1 k
    · cases hs
  | (8, _), hok, hs, k => by simp only [seg1] at hs; split at hs <;> cases hs; exact op_8 hok k
  | (9, _), hok, hs, k => by simp only [seg1] at hs; split at hs <;> cases hs; exact op_9 hok k
  | (10, _), hok, hs, k => by simp only [seg1] at hs; split at hs <;> cases hs; exact op_10 hok k
  | (11, _), hok, hs, k => by simp only [seg1] at hs; split at hs <;> cases hs; exact op_11 hok k
  | (12, _), hok, hs, k => by simp only [seg1] at hs; split at hs <;> cases hs; exact op_12 hok k
  | (13, _), hok, hs, k => by simp only [seg1] at hs; split at hs <;> cases hs; exact op_13 hok k
  | (14, _), hok, hs, k => by simp only [seg1] at hs; split at hs <;> cases hs; exact op_14 hok k
  | (15, _), hok, hs, k => by simp only [seg1] at hs; split at hs <;> cases hs; exact op_15 hok k
  | (16, _), hok, hs, k => by simp only [seg1] at hs; split at hs <;> cases hs; exact op_16 hok k
  | (17, _), hok, hs, k => by simp only [seg1] at hs; split at hs <;> cases hs; exact op_17 hok k
  | (18, _), hok, hs, k => by simp only [seg1] at hs; split at hs <;> cases hs; exact op_18 hok k
  | (19, _), hok, hs, k => by cases hs; exact op_19 hok k
  | (20, _, _, _, _), hok, hs, k => by cases hs; exact op_20 hok k
  | (21, _), hok, hs, k => by simp only [seg1] at hs; split at hs <;> cases hs <;> exact op_21 rfl hok k
  | (22, _), hok, hs, k => by simp only [seg1] at hs; split at hs <;> cases hs <;> exact op_22 rfl rfl hok k
  | (23, _, _, _, _), hok, hs, k => by cases hs; exact op_23 hok k
  | (24, a, b, _, _), hok, hs, k => by
    simp only [seg1] at hs
    split at hs
    · split at hs
      · next h0 =>
        rw [Bool.and_eq_true] at h0
        cases hs; exact op_24 hok h0.1 (Nat.blt_eq.mp h0.2) k
      · cases hs
    · cases hs
  | (25, a, b, _, _), hok, hs, k => by
    simp only [seg1] at hs
    split at hs
    · split at hs
      · next h0 =>
        rw [Bool.and_eq_true] at h0
        split at hs
        · next e => cases hs; exact op_25 hfin hok h0.1 h0.2 e k
        · cases hs
      · cases hs
    · cases hs
  | (26, a, b, _, _), hok, hs, k => by
    simp only [seg1] at hs
    split at hs
    · split at hs
      · next h0 =>
        rw [Bool.and_eq_true] at h0
        cases hs; exact op_26 hok h0.1 h0.2 k
      · cases hs
    · cases hs
  | (27, _), hok, hs, k => by
    simp only [seg1] at hs
    split at hs
    · split at hs
      · next h0 => cases hs; exact op_27 hok h0 k
      · cases hs
    · cases hs
  | (28, _), hok, hs, k => by simp only [seg1] at hs; split at hs <;> cases hs; exact op_28 hok k
  | (29, _, _, _, _), hok, hs, k => by cases hs; exact op_29 hok k
  | (_ + 30, _), _, hs, _ => by cases hs
theorem rr_seg0 {M : MD} {s s' : Nat} {X : Option (Option PV × Mem)} {fin : Bool} (hfin : fin = true → s = SF) : ∀ (ops : List PO) {pc pc' : Nat} {L L' : LC} {st st' : List PV} {I I1 : Mem}, okOps M pc ops = true → seg fin s ops pc L st I = some (pc', L', st', I1) → RR M s s' pc' L' st' I1 X → RR M s s' pc L st I X
  | [], _, _, _, _, _, _, _, _, _, hs, k => by cases hs; exact k
  | o :: os, pc, pc', L, L', st, st', I, I1, hok, hs, k => by
    simp only [okOps, Bool.and_eq_true] at hok
    simp only [seg] at hs
    split at hs
    · next e => exact rr_op1 hfin o hok.1 e (rr_seg0 hfin os hok.2 hs k)
    · cases hs
/-- straight rows of instructions, in the end and while the heap is made -/
theorem rr_seg {M : MD} {pc : Nat} {L : LC} {st : List PV} {I : Mem} {X : Option (Option PV × Mem)} (ops : List PO) (pc' : Nat) (L' : LC) (st' : List PV) (I1 : Mem) (hok : okOps M pc ops = true) (hs : seg true SF ops pc L st I = some (pc', L', st', I1)) (k : RR M SF SF pc' L' st' I1 X) : RR M SF SF pc L st I X := rr_seg0 (fun _ => rfl) ops hok hs k
theorem rr_segC {M : MD} {s s' pc : Nat} {L : LC} {st : List PV} {I : Mem} {X : Option (Option PV × Mem)} (ops : List PO) (pc' : Nat) (L' : LC) (st' : List PV) (I1 : Mem) (hok : okOps M pc ops = true) (hs : seg false s ops pc L st I = some (pc', L', st', I1)) (k : RR M s s' pc' L' st' I1 X) : RR M s s' pc L st I X := rr_seg0 (fun h => by cases h) ops hok hs k
end
section
/-! ===== branches, arrays, quotients, answers ===== -/
/-- an index is looked at before it is used -/
def ix {α : Type} (x : Int32) (n : Nat) (k : Nat → Option α) : Option α := if x < 0 ∨ n ≤ x.toNatClampNeg then none else k x.toNatClampNeg
theorem ix_some {α : Type} {x : Int32} {n : Nat} {k : Nat → Option α} {r : α} (h : ix x n k = some r) : vp_in x n ∧ k x.toNatClampNeg = some r := by
  unfold ix at h
  split at h
  · cases h
  · next q => exact ⟨q, h⟩
theorem ix_nI {α : Type} {i n : Nat} {k : Nat → Option α} (h : i < n) (hn : n < 2 ^ 31) : ix (nI i) n k = k i := by
  unfold ix
  rw [if_neg (nI_in h hn), nI_clamp (by omega)]
def znar (x : Int32) : Int32 := vp_nar .boolean x
theorem znar_0 : znar 0 = 0 := by decide +kernel
theorem znar_1 : znar 1 = 1 := by decide +kernel
section RUL
variable {M : MD} {s s' pc : Nat} {L : LC} {st : List PV} {I : Mem} {X Y : Option (Option PV × Mem)}
theorem rr_if_eq {x : Int32} (tg : Nat) (hd : decode M.2.2.1 pc = .ok (.ifCond .eq ((tg : Int) - (pc : Int)), 3)) (kt : RR M s s' tg L st I X) (kf : RR M s s' (pc + 3) L st I Y) : RR M s s' pc L (vI x :: st) I (if x = 0 then X else Y) := by
  intro r I' hX hL hst hss G p l e R s0 mid args below meth c Q c0 z0 hF hc hz hQ H locs cells slots ls hH hS h1 h2 hl
  by_cases h : x = 0
  · rw [if_pos h] at hX
    exact lv_if_eq hF.1 hF.2.1 (tgt := tg) hd (by omega) (fun _ => kt r I' hX hL (sok_t hst) hss G p l e R s0 mid args below meth c Q c0 z0 hF hc hz hQ H locs cells slots ls hH hS h1 h2 hl) (fun n => absurd h n)
  · rw [if_neg h] at hX
    exact lv_if_eq hF.1 hF.2.1 (tgt := tg) hd (by omega) (fun n => absurd n h) (fun _ => kf r I' hX hL (sok_t hst) hss G p l e R s0 mid args below meth c Q c0 z0 hF hc hz hQ H locs cells slots ls hH hS h1 h2 hl)
theorem rr_if_ne {x : Int32} (tg : Nat) (hd : decode M.2.2.1 pc = .ok (.ifCond .ne ((tg : Int) - (pc : Int)), 3)) (kt : RR M s s' tg L st I X) (kf : RR M s s' (pc + 3) L st I Y) : RR M s s' pc L (vI x :: st) I (if x = 0 then Y else X) := by
  intro r I' hX hL hst hss G p l e R s0 mid args below meth c Q c0 z0 hF hc hz hQ H locs cells slots ls hH hS h1 h2 hl
  by_cases h : x = 0
  · rw [if_pos h] at hX
    exact lv_if_ne hF.1 hF.2.1 (tgt := tg) hd (by omega) (fun n => absurd h n) (fun _ => kf r I' hX hL (sok_t hst) hss G p l e R s0 mid args below meth c Q c0 z0 hF hc hz hQ H locs cells slots ls hH hS h1 h2 hl)
  · rw [if_neg h] at hX
    exact lv_if_ne hF.1 hF.2.1 (tgt := tg) hd (by omega) (fun _ => kt r I' hX hL (sok_t hst) hss G p l e R s0 mid args below meth c Q c0 z0 hF hc hz hQ H locs cells slots ls hH hS h1 h2 hl) (fun n => absurd n h)
theorem rr_if_lt {x : Int32} (tg : Nat) (hd : decode M.2.2.1 pc = .ok (.ifCond .lt ((tg : Int) - (pc : Int)), 3)) (kt : RR M s s' tg L st I X) (kf : RR M s s' (pc + 3) L st I Y) : RR M s s' pc L (vI x :: st) I (if x < 0 then X else Y) := by
  intro r I' hX hL hst hss G p l e R s0 mid args below meth c Q c0 z0 hF hc hz hQ H locs cells slots ls hH hS h1 h2 hl
  by_cases h : x < 0
  · rw [if_pos h] at hX
    exact lv_if_lt hF.1 hF.2.1 (tgt := tg) hd (by omega) (fun _ => kt r I' hX hL (sok_t hst) hss G p l e R s0 mid args below meth c Q c0 z0 hF hc hz hQ H locs cells slots ls hH hS h1 h2 hl) (fun n => absurd h n)
  · rw [if_neg h] at hX
    exact lv_if_lt hF.1 hF.2.1 (tgt := tg) hd (by omega) (fun n => absurd n h) (fun _ => kf r I' hX hL (sok_t hst) hss G p l e R s0 mid args below meth c Q c0 z0 hF hc hz hQ H locs cells slots ls hH hS h1 h2 hl)
theorem rr_if_ge {x : Int32} (tg : Nat) (hd : decode M.2.2.1 pc = .ok (.ifCond .ge ((tg : Int) - (pc : Int)), 3)) (kt : RR M s s' tg L st I X) (kf : RR M s s' (pc + 3) L st I Y) : RR M s s' pc L (vI x :: st) I (if 0 ≤ x then X else Y) := by
  intro r I' hX hL hst hss G p l e R s0 mid args below meth c Q c0 z0 hF hc hz hQ H locs cells slots ls hH hS h1 h2 hl
  by_cases h : 0 ≤ x
  · rw [if_pos h] at hX
    exact lv_if_ge hF.1 hF.2.1 (tgt := tg) hd (by omega) (fun _ => kt r I' hX hL (sok_t hst) hss G p l e R s0 mid args below meth c Q c0 z0 hF hc hz hQ H locs cells slots ls hH hS h1 h2 hl) (fun n => absurd h n)
  · rw [if_neg h] at hX
    exact lv_if_ge hF.1 hF.2.1 (tgt := tg) hd (by omega) (fun n => absurd n h) (fun _ => kf r I' hX hL (sok_t hst) hss G p l e R s0 mid args below meth c Q c0 z0 hF hc hz hQ H locs cells slots ls hH hS h1 h2 hl)
theorem rr_if_gt {x : Int32} (tg : Nat) (hd : decode M.2.2.1 pc = .ok (.ifCond .gt ((tg : Int) - (pc : Int)), 3)) (kt : RR M s s' tg L st I X) (kf : RR M s s' (pc + 3) L st I Y) : RR M s s' pc L (vI x :: st) I (if 0 < x then X else Y) := by
  intro r I' hX hL hst hss G p l e R s0 mid args below meth c Q c0 z0 hF hc hz hQ H locs cells slots ls hH hS h1 h2 hl
  by_cases h : 0 < x
  · rw [if_pos h] at hX
    exact lv_if_gt hF.1 hF.2.1 (tgt := tg) hd (by omega) (fun _ => kt r I' hX hL (sok_t hst) hss G p l e R s0 mid args below meth c Q c0 z0 hF hc hz hQ H locs cells slots ls hH hS h1 h2 hl) (fun n => absurd h n)
  · rw [if_neg h] at hX
    exact lv_if_gt hF.1 hF.2.1 (tgt := tg) hd (by omega) (fun n => absurd n h) (fun _ => kf r I' hX hL (sok_t hst) hss G p l e R s0 mid args below meth c Q c0 z0 hF hc hz hQ H locs cells slots ls hH hS h1 h2 hl)
theorem rr_if_le {x : Int32} (tg : Nat) (hd : decode M.2.2.1 pc = .ok (.ifCond .le ((tg : Int) - (pc : Int)), 3)) (kt : RR M s s' tg L st I X) (kf : RR M s s' (pc + 3) L st I Y) : RR M s s' pc L (vI x :: st) I (if x ≤ 0 then X else Y) := by
  intro r I' hX hL hst hss G p l e R s0 mid args below meth c Q c0 z0 hF hc hz hQ H locs cells slots ls hH hS h1 h2 hl
  by_cases h : x ≤ 0
  · rw [if_pos h] at hX
    exact lv_if_le hF.1 hF.2.1 (tgt := tg) hd (by omega) (fun _ => kt r I' hX hL (sok_t hst) hss G p l e R s0 mid args below meth c Q c0 z0 hF hc hz hQ H locs cells slots ls hH hS h1 h2 hl) (fun n => absurd h n)
  · rw [if_neg h] at hX
    exact lv_if_le hF.1 hF.2.1 (tgt := tg) hd (by omega) (fun n => absurd n h) (fun _ => kf r I' hX hL (sok_t hst) hss G p l e R s0 mid args below meth c Q c0 z0 hF hc hz hQ H locs cells slots ls hH hS h1 h2 hl)
theorem rr_ic_eq {x y : Int32} (tg : Nat) (hd : decode M.2.2.1 pc = .ok (.if_icmp .eq ((tg : Int) - (pc : Int)), 3)) (kt : RR M s s' tg L st I X) (kf : RR M s s' (pc + 3) L st I Y) : RR M s s' pc L (vI y :: vI x :: st) I (if x = y then X else Y) := by
  intro r I' hX hL hst hss G p l e R s0 mid args below meth c Q c0 z0 hF hc hz hQ H locs cells slots ls hH hS h1 h2 hl
  by_cases h : x = y
  · rw [if_pos h] at hX
    exact lv_icmp_eq hF.1 hF.2.1 (tgt := tg) hd (by omega) (fun _ => kt r I' hX hL (sok_t (sok_t hst)) hss G p l e R s0 mid args below meth c Q c0 z0 hF hc hz hQ H locs cells slots ls hH hS h1 h2 hl) (fun n => absurd h n)
  · rw [if_neg h] at hX
    exact lv_icmp_eq hF.1 hF.2.1 (tgt := tg) hd (by omega) (fun n => absurd n h) (fun _ => kf r I' hX hL (sok_t (sok_t hst)) hss G p l e R s0 mid args below meth c Q c0 z0 hF hc hz hQ H locs cells slots ls hH hS h1 h2 hl)
theorem rr_ic_ne {x y : Int32} (tg : Nat) (hd : decode M.2.2.1 pc = .ok (.if_icmp .ne ((tg : Int) - (pc : Int)), 3)) (kt : RR M s s' tg L st I X) (kf : RR M s s' (pc + 3) L st I Y) : RR M s s' pc L (vI y :: vI x :: st) I (if x = y then Y else X) := by
  intro r I' hX hL hst hss G p l e R s0 mid args below meth c Q c0 z0 hF hc hz hQ H locs cells slots ls hH hS h1 h2 hl
  by_cases h : x = y
  · rw [if_pos h] at hX
    exact lv_icmp_ne hF.1 hF.2.1 (tgt := tg) hd (by omega) (fun n => absurd h n) (fun _ => kf r I' hX hL (sok_t (sok_t hst)) hss G p l e R s0 mid args below meth c Q c0 z0 hF hc hz hQ H locs cells slots ls hH hS h1 h2 hl)
  · rw [if_neg h] at hX
    exact lv_icmp_ne hF.1 hF.2.1 (tgt := tg) hd (by omega) (fun _ => kt r I' hX hL (sok_t (sok_t hst)) hss G p l e R s0 mid args below meth c Q c0 z0 hF hc hz hQ H locs cells slots ls hH hS h1 h2 hl) (fun n => absurd n h)
theorem rr_ic_lt {x y : Int32} (tg : Nat) (hd : decode M.2.2.1 pc = .ok (.if_icmp .lt ((tg : Int) - (pc : Int)), 3)) (kt : RR M s s' tg L st I X) (kf : RR M s s' (pc + 3) L st I Y) : RR M s s' pc L (vI y :: vI x :: st) I (if x < y then X else Y) := by
  intro r I' hX hL hst hss G p l e R s0 mid args below meth c Q c0 z0 hF hc hz hQ H locs cells slots ls hH hS h1 h2 hl
  by_cases h : x < y
  · rw [if_pos h] at hX
    exact lv_icmp_lt hF.1 hF.2.1 (tgt := tg) hd (by omega) (fun _ => kt r I' hX hL (sok_t (sok_t hst)) hss G p l e R s0 mid args below meth c Q c0 z0 hF hc hz hQ H locs cells slots ls hH hS h1 h2 hl) (fun n => absurd h n)
  · rw [if_neg h] at hX
    exact lv_icmp_lt hF.1 hF.2.1 (tgt := tg) hd (by omega) (fun n => absurd n h) (fun _ => kf r I' hX hL (sok_t (sok_t hst)) hss G p l e R s0 mid args below meth c Q c0 z0 hF hc hz hQ H locs cells slots ls hH hS h1 h2 hl)
theorem rr_ic_ge {x y : Int32} (tg : Nat) (hd : decode M.2.2.1 pc = .ok (.if_icmp .ge ((tg : Int) - (pc : Int)), 3)) (kt : RR M s s' tg L st I X) (kf : RR M s s' (pc + 3) L st I Y) : RR M s s' pc L (vI y :: vI x :: st) I (if y ≤ x then X else Y) := by
  intro r I' hX hL hst hss G p l e R s0 mid args below meth c Q c0 z0 hF hc hz hQ H locs cells slots ls hH hS h1 h2 hl
  by_cases h : y ≤ x
  · rw [if_pos h] at hX
    exact lv_icmp_ge hF.1 hF.2.1 (tgt := tg) hd (by omega) (fun _ => kt r I' hX hL (sok_t (sok_t hst)) hss G p l e R s0 mid args below meth c Q c0 z0 hF hc hz hQ H locs cells slots ls hH hS h1 h2 hl) (fun n => absurd h n)
  · rw [if_neg h] at hX
    exact lv_icmp_ge hF.1 hF.2.1 (tgt := tg) hd (by omega) (fun n => absurd n h) (fun _ => kf r I' hX hL (sok_t (sok_t hst)) hss G p l e R s0 mid args below meth c Q c0 z0 hF hc hz hQ H locs cells slots ls hH hS h1 h2 hl)
theorem rr_ic_gt {x y : Int32} (tg : Nat) (hd : decode M.2.2.1 pc = .ok (.if_icmp .gt ((tg : Int) - (pc : Int)), 3)) (kt : RR M s s' tg L st I X) (kf : RR M s s' (pc + 3) L st I Y) : RR M s s' pc L (vI y :: vI x :: st) I (if y < x then X else Y) := by
  intro r I' hX hL hst hss G p l e R s0 mid args below meth c Q c0 z0 hF hc hz hQ H locs cells slots ls hH hS h1 h2 hl
  by_cases h : y < x
  · rw [if_pos h] at hX
    exact lv_icmp_gt hF.1 hF.2.1 (tgt := tg) hd (by omega) (fun _ => kt r I' hX hL (sok_t (sok_t hst)) hss G p l e R s0 mid args below meth c Q c0 z0 hF hc hz hQ H locs cells slots ls hH hS h1 h2 hl) (fun n => absurd h n)
  · rw [if_neg h] at hX
    exact lv_icmp_gt hF.1 hF.2.1 (tgt := tg) hd (by omega) (fun n => absurd n h) (fun _ => kf r I' hX hL (sok_t (sok_t hst)) hss G p l e R s0 mid args below meth c Q c0 z0 hF hc hz hQ H locs cells slots ls hH hS h1 h2 hl)
theorem rr_ic_le {x y : Int32} (tg : Nat) (hd : decode M.2.2.1 pc = .ok (.if_icmp .le ((tg : Int) - (pc : Int)), 3)) (kt : RR M s s' tg L st I X) (kf : RR M s s' (pc + 3) L st I Y) : RR M s s' pc L (vI y :: vI x :: st) I (if x ≤ y then X else Y) := by
  intro r I' hX hL hst hss G p l e R s0 mid args below meth c Q c0 z0 hF hc hz hQ H locs cells slots ls hH hS h1 h2 hl
  by_cases h : x ≤ y
  · rw [if_pos h] at hX
    exact lv_icmp_le hF.1 hF.2.1 (tgt := tg) hd (by omega) (fun _ => kt r I' hX hL (sok_t (sok_t hst)) hss G p l e R s0 mid args below meth c Q c0 z0 hF hc hz hQ H locs cells slots ls hH hS h1 h2 hl) (fun n => absurd h n)
  · rw [if_neg h] at hX
    exact lv_icmp_le hF.1 hF.2.1 (tgt := tg) hd (by omega) (fun n => absurd n h) (fun _ => kf r I' hX hL (sok_t (sok_t hst)) hss G p l e R s0 mid args below meth c Q c0 z0 hF hc hz hQ H locs cells slots ls hH hS h1 h2 hl)
theorem rr_idiv {x y : Int32} (hd : decode M.2.2.1 pc = .ok (.idiv, 1)) (k : RR M s s' (pc + 1) L (vI (x / y) :: st) I X) : RR M s s' pc L (vI y :: vI x :: st) I (if y = 0 then none else X) := by
  intro r I' hX hL hst hss G p l e R s0 mid args below meth c Q c0 z0 hF hc hz hQ H locs cells slots ls hH hS h1 h2 hl
  by_cases h : y = 0
  · rw [if_pos h] at hX; cases hX
  · rw [if_neg h] at hX
    exact lv_idiv hF.1 hF.2.1 hd h (k r I' hX hL (sok_i (sok_t (sok_t hst))) hss G p l e R s0 mid args below meth c Q c0 z0 hF hc hz hQ H locs cells slots ls hH hS h1 h2 hl)
theorem rr_irem {x y : Int32} (hd : decode M.2.2.1 pc = .ok (.irem, 1)) (k : RR M s s' (pc + 1) L (vI (x - x / y * y) :: st) I X) : RR M s s' pc L (vI y :: vI x :: st) I (if y = 0 then none else X) := by
  intro r I' hX hL hst hss G p l e R s0 mid args below meth c Q c0 z0 hF hc hz hQ H locs cells slots ls hH hS h1 h2 hl
  by_cases h : y = 0
  · rw [if_pos h] at hX; cases hX
  · rw [if_neg h] at hX
    exact lv_irem hF.1 hF.2.1 hd h (k r I' hX hL (sok_i (sok_t (sok_t hst))) hss G p l e R s0 mid args below meth c Q c0 z0 hF hc hz hQ H locs cells slots ls hH hS h1 h2 hl)
theorem rr_ldiv {x y : Int64} (hd : decode M.2.2.1 pc = .ok (.ldiv, 1)) (k : RR M s s' (pc + 1) L (vL (x / y) :: st) I X) : RR M s s' pc L (vL y :: vL x :: st) I (if y = 0 then none else X) := by
  intro r I' hX hL hst hss G p l e R s0 mid args below meth c Q c0 z0 hF hc hz hQ H locs cells slots ls hH hS h1 h2 hl
  by_cases h : y = 0
  · rw [if_pos h] at hX; cases hX
  · rw [if_neg h] at hX
    exact lv_ldiv hF.1 hF.2.1 hd h (k r I' hX hL (sok_l (sok_t (sok_t hst))) hss G p l e R s0 mid args below meth c Q c0 z0 hF hc hz hQ H locs cells slots ls hH hS h1 h2 hl)
/-- arrays of numbers -/
def arrT (t g : Nat) : Bool := match skd g with
  | some (.inr (a, _)) => Nat.beq a t
  | some (.inl _) => false
  | none => Nat.beq t 0 && (Nat.beq g 100 || (Nat.beq g 101 || Nat.beq g 102))
theorem arrT_at {t g a n : Nat} (h : arrT t g = true) (hs : skd g = some (.inr (a, n))) : a = t := by
  unfold arrT at h
  rw [hs] at h
  exact Nat.eq_of_beq_eq_true h
theorem rr_iald {g i : Nat} {x : Int32} {K : Nat → Option (Option PV × Mem)} (hd : decode M.2.2.1 pc = .ok (.iaload, 1)) (hg : arrT 0 g = true) (k : ∀ j, RR M s s' (pc + 1) L (vI (I g i j) :: st) I (K j)) : RR M s s' pc L (vI x :: vR g i :: st) I (ix x (aln I g) K) := by
  intro r I' hX hL hst hss G p l e R s0 mid args below meth c Q c0 z0 hF hc hz hQ H locs cells slots ls hH hS h1 h2 hl
  obtain ⟨hin, hX⟩ := ix_some hX
  have kk := k x.toNatClampNeg r I' hX hL (sok_i (sok_t (sok_t hst))) hss G p l e R s0 mid args below meth c Q c0 z0 hF hc hz hQ H locs cells slots ls hH hS h1 h2 hl
  have hfx := FC_fx hF
  show W p l e R s0 mid args below meth c H locs cells slots Q (F0 mid pc ls (.int x :: .ref (ada G g i) :: st.map (tvv G)))
  cases hsk : skd g with
  | none =>
    obtain ⟨e1, e2, e3⟩ := rok_ext (sok_h (sok_t hst)) hsk
    subst e3
    obtain ⟨f1, f2, f3⟩ := aln_ext hH.2.2 hfx.2.1.2.2 hsk
    rcases (show g = 100 ∨ g = 101 ∨ g = 102 by omega) with rfl | rfl | rfl
    · rw [f1 rfl] at hin
      refine va_sld hF.1 hF.2.1 hfx.2.1.1 (Nat.lt_of_lt_of_le hfx.2.1.2.1 hfx.2.2.2.2.1) (Nat.not_le.mpr hfx.2.1.2.1) hS hin hd ?_
      rw [← hH.2.2.1]
      exact kk
    · rw [f2 rfl] at hin
      exact va_ti hF.1 hF.2.1 hfx.2.2.1.2 hS hin (by rw [← hH.2.2.2.2.1]; rfl) hd kk
    · rw [f3 rfl] at hin
      exact va_ti hF.1 hF.2.1 hfx.2.2.2.1.2 hS hin (by rw [← hH.2.2.2.2.2]; rfl) hd kk
  | some y =>
    have hlt := skd_lt hsk
    rw [ada_lt hlt]
    obtain ⟨q1, q2⟩ := rok_at (sok_h (sok_t hst)) hlt
    have hws := wsG_get (G := G) (I := I) q1 q2
    rcases y with ci | ⟨t, n⟩
    · rw [arrT, hsk] at hg; cases hg
    · have ha : aln I g = n := by rw [aln, hsk]
      rw [ha] at hin
      have ht := arrT_at hg hsk
      subst ht
      rw [cG_arr hsk (by decide)] at hws
      exact va_iald hF.1 hF.2.1 hfx.1 hH.1 (pos g i) 0 hws (tysG_at (by decide)) hin hd kk
theorem arrT1 {g : Nat} (hg : arrT 1 g = true) : ∃ n, skd g = some (.inr (1, n)) := by
  cases hsk : skd g with
  | none => rw [arrT, hsk] at hg; cases hg
  | some y =>
    rcases y with ci | ⟨t, n⟩
    · rw [arrT, hsk] at hg; cases hg
    · exact ⟨n, by rw [arrT_at hg hsk]⟩
theorem rr_zald {g i : Nat} {x : Int32} {K : Nat → Option (Option PV × Mem)} (hd : decode M.2.2.1 pc = .ok (.baload, 1)) (hg : arrT 1 g = true) (k : ∀ j, RR M s s' (pc + 1) L (vI (I g i j) :: st) I (K j)) : RR M s s' pc L (vI x :: vR g i :: st) I (ix x (aln I g) K) := by
  intro r I' hX hL hst hss G p l e R s0 mid args below meth c Q c0 z0 hF hc hz hQ H locs cells slots ls hH hS h1 h2 hl
  obtain ⟨hin, hX⟩ := ix_some hX
  have kk := k x.toNatClampNeg r I' hX hL (sok_i (sok_t (sok_t hst))) hss G p l e R s0 mid args below meth c Q c0 z0 hF hc hz hQ H locs cells slots ls hH hS h1 h2 hl
  show W p l e R s0 mid args below meth c H locs cells slots Q (F0 mid pc ls (.int x :: .ref (ada G g i) :: st.map (tvv G)))
  obtain ⟨n, hsk⟩ := arrT1 hg
  have hlt := skd_lt hsk
  rw [ada_lt hlt]
  obtain ⟨q1, q2⟩ := rok_at (sok_h (sok_t hst)) hlt
  have hws := wsG_get (G := G) (I := I) q1 q2
  have ha : aln I g = n := by rw [aln, hsk]
  rw [ha] at hin
  rw [cG_arr hsk (by decide)] at hws
  exact va_zald hF.1 hF.2.1 (FC_fx hF).1 hH.1 (pos g i) 1 hws (tysG_at (by decide)) hin hd kk
theorem arrW {t g : Nat} (hg : arrT t g = true) (h1 : Nat.blt g 100 = true) (ht : t < 2) : ∃ n, skd g = some (.inr (t, n)) ∨ (skd g = none ∧ scnt g = 0) := by
  cases hsk : skd g with
  | none =>
    refine ⟨0, Or.inr ⟨rfl, ?_⟩⟩
    have t1 : ∀ g, g < 100 → skd g = none → scnt g = 0 := by decide +kernel
    exact t1 g (Nat.blt_eq.mp h1) hsk
  | some y =>
    rcases y with ci | ⟨a, n⟩
    · rw [arrT, hsk] at hg; cases hg
    · exact ⟨n, Or.inl (by rw [arrT_at hg hsk])⟩
theorem cG_st {G : GX} {g i t n j : Nat} {v : Int32} (hsk : skd g = some (.inr (t, n))) (ht : t < 2) : (.inl (G.2.2.1 t, n, .inl (upd (I g i) j v)) : va_E) = cG G s (mup I g i j v) g i := by
  rw [cG_arr hsk ht]
  congr 4
  funext q
  by_cases h : q = j
  · subst h; simp [upd, mup]
  · simp [upd, mup, h]
theorem rr_iast {g i : Nat} {x v : Int32} {K : Nat → Option (Option PV × Mem)} (hd : decode M.2.2.1 pc = .ok (.iastore, 1)) (hg : arrT 0 g = true) (hg1 : Nat.blt g 100 = true) (k : ∀ j, RR M s s' (pc + 1) L st (mup I g i j v) (K j)) : RR M s s' pc L (vI v :: vI x :: vR g i :: st) I (ix x (aln I g) K) := by
  intro r I' hX hL hst hss G p l e R s0 mid args below meth c Q c0 z0 hF hc hz hQ H locs cells slots ls hH hS h1 h2 hl
  obtain ⟨hin, hX⟩ := ix_some hX
  have kk := k x.toNatClampNeg r I' hX hL (sok_t (sok_t (sok_t hst))) hss G p l e R s0 mid args below meth c Q c0 z0 hF hc hz hQ
  have hlt := Nat.blt_eq.mp hg1
  show W p l e R s0 mid args below meth c H locs cells slots Q (F0 mid pc ls (.int v :: .int x :: .ref (ada G g i) :: st.map (tvv G)))
  rw [ada_lt hlt]
  obtain ⟨q1, q2⟩ := rok_at (sok_h (sok_t (sok_t hst))) hlt
  obtain ⟨n, hsk | ⟨-, hsk⟩⟩ := arrW hg hg1 (by decide)
  · have hws := wsG_get (G := G) (I := I) q1 q2
    have ha : aln I g = n := by rw [aln, hsk]
    rw [ha] at hin
    rw [cG_arr hsk (by decide)] at hws
    have hD := wsG_D G s I
    obtain ⟨hP, hsz, hxo⟩ := hH
    refine W.iast hF.1 hF.2.1 (hP _ _ hws) (((FC_fx hF).1.2 0 _ (tysG_at (by decide))).1 n (fun j => .int (I g i j))) (fun q => by cases q) (by show ¬ (x < 0 ∨ (arrV _ _ _).slots.size ≤ _); rw [arrV_size]; exact hin) rfl rfl hd fun H1 e1 z1 oq => ?_
    have hP' := hP.set hD hws (e := .inl (G.2.2.1 0, n, .inl (upd (I g i) x.toNatClampNeg v))) (by
      show H1[_]? = some (vp_cell _ _)
      rw [e1, vp_cell_i, vp_cell_i, arrV_store]
      congr 2
      funext q
      by_cases hq : q = x.toNatClampNeg
      · subst hq; simp [updV, upd]
      · simp [updV, upd, hq]) oq
    rw [cG_st hsk (by decide), wsG_set q1 q2 rfl (fun h bb _ hne => cG_mup hne)] at hP'
    exact kk H1 _ cells slots ls ⟨hP', z1.trans hsz, xok_mup hxo hlt⟩ (hS.put z1 oq (hD.2 _ _ hws)) h1 h2 hl
  · omega
theorem rr_zast {g i : Nat} {x v : Int32} {K : Nat → Option (Option PV × Mem)} (hd : decode M.2.2.1 pc = .ok (.bastore, 1)) (hg : arrT 1 g = true) (k : ∀ j, RR M s s' (pc + 1) L st (mup I g i j (znar v)) (K j)) : RR M s s' pc L (vI v :: vI x :: vR g i :: st) I (ix x (aln I g) K) := by
  intro r I' hX hL hst hss G p l e R s0 mid args below meth c Q c0 z0 hF hc hz hQ H locs cells slots ls hH hS h1 h2 hl
  obtain ⟨hin, hX⟩ := ix_some hX
  have kk := k x.toNatClampNeg r I' hX hL (sok_t (sok_t (sok_t hst))) hss G p l e R s0 mid args below meth c Q c0 z0 hF hc hz hQ
  obtain ⟨n, hsk⟩ := arrT1 hg
  have hlt := skd_lt hsk
  show W p l e R s0 mid args below meth c H locs cells slots Q (F0 mid pc ls (.int v :: .int x :: .ref (ada G g i) :: st.map (tvv G)))
  rw [ada_lt hlt]
  obtain ⟨q1, q2⟩ := rok_at (sok_h (sok_t (sok_t hst))) hlt
  have hws := wsG_get (G := G) (I := I) q1 q2
  have ha : aln I g = n := by rw [aln, hsk]
  rw [ha] at hin
  rw [cG_arr hsk (by decide)] at hws
  have hD := wsG_D G s I
  obtain ⟨hP, hsz, hxo⟩ := hH
  refine W.zast hF.1 hF.2.1 (hP _ _ hws) (((FC_fx hF).1.2 1 _ (tysG_at (by decide))).1 n (fun j => .int (I g i j))) (fun q => by cases q) (by show ¬ (x < 0 ∨ (arrV _ _ _).slots.size ≤ _); rw [arrV_size]; exact hin) rfl rfl hd fun H1 e1 z1 oq => ?_
  have hP' := hP.set hD hws (e := .inl (G.2.2.1 1, n, .inl (upd (I g i) x.toNatClampNeg (znar v)))) (by
    show H1[_]? = some (vp_cell _ _)
    rw [e1, vp_cell_i, vp_cell_i, arrV_store]
    congr 2
    funext q
    by_cases hq : q = x.toNatClampNeg
    · subst hq; simp [updV, upd, znar, vp_nar]; try rfl
    · simp [updV, upd, hq]) oq
  rw [cG_st hsk (by decide), wsG_set q1 q2 rfl (fun h bb _ hne => cG_mup hne)] at hP'
  exact kk H1 _ cells slots ls ⟨hP', z1.trans hsz, xok_mup hxo hlt⟩ (hS.put z1 oq (hD.2 _ _ hws)) h1 h2 hl
/-- an array of references, when all are set -/
theorem rr_aald {g i t n : Nat} {x : Int32} {K : Nat → Option (Option PV × Mem)} (hd : decode M.2.2.1 pc = .ok (.aaload, 1)) (hg : skd g = some (.inr (t + 2, n))) (k : ∀ j, RR M SF SF (pc + 1) L (vR (rtg (t + 2)) j :: st) I (K j)) : RR M SF SF pc L (vI x :: vR g i :: st) I (ix x n K) := by
  intro r I' hX hL hst hss G p l e R s0 mid args below meth c Q c0 z0 hF hc hz hQ H locs cells slots ls hH hS h1 h2 hl
  obtain ⟨hin, hX⟩ := ix_some hX
  have hlt := skd_lt hg
  obtain ⟨q1, q2⟩ := rok_at (sok_h (sok_t hst)) hlt
  have hjn : x.toNatClampNeg < n := Nat.not_le.mp fun q => hin (Or.inr q)
  have htg : tgt g i x.toNatClampNeg = some (rtg (t + 2), x.toNatClampNeg) := by
    rw [tgt, hg]
    show (if t + 2 < 2 then none else if _ then _ else none) = _
    rw [if_neg (by omega), if_pos hjn]
  have hset : sA SF g i x.toNatClampNeg = true := sA_all q1 (by rw [csz, hg]; exact hjn) (by rw [htg]; exact fun q => by cases q)
  have hro : rok SF (rtg (t + 2)) x.toNatClampNeg ∧ rtg (t + 2) < 100 := by
    obtain ⟨t1, b1, e1, e2, e3⟩ := sA_tgt hset
    rw [htg] at e1
    cases e1
    exact ⟨e2, e3⟩
  have kk := k x.toNatClampNeg r I' hX hL (sok_c (v := vR (rtg (t + 2)) x.toNatClampNeg) hro.1 (sok_t (sok_t hst))) hss G p l e R s0 mid args below meth c Q c0 z0 hF hc hz hQ H locs cells slots ls hH hS h1 h2 hl
  show W p l e R s0 mid args below meth c H locs cells slots Q (F0 mid pc ls (.int x :: .ref (ada G g i) :: st.map (tvv G)))
  rw [ada_lt hlt]
  have hws := wsG_get (G := G) (I := I) q1 q2
  rw [cG_rarr hg (by omega)] at hws
  have ht4 := skd_t hg
  have hty : ([.int, .boolean, .object (rcl 2), .object (rcl 3)] : List FieldType).getD (t + 2) .int = .object (rcl (t + 2)) := by
    rcases (show t = 0 ∨ t = 1 by omega) with rfl | rfl <;> rfl
  refine va_aldq hF.1 hF.2.1 (FC_fx hF).1 hH.1 (pos g i) (t + 2) hws (by rw [tysG_at ht4, hty]) hin hd ?_
  rw [if_pos hset]
  show W p l e R s0 mid args below meth c H locs cells slots Q (F0 mid (pc + 1) ls (.ref (G.1 + pos (rtg (t + 2)) x.toNatClampNeg) :: st.map (tvv G)))
  rw [← ada_lt hro.2]
  exact kk
/-- the answers -/
theorem rr_iret {v : Int32} (hd : decode M.2.2.1 pc = .ok (.ireturn, 1)) (hr : retOk M (some (vI v))) : RR M s s pc L [vI v] I (some (some (vI v), I)) := by
  intro r I' hX hL hst hss G p l e R s0 mid args below meth c Q c0 z0 hF hc hz hQ H locs cells slots ls hH hS h1 h2 hl
  cases hX
  exact hQ H locs cells slots pc ls hr (fun v h => by cases h; trivial) hH hS h1 h2 hd
theorem rr_zret {v : Int32} (hd : decode M.2.2.1 pc = .ok (.ireturn, 1)) (hr : M.2.2.2.2.1 = some .boolean) : RR M s s pc L [vI v] I (if v = 0 ∨ v = 1 then some (some (vI v), I) else none) := by
  intro r I' hX hL hst hss G p l e R s0 mid args below meth c Q c0 z0 hF hc hz hQ H locs cells slots ls hH hS h1 h2 hl
  split at hX
  · next h =>
    cases hX
    exact hQ H locs cells slots pc ls (by unfold retOk; rw [hr]; exact h) (fun v h => by cases h; trivial) hH hS h1 h2 hd
  · cases hX
theorem rr_vret (hd : decode M.2.2.1 pc = .ok (.return_, 1)) (hr : retOk M none) : RR M s s pc L [] I (some (none, I)) := by
  intro r I' hX hL hst hss G p l e R s0 mid args below meth c Q c0 z0 hF hc hz hQ H locs cells slots ls hH hS h1 h2 hl
  cases hX
  exact hQ H locs cells slots pc ls hr (fun v h => by cases h) hH hS h1 h2 hd
theorem rr_aret {g i : Nat} (hd : decode M.2.2.1 pc = .ok (.areturn, 1)) (hr : retOk M (some (vR g i))) : RR M s s pc L [vR g i] I (some (some (vR g i), I)) := by
  intro r I' hX hL hst hss G p l e R s0 mid args below meth c Q c0 z0 hF hc hz hQ H locs cells slots ls hH hS h1 h2 hl
  cases hX
  exact hQ H locs cells slots pc ls hr (fun v h => by cases h; exact sok_h hst) hH hS h1 h2 hd
/-- fewer locals -/
def lmask : List Bool → LC → LC
  | [], L => L
  | _, [] => []
  | true :: bs, v :: L => v :: lmask bs L
  | false :: bs, _ :: L => none :: lmask bs L
theorem lmask_len (bs : List Bool) (L : LC) : (lmask bs L).length = L.length := by
  induction bs generalizing L with
  | nil => rfl
  | cons b bs ih => cases L with
    | nil => cases b <;> rfl
    | cons v L => cases b <;> simp [lmask, ih]
theorem lmask_at (bs : List Bool) (L : LC) {i : Nat} {v : PV} (h : (lmask bs L)[i]? = some (some v)) : L[i]? = some (some v) := by
  induction bs generalizing L i with
  | nil => exact h
  | cons b bs ih => cases L with
    | nil => cases b <;> simp [lmask] at h
    | cons w L => cases i with
      | zero => cases b <;> simp [lmask] at h; simpa using h
      | succ i => cases b <;> (simp only [lmask, List.getElem?_cons_succ] at h ⊢; exact ih L h)
theorem rr_mask {L' : LC} (bs : List Bool) (hm : lmask bs L = L') (k : RR M s s' pc L' st I X) : RR M s s' pc L st I X := by
  subst hm
  intro r I' hX hL hst hss G p l e R s0 mid args below meth c Q c0 z0 hF hc hz hQ H locs cells slots ls hH hS h1 h2 hl
  refine k r I' hX (fun v hv => ?_) hst hss G p l e R s0 mid args below meth c Q c0 z0 hF hc hz hQ H locs cells slots ls hH hS h1 h2 ⟨⟨hl.1.1, hl.1.2.1, fun q hq => ?_⟩, by rw [lmask_len]; exact hl.2⟩
  · obtain ⟨i, hi⟩ := List.getElem?_of_mem hv
    exact hL v (List.mem_of_getElem? (lmask_at bs L hi))
  · obtain ⟨i, v, h3, rfl⟩ := lvl_mem.mp hq
    exact hl.1.2.2 _ (lvl_mem.mpr ⟨i, v, lmask_at bs L h3, rfl⟩)
end RUL
end
section
/-! ===== a method's contract out of the judgement; calls ===== -/
/-- the locals at the entry -/
def ent (M : MD) (as : List PV) : LC := as.map some ++ List.replicate (M.2.2.2.1 - as.length) none
/-- the method is in the tables: its code, how it is called (0 an object's method, 1 a static one, 2 a constructor) -/
def mOk (M : MD) (kd : Nat) (n : Nat) : Prop := Cond.code M.2.1 M.2.2.1 M.2.2.2.1 M.2.2.2.2.1 ∈ wAll ∧ Cond.initialized M.2.1.cls ∈ wAll ∧ plainFor M.2.1 = true ∧ M.2.1.cls = onm M.1 ∧ M.2.1.cls ≠ "java/lang/invoke/MethodHandle" ∧ M.2.1.cls ≠ "java/lang/invoke/VarHandle" ∧ (parseMethodDescriptor M.2.1.desc).map (fun d => d.parameters.length) = some n ∧ (match kd with
  | 0 => Cond.instanceMethod M.2.1 ∈ wAll ∧ Cond.selects M.2.1.cls M.2.1 M.2.1 ∈ wAll ∧ (xcl.getD M.1 ("", TX0, 0)).1 = M.2.1.cls ∧ M.1 < 9
  | 1 => Cond.static M.2.1 ∈ wAll
  | _ => Cond.instanceMethod M.2.1 ∈ wAll ∧ M.2.1.name = "<init>" ∧ M.2.2.2.2.1 = none)
/-- a word of the tables by its place -/
theorem w_at {w : Cond} (i : Nat) (h : lw_tbl[i]? = some w) (hg : goodWord w = true) : w ∈ wAll := List.mem_filter.mpr ⟨List.mem_of_getElem? h, hg⟩
/-- a contract out of a walk, for any class whose methods run as they are written -/
theorem Met.ofWF {l : Launch} {y : MethodName} {ws ws' : List Cond} {rm : Room} {Pc : Array Value → State → Prop} {Qc : Array Value → State → Outcome → State → Prop} {mc ms : Nat} {free : Addr → Prop} {cc : ByteArray} {maxL : Nat} {ret : Option FieldType}
    (hy : plainFor y = true) (hw : ws = Cond.code y cc maxL ret :: ws')
    (body : ∀ p e s m args below meth c s₁, BodyLoose p l y (headSpec ws rm) cc maxL ret e s m args below meth c s₁ → c.maxLocals = maxL → Pc args s →
      W p l e (headSpec ws rm).room s m args below meth c s.heap [] 0 0 (MQ below Qc args s mc ms free) (entryFrame m args maxL)) : Met l y ws rm Pc Qc mc ms free := by
  refine MetFree.of_bodySF (code := cc) (maxLocals := maxL) (ret := ret) hy ?_ ?_
  · intro args s m h hn
    obtain ⟨meth, c, h1, h2, h3, h4, h5, h6, -, -⟩ := Cond.code_spec hn (atoms_spec (ws := ws) h _ (by rw [hw]; exact List.mem_cons_self))
    exact ⟨meth, c, h1, h2, h3, h4, h5, h6⟩
  · intro p e s m args below meth c s₁ B hml hP _
    have hh0 : s₁.heap = s.heap := by rw [B.state]; rfl
    obtain ⟨t, a1, o, b1, b2, b3⟩ := body p e s m args below meth c s₁ B hml hP s₁ hh0 (Stand.of_body B)
    exact ⟨t, o, a1, b1, b2, ⟨b3.1, b3.2⟩⟩
def QcR (G : GX) (r : Option PV) (s' : Nat) (J : Mem) : Array Value → State → Outcome → State → Prop := fun _ st o t => o = .returned (r.map (tvv G)) ∧ HW G s' J t.heap ∧ va_F (gA G) st t ∧ ∀ v, r = some v → pok s' v
def PcR (G : GX) (as : List PV) (s : Nat) (I : Mem) : Array Value → State → Prop := va_Pc (as.map (tvv G)) (fun U => HW G s I U.heap ∧ FX G U)
theorem lv_args_in {G : GX} : ∀ (as : List PV) (k : Nat) (q : Nat × Value), as.all (fun v => !is2 (some (some v))) = true → q ∈ lvl G k (as.map some) → q ∈ lv_args k (as.map (tvv G))
  | [], _, _, _, h => by simp [lvl] at h
  | v :: as, k, q, ha, h => by
    simp only [List.all_cons, Bool.and_eq_true, Bool.not_eq_true'] at ha
    simp only [List.map_cons, lvl, List.mem_cons] at h
    simp only [List.map_cons, lv_args, List.mem_cons]
    rcases h with h | h
    · exact Or.inl h
    · refine Or.inr ?_
      have := lv_args_in as (k + 1) q ha.2 h
      rw [tvv_cat, ha.1]
      exact this
theorem sl_len {G : GX} : ∀ (as : List PV), as.all (fun v => !is2 (some (some v))) = true → (lg_sl (as.map (tvv G))).length = as.length
  | [], _ => rfl
  | v :: as, ha => by
    simp only [List.all_cons, Bool.and_eq_true, Bool.not_eq_true'] at ha
    have := sl_len (G := G) as ha.2
    rcases v with x | x | ⟨g, i⟩
    · simp only [List.map_cons, lg_sl, tvv, List.length_cons]; first | omega | simp_all [lg_sl, Value.category]
    · cases ha.1
    · simp only [List.map_cons, lg_sl, tvv, List.length_cons]; first | omega | simp_all [lg_sl, Value.category]
theorem lvl_ent {G : GX} {M : MD} {as : List PV} {q : Nat × Value} (h : q ∈ lvl G 0 (ent M as)) : q ∈ lvl G 0 (as.map some) := by
  obtain ⟨i, v, h1, rfl⟩ := lvl_mem.mp h
  refine lvl_mem.mpr ⟨i, v, ?_, rfl⟩
  unfold ent at h1
  by_cases hi : i < (as.map some).length
  · rwa [List.getElem?_append_left hi] at h1
  · rw [List.getElem?_append_right (Nat.not_lt.mp hi)] at h1
    have := List.mem_of_getElem? h1
    simp at this
theorem met_RR {M : MD} {s s' : Nat} {as : List PV} {I J : Mem} {X : Option (Option PV × Mem)} {r : Option PV} {kd n : Nat} (hR : RR M s s' 0 (ent M as) [] I X) (hX : X = some (r, J)) (hm : mOk M kd n) (hn : as.length ≤ M.2.2.2.1) (h2 : as.all (fun v => !is2 (some (some v))) = true) (hok : sok s as) (hss : s ≤ s') (l : Launch) (G : GX) : Met l M.2.1 (wsM M) (rmM M s s') (PcR G as s I) (QcR G r s' J) (cnS s' - cnS s) (slS s' - slS s) (gA G) := by
  obtain ⟨m1, m2, m3, m4, m5, m6, m7, m8⟩ := hm
  refine Met.ofWF (cc := M.2.2.1) (maxL := M.2.2.2.1) (ret := M.2.2.2.2.1) m3 rfl ?_
  intro p e s0 m args below meth c s₁ B hml hv
  obtain ⟨rfl, hH, hfx⟩ := hv
  have hts := atoms_spec (ws := wsM M) B.pre
  have hown : s0.vm.findClass M.2.1.cls = some m.cls := findClass_of_methodNamed B.named
  have hlocks := B.notSynchronized
  have hF : FC G M p (headSpec (wsM M) (rmM M s s')).room s0 m (as.map (tvv G)).toArray meth c := ⟨B.exec, B.bytes, hml, by rw [← m4]; exact hown, fun w hw => hts w (List.mem_cons_of_mem _ hw), (name_of_methodNamed B.named B.method).1, Nat.le_refl _, Nat.le_refl _, hfx⟩
  have hl := lv_entry (as.map (tvv G)) (n := M.2.2.2.1) (by rw [sl_len as h2]; exact hn)
  rw [lg_entry_eq]
  generalize (lg_sl (as.map (tvv G)) ++ List.replicate (M.2.2.2.1 - (lg_sl (as.map (tvv G))).length) Slot.unset).toArray = ls at hl ⊢
  have hcs := cnS_le hss
  have hsl := slS_le hss
  refine hR r J hX ?_ (fun v h => by cases h) hss G p l e _ s0 m _ below meth c _ (cnS s) (slS s) hF (by show cnS s' ≤ (cnS s' - cnS s) + cnS s; omega) (by show slS s' ≤ (slS s' - slS s) + slS s; omega) ?_ s0.heap [] 0 0 ls hH va_S.rf (by omega) (by omega) ⟨⟨hl.1, hl.2.1, fun q hq => hl.2.2 q (lv_args_in as 0 q h2 (lvl_ent hq))⟩, by simp [ent]; omega⟩
  · intro v hv
    unfold ent at hv
    rcases List.mem_append.mp hv with q | q
    · obtain ⟨w, hw, e⟩ := List.mem_map.mp q
      cases e
      exact hok v hw
    · have := List.eq_of_mem_replicate q
      cases this
  · intro H locs cells slots pc ls2 hro hpk hH2 hS hc hz hd
    have ec : cells = cnS s' - cnS s := by omega
    have ez : slots = slS s' - slS s := by omega
    subst ec; subst ez
    have hr := B.returns
    unfold retOk at hro
    have hq : ∀ t : State, t.heap = H → s0.WarmedH t.vm → QcR G r s' J (as.map (tvv G)).toArray s0 (.returned (r.map (tvv G))) t := fun t ht hW => ⟨rfl, by rw [ht]; exact hH2, hS.F ht, hpk⟩
    split at hro
    · next x e2 => exact W.iret (v := x) B.exec B.bytes (hr.trans e2) hq hS.2.2 hd
    · next x e2 => exact W.zret (v := x) (ty := .boolean) B.exec B.bytes (hr.trans e2) (by rcases hro with rfl | rfl <;> decide +kernel) hq hS.2.2 hd
    · next nm x e2 => exact W.aret (v := tvv G (.inr (.inr x))) B.exec B.bytes (hr.trans e2) (Or.inl ⟨_, rfl⟩) (Or.inr ⟨_, rfl⟩) hq hS.2.2 hd
    · next e2 => exact W.vret B.exec B.bytes (hr.trans e2) hq hS.2.2 hd
    · cases hro
end
section
theorem FX_call {G : GX} {s0 U : State} {H : Heap} {locs : List Loc} (h : FX G s0) (hS : va_S (gA G) s0.heap H locs) (hU : U.heap = H) (hW : s0.WarmedH U.vm) : FX G U := by
  obtain ⟨h1, ⟨h2, h3, h4⟩, ⟨h5, h6⟩, ⟨h7, h8⟩, h9, h10, h11, h12⟩ := h
  have hA := hW.alike
  have ho : ∀ a : Nat, a < s0.heap.size → ¬ gA G a → U.heap[a]? = s0.heap[a]? := by rw [hU]; exact hS.2.1
  exact ⟨va_K.moved hA h1, ⟨(h2.moved hA).kept (ho _ (Nat.lt_of_lt_of_le h3 h9) (Nat.not_le.mpr h3)), h3, h4⟩, ⟨(h5.moved hA).kept ho, (h6.moved hA).kept ho⟩, ⟨(h7.moved hA).kept ho, (h8.moved hA).kept ho⟩, by rw [hU]; exact Nat.le_trans h9 hS.1, nw_warm hW h10, h11.moved hA, h12.moved hA⟩
theorem FX_blind {G : GX} {U : State} {g : JFrame} {mk : MethodId} {a : Array Value} (h : FX G U) : FX G (U.calling g mk a) := by
  obtain ⟨h1, ⟨h2, h3, h4⟩, ⟨h5, h6⟩, ⟨h7, h8⟩, h9, h10, h11, h12⟩ := h
  have hA : U.vm.Alike (U.calling g mk a).vm := Vm.Alike.refl U.vm
  exact ⟨va_K.moved hA h1, ⟨h2.moved hA, h3, h4⟩, ⟨h5.moved hA, h6.moved hA⟩, ⟨h7.moved hA, h8.moved hA⟩, h9, nw_same (s := U) (U := U.calling g mk a) rfl h10, h11.moved hA, h12.moved hA⟩
theorem PcR_blind {G : GX} {as : List PV} {s : Nat} {I : Mem} : FrameBlind (PcR G as s I) := fun _ _ _ _ q => ⟨q.1, q.2.1, FX_blind q.2.2⟩
/-- how many words stand below a call's arguments -/
def stw : List PV → Nat
  | [] => 0
  | .inr (.inl _) :: t => stw t + 2
  | _ :: t => stw t + 1
theorem stw_eq {G : GX} : ∀ st : List PV, ((st.map (tvv G)).map fun v => v.category).sum = stw st
  | [] => rfl
  | v :: t => by
    have := stw_eq (G := G) t
    rw [List.map_cons, List.map_cons, List.sum_cons, this]
    rcases v with x | x | ⟨g, i⟩ <;> exact Nat.add_comm _ _
def roomOk (N M : MD) : Bool := Nat.ble (N.2.2.2.2.2.1 + 1) M.2.2.2.2.2.1 && Nat.ble (8 + (N.2.2.2.1 + 11) + N.2.2.2.2.2.2) M.2.2.2.2.2.2
section CALL
variable {M : MD} {s1 s2 s' pc : Nat} {L : LC} {I : Mem}
/-- behind a call -/
theorem rr_back {p : Program} {l : Launch} {e : Env} {R : Room} {s0 : State} {mid : MethodId} {args : Array Value} {below : List Frame} {meth : Method} {c : Code} {Q : State → Prop} {G : GX} {H : Heap} {locs : List Loc} {cells slots mc ms : Nat} {ls : Array Slot} {st0 rest : List Value} {a : Array Value} {r : Option PV} {J : Mem}
    (hr : va_Run p l e R s0 mid args below meth c H locs cells slots mc ms (F0 mid pc ls st0) rest (QcR G r s2 J a) (gA G)) (hS : va_S (gA G) s0.heap H locs)
    (kk : ∀ (H1 : Heap) (locs1 : List Loc), (∀ v, r = some v → pok s2 v) → HW G s2 J H1 → va_S (gA G) s0.heap H1 locs1 → W p l e R s0 mid args below meth c H1 locs1 (cells + mc) (slots + ms) Q (F0 mid (pc + 3) ls ((r.map (tvv G)).toList ++ rest))) : W p l e R s0 mid args below meth c H locs cells slots Q (F0 mid pc ls st0) := by
  intro T hT X
  obtain ⟨v, st₀, t, T', L2, h0, X', hL, e1, e2, ⟨hv, hH, ⟨hz, hk⟩, hpk⟩, st⟩ := hr T hT X
  cases hv
  rw [h0] at hz hk
  obtain ⟨t2, a1, b1⟩ := kk T'.heap (locs ++ L2) hpk (by rw [e1]; exact hH)
    ⟨Nat.le_trans hS.1 (by rw [e1]; exact hz), fun q h1 h2 => by rw [e1, hk q (Nat.lt_of_lt_of_le h1 hS.1) h2]; exact hS.2.1 q h1 h2, fun q hq => by
      rcases List.mem_append.mp hq with h | h
      · exact hS.2.2 q h
      · exact hL q h⟩ T' rfl X'
  exact ⟨t2, st t2 a1, b1⟩
theorem roomOk_at {N : MD} {R : Room} (h : roomOk N M = true) (h1 : M.2.2.2.2.2.1 ≤ R.frames) (h2 : M.2.2.2.2.2.2 ≤ R.locals) : (rmM N s1 s2).frames + 1 ≤ R.frames ∧ 8 + (N.2.2.2.1 + 11) + (rmM N s1 s2).locals ≤ R.locals := by
  simp only [roomOk, Bool.and_eq_true, Nat.ble_eq] at h
  exact ⟨Nat.le_trans h.1 h1, Nat.le_trans h.2 h2⟩
theorem tvs {G : GX} {r : Option PV} {rest : List PV} : ((r.map (tvv G)).toList ++ rest.map (tvv G)) = (r.toList ++ rest).map (tvv G) := by cases r <;> rfl
/-- a call of an object's method -/
theorem rr_callV {st : List PV} {K : Option PV → Mem → Option (Option PV × Mem)} {XN : Option (Option PV × Mem)} (N : MD) (g i : Nat) (as rest : List PV) (idx : Nat) (hd : decode M.2.2.1 pc = .ok (.invokevirtual idx, 3)) (hlk : Cond.methodLink (onm M.1) idx N.2.1 ∈ wAll) (hm : mOk N 0 as.length) (hroom : roomOk N M = true) (hck : (Nat.ble (stw rest) 8 && (isObj g N.1 && ((vR g i :: as).all (fun v => !is2 (some (some v))) && Nat.ble (as.length + 1) N.2.2.2.1))) = true) (hst0 : st = as.reverse ++ vR g i :: rest) (h12 : s1 ≤ s2) (h2s : s2 ≤ s')
    (hN : RR N s1 s2 0 (ent N (vR g i :: as)) [] I XN) (k : ∀ r J, XN = some (r, J) → RR M s2 s' (pc + 3) L (r.toList ++ rest) J (K r J)) : RR M s1 s' pc L st I (XN.bind (fun q => K q.1 q.2)) := by
  intro r I' hX hL hst hss G p l e R s0 mid args below meth c Q c0 z0 hF hc hz hQ H locs cells slots ls hH hS h1 h2 hl
  subst hst0
  simp only [Bool.and_eq_true, Nat.ble_eq] at hck
  obtain ⟨w1, w2, w3, w4⟩ := hck
  obtain ⟨⟨rv, J⟩, e1, e2⟩ := Option.bind_eq_some_iff.mp hX
  have hsk := isObj_at w2
  have hlt := skd_lt hsk
  have hsas : sok s1 (vR g i :: as) := by
    intro v hv
    rcases List.mem_cons.mp hv with q | q
    · exact hst v (List.mem_append_right _ (List.mem_cons.mpr (Or.inl q)))
    · exact hst v (List.mem_append_left _ (List.mem_reverse.mpr q))
  have hrest : sok s1 rest := fun v hv => hst v (List.mem_append_right _ (List.mem_cons_of_mem _ hv))
  have hM := met_RR hN e1 hm w4 w3 hsas h12 l G
  have hmm := hm
  obtain ⟨m1, m2, m3, m4, m5, m6, m7, m8, m9, m10⟩ := hmm
  have hts := hF.2.2.2.2.1
  obtain ⟨q1, q2⟩ := rok_at (sok_h hsas) hlt
  have hws := wsG_get (G := G) (I := I) q1 q2
  rw [cG_obj hsk] at hws
  have hxc : xcl[N.1]? = some (xcl.getD N.1 ("", TX0, 0)) := by
    rw [List.getD_eq_getElem?_getD, List.getElem?_eq_getElem (show N.1 < xcl.length from m10.2)]; rfl
  have hrec := va_recv (FC_fx hF).1 hH.1 hxc hws
  rw [m10.1] at hrec
  have hgood : GoodIn wAll (wsV (onm M.1) idx N.2.1.cls N.2.1 (wsM N)) := by
    intro w hw
    have hin : w ∈ wAll := by
      unfold wsV at hw
      rcases List.mem_append.mp hw with q | q
      · simp only [List.mem_cons, List.not_mem_nil, or_false] at q
        rcases q with rfl | rfl | rfl | rfl
        · exact hlk
        · exact m8
        · exact m9
        · exact m2
      · rcases List.mem_cons.mp q with rfl | q
        · exact m1
        · exact q
    exact goodIn_all w hin
  have hcn1 := cnS_le h12
  have hcn2 := cnS_le h2s
  have hsn1 := slS_le h12
  have hsn2 := slS_le h2s
  show W p l e R s0 mid args below meth c H locs cells slots Q (F0 mid pc ls ((as.reverse ++ vR g i :: rest).map (tvv G)))
  have hrun := va_runV (l := l) (e := e) (below := below) (meth := meth) (locs := locs) (cells := cells) (slots := slots) (C := N.2.1.cls) (b := G.1 + pos g i) (H := H) (As := as.map (tvv G)) (rest := rest.map (tvv G)) (g := F0 mid pc ls ((as.reverse ++ vR g i :: rest).map (tvv G))) (R := R) (own := onm M.1) (index := idx) ⟨hF.1, hF.2.1, hF.2.2.1, hF.2.2.2.1, hts⟩ hM (cwV as.length hts hgood rfl rfl rfl ⟨rfl, m5, m6, m7⟩ (roomOk_at hroom hF.2.2.2.2.2.2.1 hF.2.2.2.2.2.2.2.1)) ⟨PcR_blind, hrec, fun U hU hW => ⟨by rw [← ada_lt (G := G) (i := i) hlt]; rfl, by rw [hU]; exact hH, FX_call (FC_fx hF) hS hU hW⟩⟩ rfl (by rw [List.length_map]) hl.1.1 (by show (as.reverse ++ vR g i :: rest).map (tvv G) = _; rw [List.map_append, List.map_reverse, List.map_cons, ← ada_lt (G := G) (i := i) hlt]; rfl) (lv_room (by rw [stw_eq]; exact w1)) hd ⟨by omega, by omega⟩
  refine rr_back hrun hS (fun H1 locs1 hpk hH1 hS1 => ?_)
  rw [tvs]
  exact k rv J e1 r I' e2 (lok_le h12 hL) (fun v hv => by
    rcases List.mem_append.mp hv with q | q
    · exact hpk v (by simpa using q)
    · exact pok_le h12 (hrest v q)) h2s G p l e R s0 mid args below meth c Q c0 z0 hF hc hz hQ H1 locs1 _ _ ls hH1 hS1 (by omega) (by omega) hl
/-- a call of a static method -/
theorem rr_callS {st : List PV} {K : Option PV → Mem → Option (Option PV × Mem)} {XN : Option (Option PV × Mem)} (N : MD) (as rest : List PV) (idx : Nat) (hd : decode M.2.2.1 pc = .ok (.invokestatic idx, 3)) (hlk : Cond.methodLink (onm M.1) idx N.2.1 ∈ wAll) (hm : mOk N 1 as.length) (hroom : roomOk N M = true) (hck : (Nat.ble (stw rest) 8 && (as.all (fun v => !is2 (some (some v))) && Nat.ble as.length N.2.2.2.1)) = true) (hst0 : st = as.reverse ++ rest) (h12 : s1 ≤ s2) (h2s : s2 ≤ s')
    (hN : RR N s1 s2 0 (ent N as) [] I XN) (k : ∀ r J, XN = some (r, J) → RR M s2 s' (pc + 3) L (r.toList ++ rest) J (K r J)) : RR M s1 s' pc L st I (XN.bind (fun q => K q.1 q.2)) := by
  intro r I' hX hL hst hss G p l e R s0 mid args below meth c Q c0 z0 hF hc hz hQ H locs cells slots ls hH hS h1 h2 hl
  subst hst0
  simp only [Bool.and_eq_true, Nat.ble_eq] at hck
  obtain ⟨w1, w3, w4⟩ := hck
  obtain ⟨⟨rv, J⟩, e1, e2⟩ := Option.bind_eq_some_iff.mp hX
  have hsas : sok s1 as := fun v hv => hst v (List.mem_append_left _ (List.mem_reverse.mpr hv))
  have hrest : sok s1 rest := fun v hv => hst v (List.mem_append_right _ hv)
  have hM := met_RR hN e1 hm w4 w3 hsas h12 l G
  have hmm := hm
  obtain ⟨m1, m2, m3, m4, m5, m6, m7, m8⟩ := hmm
  have hts := hF.2.2.2.2.1
  have hgood : GoodIn wAll (va_wsS (onm M.1) idx N.2.1 (wsM N)) := by
    intro w hw
    have hin : w ∈ wAll := by
      unfold va_wsS at hw
      rcases List.mem_append.mp hw with q | q
      · simp only [List.mem_cons, List.not_mem_nil, or_false] at q
        rcases q with rfl | rfl | rfl
        · exact hlk
        · exact m8
        · exact m2
      · rcases List.mem_cons.mp q with rfl | q
        · exact m1
        · exact q
    exact goodIn_all w hin
  have hcn1 := cnS_le h12
  have hcn2 := cnS_le h2s
  have hsn1 := slS_le h12
  have hsn2 := slS_le h2s
  show W p l e R s0 mid args below meth c H locs cells slots Q (F0 mid pc ls ((as.reverse ++ rest).map (tvv G)))
  have hrun := va_runS (l := l) (e := e) (below := below) (meth := meth) (locs := locs) (cells := cells) (slots := slots) (H := H) (As := as.map (tvv G)) (rest := rest.map (tvv G)) (g := F0 mid pc ls ((as.reverse ++ rest).map (tvv G))) (R := R) (own := onm M.1) (index := idx) ⟨hF.1, hF.2.1, hF.2.2.1, hF.2.2.2.1, hts⟩ hM (va_cwS as.length hts hgood rfl rfl rfl ⟨m5, m6, m7⟩ (roomOk_at hroom hF.2.2.2.2.2.2.1 hF.2.2.2.2.2.2.2.1)) ⟨PcR_blind, fun U hU hW => ⟨rfl, by rw [hU]; exact hH, FX_call (FC_fx hF) hS hU hW⟩⟩ rfl (by rw [List.length_map]) hl.1.1 (by show (as.reverse ++ rest).map (tvv G) = _; rw [List.map_append, List.map_reverse]) (lv_room (by rw [stw_eq]; exact w1)) hd ⟨by omega, by omega⟩
  refine rr_back hrun hS (fun H1 locs1 hpk hH1 hS1 => ?_)
  rw [tvs]
  exact k rv J e1 r I' e2 (lok_le h12 hL) (fun v hv => by
    rcases List.mem_append.mp hv with q | q
    · exact hpk v (by simpa using q)
    · exact pok_le h12 (hrest v q)) h2s G p l e R s0 mid args below meth c Q c0 z0 hF hc hz hQ H1 locs1 _ _ ls hH1 hS1 (by omega) (by omega) hl
/-- a call of a static method of a nest mate -/
theorem rr_callSN {st : List PV} {K : Option PV → Mem → Option (Option PV × Mem)} {XN : Option (Option PV × Mem)} (N : MD) (as rest : List PV) (idx : Nat) (hd : decode M.2.2.1 pc = .ok (.invokestatic idx, 3)) (host : String) (hlk : Cond.methodLinkNest (onm M.1) idx N.2.1 host ∈ nwW) (hm : mOk N 1 as.length) (hroom : roomOk N M = true) (hck : (Nat.ble (stw rest) 8 && (as.all (fun v => !is2 (some (some v))) && Nat.ble as.length N.2.2.2.1)) = true) (hst0 : st = as.reverse ++ rest) (h12 : s1 ≤ s2) (h2s : s2 ≤ s')
    (hN : RR N s1 s2 0 (ent N as) [] I XN) (k : ∀ r J, XN = some (r, J) → RR M s2 s' (pc + 3) L (r.toList ++ rest) J (K r J)) : RR M s1 s' pc L st I (XN.bind (fun q => K q.1 q.2)) := by
  intro r I' hX hL hst hss G p l e R s0 mid args below meth c Q c0 z0 hF hc hz hQ H locs cells slots ls hH hS h1 h2 hl
  subst hst0
  simp only [Bool.and_eq_true, Nat.ble_eq] at hck
  obtain ⟨w1, w3, w4⟩ := hck
  obtain ⟨⟨rv, J⟩, e1, e2⟩ := Option.bind_eq_some_iff.mp hX
  have hsas : sok s1 as := fun v hv => hst v (List.mem_append_left _ (List.mem_reverse.mpr hv))
  have hrest : sok s1 rest := fun v hv => hst v (List.mem_append_right _ hv)
  have hM := met_RR hN e1 hm w4 w3 hsas h12 l G
  have hmm := hm
  obtain ⟨m1, m2, m3, m4, m5, m6, m7, m8⟩ := hmm
  have hts := hF.2.2.2.2.1
  have hgood : GoodIn wAll (wsM N) := by
    intro w hw
    have hin : w ∈ wAll := by
      rcases List.mem_cons.mp hw with rfl | q
      · exact m1
      · exact q
    exact goodIn_all w hin
  have hcn1 := cnS_le h12
  have hcn2 := cnS_le h2s
  have hsn1 := slS_le h12
  have hsn2 := slS_le h2s
  show W p l e R s0 mid args below meth c H locs cells slots Q (F0 mid pc ls ((as.reverse ++ rest).map (tvv G)))
  have hrun := va_runSN (l := l) (e := e) (below := below) (meth := meth) (locs := locs) (cells := cells) (slots := slots) (H := H) (As := as.map (tvv G)) (rest := rest.map (tvv G)) (g := F0 mid pc ls ((as.reverse ++ rest).map (tvv G))) (R := R) (own := onm M.1) (index := idx) ⟨hF.1, hF.2.1, hF.2.2.1, hF.2.2.2.1, hts⟩ hM ⟨va_cnB as.length hts hgood rfl rfl rfl ((FC_fx hF).2.2.2.2.2.1 _ hlk) (hts _ m2) ⟨m5, m6, m7⟩ (roomOk_at hroom hF.2.2.2.2.2.2.1 hF.2.2.2.2.2.2.2.1), hts _ m8, trivial⟩ ⟨PcR_blind, fun U hU hW => ⟨rfl, by rw [hU]; exact hH, FX_call (FC_fx hF) hS hU hW⟩⟩ rfl (by rw [List.length_map]) hl.1.1 (by show (as.reverse ++ rest).map (tvv G) = _; rw [List.map_append, List.map_reverse]) (lv_room (by rw [stw_eq]; exact w1)) hd ⟨by omega, by omega⟩
  refine rr_back hrun hS (fun H1 locs1 hpk hH1 hS1 => ?_)
  rw [tvs]
  exact k rv J e1 r I' e2 (lok_le h12 hL) (fun v hv => by
    rcases List.mem_append.mp hv with q | q
    · exact hpk v (by simpa using q)
    · exact pok_le h12 (hrest v q)) h2s G p l e R s0 mid args below meth c Q c0 z0 hF hc hz hQ H1 locs1 _ _ ls hH1 hS1 (by omega) (by omega) hl
/-- a call of a constructor -/
theorem rr_callI {st : List PV} {K : Option PV → Mem → Option (Option PV × Mem)} {XN : Option (Option PV × Mem)} (N : MD) (g i : Nat) (as rest : List PV) (idx : Nat) (hd : decode M.2.2.1 pc = .ok (.invokespecial idx, 3)) (hlk : Cond.methodLink (onm M.1) idx N.2.1 ∈ wAll) (hm : mOk N 2 as.length) (hroom : roomOk N M = true) (hck : (Nat.ble (stw rest) 8 && (isObj g N.1 && ((vR g i :: as).all (fun v => !is2 (some (some v))) && Nat.ble (as.length + 1) N.2.2.2.1))) = true) (hst0 : st = as.reverse ++ vR g i :: rest) (h12 : s1 ≤ s2) (h2s : s2 ≤ s')
    (hN : RR N s1 s2 0 (ent N (vR g i :: as)) [] I XN) (k : ∀ r J, XN = some (r, J) → RR M s2 s' (pc + 3) L (r.toList ++ rest) J (K r J)) : RR M s1 s' pc L st I (XN.bind (fun q => K q.1 q.2)) := by
  intro r I' hX hL hst hss G p l e R s0 mid args below meth c Q c0 z0 hF hc hz hQ H locs cells slots ls hH hS h1 h2 hl
  subst hst0
  simp only [Bool.and_eq_true, Nat.ble_eq] at hck
  obtain ⟨w1, w2, w3, w4⟩ := hck
  obtain ⟨⟨rv, J⟩, e1, e2⟩ := Option.bind_eq_some_iff.mp hX
  have hsk := isObj_at w2
  have hlt := skd_lt hsk
  have hsas : sok s1 (vR g i :: as) := by
    intro v hv
    rcases List.mem_cons.mp hv with q | q
    · exact hst v (List.mem_append_right _ (List.mem_cons.mpr (Or.inl q)))
    · exact hst v (List.mem_append_left _ (List.mem_reverse.mpr q))
  have hrest : sok s1 rest := fun v hv => hst v (List.mem_append_right _ (List.mem_cons_of_mem _ hv))
  have hM := met_RR hN e1 hm w4 w3 hsas h12 l G
  have hmm := hm
  obtain ⟨m1, m2, m3, m4, m5, m6, m7, m8, m9, m10⟩ := hmm
  have hts := hF.2.2.2.2.1
  have hgood : GoodIn wAll (wsM N) := by
    intro w hw
    have hin : w ∈ wAll := by
      rcases List.mem_cons.mp hw with rfl | q
      · exact m1
      · exact q
    exact goodIn_all w hin
  have hw10 : wsM N = Cond.code N.2.1 N.2.2.1 N.2.2.2.1 none :: wAll := by rw [← m10]
  have hcn1 := cnS_le h12
  have hcn2 := cnS_le h2s
  have hsn1 := slS_le h12
  have hsn2 := slS_le h2s
  show W p l e R s0 mid args below meth c H locs cells slots Q (F0 mid pc ls ((as.reverse ++ vR g i :: rest).map (tvv G)))
  have hrun := va_runI (l := l) (e := e) (below := below) (meth := meth) (locs := locs) (cells := cells) (slots := slots) (b := G.1 + pos g i) (H := H) (As := as.map (tvv G)) (rest := rest.map (tvv G)) (g := F0 mid pc ls ((as.reverse ++ vR g i :: rest).map (tvv G))) (R := R) (own := onm M.1) (index := idx) ⟨hF.1, hF.2.1, hF.2.2.1, hF.2.2.2.1, hts⟩ hM (cwI as.length hts hgood hw10 rfl rfl (hts _ m2) (hts _ hlk) (hts _ m8) m9 ⟨m5, m6, m7⟩ (roomOk_at hroom hF.2.2.2.2.2.2.1 hF.2.2.2.2.2.2.2.1)) ⟨PcR_blind, fun U hU hW => ⟨by rw [← ada_lt (G := G) (i := i) hlt]; rfl, by rw [hU]; exact hH, FX_call (FC_fx hF) hS hU hW⟩⟩ rfl (by rw [List.length_map]) hl.1.1 (by show (as.reverse ++ vR g i :: rest).map (tvv G) = _; rw [List.map_append, List.map_reverse, List.map_cons, ← ada_lt (G := G) (i := i) hlt]; rfl) (lv_room (by rw [stw_eq]; exact w1)) hd ⟨by omega, by omega⟩
  refine rr_back hrun hS (fun H1 locs1 hpk hH1 hS1 => ?_)
  rw [tvs]
  exact k rv J e1 r I' e2 (lok_le h12 hL) (fun v hv => by
    rcases List.mem_append.mp hv with q | q
    · exact hpk v (by simpa using q)
    · exact pok_le h12 (hrest v q)) h2s G p l e R s0 mid args below meth c Q c0 z0 hF hc hz hQ H1 locs1 _ _ ls hH1 hS1 (by omega) (by omega) hl
/-- a call of a constructor of a nest mate -/
theorem rr_callIN {st : List PV} {K : Option PV → Mem → Option (Option PV × Mem)} {XN : Option (Option PV × Mem)} (N : MD) (g i : Nat) (as rest : List PV) (idx : Nat) (hd : decode M.2.2.1 pc = .ok (.invokespecial idx, 3)) (host : String) (hlk : Cond.methodLinkNest (onm M.1) idx N.2.1 host ∈ nwW) (hm : mOk N 2 as.length) (hroom : roomOk N M = true) (hck : (Nat.ble (stw rest) 8 && (isObj g N.1 && ((vR g i :: as).all (fun v => !is2 (some (some v))) && Nat.ble (as.length + 1) N.2.2.2.1))) = true) (hst0 : st = as.reverse ++ vR g i :: rest) (h12 : s1 ≤ s2) (h2s : s2 ≤ s')
    (hN : RR N s1 s2 0 (ent N (vR g i :: as)) [] I XN) (k : ∀ r J, XN = some (r, J) → RR M s2 s' (pc + 3) L (r.toList ++ rest) J (K r J)) : RR M s1 s' pc L st I (XN.bind (fun q => K q.1 q.2)) := by
  intro r I' hX hL hst hss G p l e R s0 mid args below meth c Q c0 z0 hF hc hz hQ H locs cells slots ls hH hS h1 h2 hl
  subst hst0
  simp only [Bool.and_eq_true, Nat.ble_eq] at hck
  obtain ⟨w1, w2, w3, w4⟩ := hck
  obtain ⟨⟨rv, J⟩, e1, e2⟩ := Option.bind_eq_some_iff.mp hX
  have hsk := isObj_at w2
  have hlt := skd_lt hsk
  have hsas : sok s1 (vR g i :: as) := by
    intro v hv
    rcases List.mem_cons.mp hv with q | q
    · exact hst v (List.mem_append_right _ (List.mem_cons.mpr (Or.inl q)))
    · exact hst v (List.mem_append_left _ (List.mem_reverse.mpr q))
  have hrest : sok s1 rest := fun v hv => hst v (List.mem_append_right _ (List.mem_cons_of_mem _ hv))
  have hM := met_RR hN e1 hm w4 w3 hsas h12 l G
  have hmm := hm
  obtain ⟨m1, m2, m3, m4, m5, m6, m7, m8, m9, m10⟩ := hmm
  have hts := hF.2.2.2.2.1
  have hgood : GoodIn wAll (wsM N) := by
    intro w hw
    have hin : w ∈ wAll := by
      rcases List.mem_cons.mp hw with rfl | q
      · exact m1
      · exact q
    exact goodIn_all w hin
  have hw10 : wsM N = Cond.code N.2.1 N.2.2.1 N.2.2.2.1 none :: wAll := by rw [← m10]
  have hcn1 := cnS_le h12
  have hcn2 := cnS_le h2s
  have hsn1 := slS_le h12
  have hsn2 := slS_le h2s
  show W p l e R s0 mid args below meth c H locs cells slots Q (F0 mid pc ls ((as.reverse ++ vR g i :: rest).map (tvv G)))
  have hrun := va_runIN (l := l) (e := e) (below := below) (meth := meth) (locs := locs) (cells := cells) (slots := slots) (b := G.1 + pos g i) (H := H) (As := as.map (tvv G)) (rest := rest.map (tvv G)) (g := F0 mid pc ls ((as.reverse ++ vR g i :: rest).map (tvv G))) (R := R) (own := onm M.1) (index := idx) ⟨hF.1, hF.2.1, hF.2.2.1, hF.2.2.2.1, hts⟩ hM ⟨va_cnB as.length hts hgood hw10 rfl rfl ((FC_fx hF).2.2.2.2.2.1 _ hlk) (hts _ m2) ⟨m5, m6, m7⟩ (roomOk_at hroom hF.2.2.2.2.2.2.1 hF.2.2.2.2.2.2.2.1), m9, hts _ m8⟩ ⟨PcR_blind, fun U hU hW => ⟨by rw [← ada_lt (G := G) (i := i) hlt]; rfl, by rw [hU]; exact hH, FX_call (FC_fx hF) hS hU hW⟩⟩ rfl (by rw [List.length_map]) hl.1.1 (by show (as.reverse ++ vR g i :: rest).map (tvv G) = _; rw [List.map_append, List.map_reverse, List.map_cons, ← ada_lt (G := G) (i := i) hlt]; rfl) (lv_room (by rw [stw_eq]; exact w1)) hd ⟨by omega, by omega⟩
  refine rr_back hrun hS (fun H1 locs1 hpk hH1 hS1 => ?_)
  rw [tvs]
  exact k rv J e1 r I' e2 (lok_le h12 hL) (fun v hv => by
    rcases List.mem_append.mp hv with q | q
    · exact hpk v (by simpa using q)
    · exact pok_le h12 (hrest v q)) h2s G p l e R s0 mid args below meth c Q c0 z0 hF hc hz hQ H1 locs1 _ _ ls hH1 hS1 (by omega) (by omega) hl
end CALL
end
section
/-! ===== cells that come, references that are set ===== -/
theorem take_succ {s : Nat} {x : Nat × Nat × Nat × Nat} (h : evs[s]? = some x) : evs.take (s + 1) = evs.take s ++ [x] := by
  rw [List.take_succ, h]; rfl
theorem sA_new {s g i h b k : Nat} (he : evs[s]? = some (0, g, i, 0)) : sA (s + 1) h b k = sA s h b k := by
  unfold sA
  rw [take_succ he, Bool.eq_iff_iff]
  simp
theorem sA_put {s g i k h b j : Nat} (he : evs[s]? = some (1, g, i, k)) : sA (s + 1) h b j = (sA s h b j || decide ((h, b, j) = (g, i, k))) := by
  unfold sA
  rw [take_succ he, Bool.eq_iff_iff]
  simp
theorem cn_new {s g i : Nat} (he : evs[s]? = some (0, g, i, 0)) : cnS (s + 1) = cnS s + 1 ∧ slS (s + 1) = slS s + csz g := by
  unfold cnS slS
  rw [take_succ he]
  simp [List.filter_append]
theorem cn_put {s g i k : Nat} (he : evs[s]? = some (1, g, i, k)) : cnS (s + 1) = cnS s ∧ slS (s + 1) = slS s := by
  unfold cnS slS
  rw [take_succ he]
  simp [List.filter_append]
theorem ev_new {s g i : Nat} (he : evs[s]? = some (0, g, i, 0)) : i < scnt g ∧ pos g i = cnS s := by
  have hs : s < SF := by rw [← evs_len]; exact (List.getElem?_eq_some_iff.mp he).1
  have h1 := evs_ok s hs
  unfold evOk at h1
  rw [List.getD_eq_getElem?_getD, he] at h1
  simp only [Option.getD_some, Bool.and_eq_true, Nat.blt_eq] at h1
  exact ⟨h1.1, Nat.eq_of_beq_eq_true h1.2⟩
theorem cG_new {G : GX} {s g i h b : Nat} {I : Mem} (he : evs[s]? = some (0, g, i, 0)) (hne : (h, b) ≠ (g, i)) : cG G (s + 1) (mz I g i) h b = cG G s I h b := by
  have e : ∀ j, mz I g i h b j = I h b j := fun j => by
    unfold mz
    rw [if_neg (fun q => hne (by rw [q.1, q.2]))]
  unfold cG
  split
  · have : ∀ j, svv G (s + 1) (mz I g i) h b j = svv G s I h b j := fun j => by unfold svv; rw [sA_new he]; split <;> simp [e]
    simp [this]
  · rw [show mz I g i h b = I h b from funext e]
    simp only [sA_new he]
  · rfl
theorem xok_mz {G : GX} {I : Mem} {g i : Nat} (h : xok G I) (hg : g < 100) : xok G (mz I g i) := by
  obtain ⟨h1, h2, h3, h4⟩ := h
  have e : ∀ a b c, 100 ≤ a → mz I g i a b c = I a b c := fun a b c ha => by
    unfold mz
    rw [if_neg (fun q => by omega)]
  exact ⟨fun j => by rw [e _ _ _ (by omega)]; exact h1 j, by rw [e _ _ _ (by omega)]; exact h2, fun j => by rw [e _ _ _ (by omega)]; exact h3 j, fun j => by rw [e _ _ _ (by omega)]; exact h4 j⟩
/-- the picture grows by a cell -/
theorem HW_new {G : GX} {s g i : Nat} {I : Mem} {H H1 : Heap} (he : evs[s]? = some (0, g, i, 0)) (hH : HW G s I H) (hz : H1.size = H.size + 1) (ho : ∀ q, q < H.size → H1[q]? = H[q]?) (hc : va_at G.2.1 xcl (G.1 + pos g i, cG G (s + 1) (mz I g i) g i) H1) : HW G (s + 1) (mz I g i) H1 := by
  obtain ⟨hP, hsz, hxo⟩ := hH
  obtain ⟨h1, h2⟩ := ev_new he
  obtain ⟨c1, -⟩ := cn_new he
  refine ⟨?_, by rw [hz, hsz, c1]; omega, xok_mz hxo (scnt_pos h1)⟩
  rw [← wsG_push (I := I) h1 h2 c1 (fun h b hb hp => cG_new he (fun q => by obtain ⟨w1, w2⟩ := Prod.mk.inj q; rw [w1, w2] at hp; omega))]
  refine (hP.kept (fun k x hx => ho x.1 ((hP k x hx).lt))).app (fun k x hx => ?_)
  have hz : k < 1 := (List.getElem?_eq_some_iff.mp hx).1
  rw [show k = 0 by omega] at hx
  cases hx
  exact hc
theorem va_S_new {A : Nat → Prop} {H0 H H1 : Heap} {locs : List Loc} (hS : va_S A H0 H locs) (hz : H1.size = H.size + 1) (ho : ∀ q, q < H.size → H1[q]? = H[q]?) : va_S A H0 H1 locs := ⟨Nat.le_trans hS.1 (by omega), fun x h1 h2 => (ho x (Nat.lt_of_lt_of_le h1 hS.1)).trans (hS.2.1 x h1 h2), hS.2.2⟩
section MAKE
variable {M : MD} {s s' pc : Nat} {L : LC} {st : List PV} {I : Mem} {X : Option (Option PV × Mem)}
theorem pok_new {g i : Nat} (he : evs[s]? = some (0, g, i, 0)) : pok (s + 1) (vR g i) := by
  obtain ⟨h1, h2⟩ := ev_new he
  exact Or.inl ⟨scnt_pos h1, h1, by rw [(cn_new he).1]; omega⟩
theorem rr_new (g i ci idx : Nat) (hd : decode M.2.2.1 pc = .ok (.new idx, 3)) (he : evs[s]? = some (0, g, i, 0)) (hk : skd g = some (.inl ci)) (r : vw_C) (hr : xcl[ci]? = some r) (hw : Cond.classLink (onm M.1) idx r.1 ∈ wAll ∧ Cond.instantiable r.1 r.2.2 ∈ wAll ∧ Cond.initialized r.1 ∈ wAll) (hds : (List.range (snf ci)).all (fun j => decide (defaultValue (sty ci j) = if (tau g i j).isNone then .int 0 else .null) && !sA (s + 1) g i j) = true) (hss2 : s + 1 ≤ s')
    (k : RR M (s + 1) s' (pc + 3) L (vR g i :: st) (mz I g i) X) : RR M s s' pc L st I X := by
  intro r9 I' hX hL hst hss G p l e R s0 mid args below meth c Q c0 z0 hF hc hz hQ H locs cells slots ls hH hS h1 h2 hl
  obtain ⟨k1, k2, k3, k4⟩ := cl_ok ci r hr
  obtain ⟨n1, n2⟩ := ev_new he
  obtain ⟨c1, c2⟩ := cn_new he
  have hK := (FC_fx hF).1
  have hts := hF.2.2.2.2.1
  have hKn := hK.1 ci _ hr
  have hcs : csz g = r.2.2 := by rw [csz, hk]; exact k4
  have hmc := cnS_le hss2
  have hms := slS_le hss2
  refine W.newcK hF.1 hF.2.1 hF.2.2.2.1 (hts _ hw.1) (hts _ hw.2.1) (hts _ hw.2.2) rfl hd (by omega) (by omega) hKn.2.1 rfl fun H1 kC hkC e1 z1 o1 => ?_
  have hlt := skd_lt hk
  have hsz : H.size = G.1 + pos g i := by rw [hH.2.1, n2]
  have hnew := HW_new he hH z1 o1 (by
    rw [cG_obj hk]
    refine ⟨r, hr, ?_⟩
    show t_OB (G.1 + pos g i) _ _ _ _ _
    rw [← hsz]
    refine (u_born (sty ci) hts k1 hKn hkC e1 k3).to (fun j hj => ?_)
    have hj2 : j < snf ci := by rw [k4]; exact hj
    have := List.all_eq_true.mp hds j (List.mem_range.mpr hj2)
    simp only [Bool.and_eq_true, decide_eq_true_eq, Bool.not_eq_true'] at this
    rw [this.1]
    simp only [vp_V, List.getD_eq_getElem?_getD, List.getElem?_map, List.getElem?_range hj2, Option.map_some, Option.getD_some, svv]
    cases ht : tau g i j with
    | none => simp [mz]
    | some x => simp [this.2])
  have kk := k r9 I' hX (lok_le (Nat.le_succ s) hL) (sok_c (pok_new he) (sok_le (Nat.le_succ s) hst)) hss2 G p l e R s0 mid args below meth c Q c0 z0 hF hc hz hQ H1 locs (cells + 1) (slots + r.2.2) ls hnew (va_S_new hS z1 o1) (by omega) (by omega) hl
  have e3 : (F0 mid (pc + 3) ls ((vR g i :: st).map (tvv G))) = { F0 mid pc ls (st.map (tvv G)) with pc := pc + 3, stack := .ref H.size :: st.map (tvv G) } := by
    rw [hsz, ← ada_lt (G := G) (i := i) hlt]; rfl
  rw [e3] at kk
  exact kk
theorem rr_newI (g i n : Nat) (nn : Int32) (hd : decode M.2.2.1 pc = .ok (.newarray .int, 2)) (he : evs[s]? = some (0, g, i, 0)) (hk : skd g = some (.inr (0, n))) (hn : nn = nI n ∧ n < 100000) (hw : Cond.arrayClass .int ∈ wAll) (hss2 : s + 1 ≤ s')
    (k : RR M (s + 1) s' (pc + 2) L (vR g i :: st) (mz I g i) X) : RR M s s' pc L (vI nn :: st) I X := by
  intro r9 I' hX hL hst hss G p l e R s0 mid args below meth c Q c0 z0 hF hc hz hQ H locs cells slots ls hH hS h1 h2 hl
  obtain ⟨n1, n2⟩ := ev_new he
  obtain ⟨c1, c2⟩ := cn_new he
  have hts := hF.2.2.2.2.1
  have hcs : csz g = n := by rw [csz, hk]
  have hmc := cnS_le hss2
  have hms := slS_le hss2
  obtain ⟨rfl, hn5⟩ := hn
  have hsz : H.size = G.1 + pos g i := by rw [hH.2.1, n2]
  refine va_newaK (atype := .int) hF.1 hF.2.1 (hts _ hw) rfl hd (n := nI n) (N := n) rfl (nI_pos (by omega)) (nI_clamp (by omega)) (by show n * 4 ≤ _; omega) (by omega) (by omega) rfl fun H1 cA e1 z1 o1 hAr hNm => ?_
  have hlt := skd_lt hk
  have hcA : cA = G.2.2.1 0 := by
    have h3 : s0.vm.findClass ("[" ++ FieldType.int.toString) = some (G.2.2.1 0) := ((FC_fx hF).1.2 0 _ (tysG_at (by decide))).2
    exact Option.some.inj (hNm.symm.trans h3)
  have hnew := HW_new he hH z1 o1 (by
    rw [cG_arr hk (by decide)]
    show H1[G.1 + pos g i]? = some (vp_cell _ _)
    rw [← hsz, vp_cell_i, e1, hcA]
    congr 2
    funext j
    simp [mz]
    rfl)
  have kk := k r9 I' hX (lok_le (Nat.le_succ s) hL) (sok_c (pok_new he) (sok_le (Nat.le_succ s) (sok_t hst))) hss2 G p l e R s0 mid args below meth c Q c0 z0 hF hc hz hQ H1 locs (cells + 1) (slots + n) ls hnew (va_S_new hS z1 o1) (by omega) (by omega) hl
  have e3 : (F0 mid (pc + 2) ls ((vR g i :: st).map (tvv G))) = { F0 mid pc ls ((vI (nI n) :: st).map (tvv G)) with pc := pc + 2, stack := .ref H.size :: st.map (tvv G) } := by
    rw [hsz, ← ada_lt (G := G) (i := i) hlt]; rfl
  rw [e3] at kk
  exact kk
theorem rr_newZ (g i n : Nat) (nn : Int32) (hd : decode M.2.2.1 pc = .ok (.newarray .boolean, 2)) (he : evs[s]? = some (0, g, i, 0)) (hk : skd g = some (.inr (1, n))) (hn : nn = nI n ∧ n < 100000) (hw : Cond.arrayClass .boolean ∈ wAll) (hss2 : s + 1 ≤ s')
    (k : RR M (s + 1) s' (pc + 2) L (vR g i :: st) (mz I g i) X) : RR M s s' pc L (vI nn :: st) I X := by
  intro r9 I' hX hL hst hss G p l e R s0 mid args below meth c Q c0 z0 hF hc hz hQ H locs cells slots ls hH hS h1 h2 hl
  obtain ⟨n1, n2⟩ := ev_new he
  obtain ⟨c1, c2⟩ := cn_new he
  have hts := hF.2.2.2.2.1
  have hcs : csz g = n := by rw [csz, hk]
  have hmc := cnS_le hss2
  have hms := slS_le hss2
  obtain ⟨rfl, hn5⟩ := hn
  have hsz : H.size = G.1 + pos g i := by rw [hH.2.1, n2]
  refine va_newaK (atype := .boolean) hF.1 hF.2.1 (hts _ hw) rfl hd (n := nI n) (N := n) rfl (nI_pos (by omega)) (nI_clamp (by omega)) (by show n * 1 ≤ _; omega) (by omega) (by omega) rfl fun H1 cA e1 z1 o1 hAr hNm => ?_
  have hlt := skd_lt hk
  have hcA : cA = G.2.2.1 1 := by
    have h3 : s0.vm.findClass ("[" ++ FieldType.boolean.toString) = some (G.2.2.1 1) := ((FC_fx hF).1.2 1 _ (tysG_at (by decide))).2
    exact Option.some.inj (hNm.symm.trans h3)
  have hnew := HW_new he hH z1 o1 (by
    rw [cG_arr hk (by decide)]
    show H1[G.1 + pos g i]? = some (vp_cell _ _)
    rw [← hsz, vp_cell_i, e1, hcA]
    congr 2
    funext j
    simp [mz]
    rfl)
  have kk := k r9 I' hX (lok_le (Nat.le_succ s) hL) (sok_c (pok_new he) (sok_le (Nat.le_succ s) (sok_t hst))) hss2 G p l e R s0 mid args below meth c Q c0 z0 hF hc hz hQ H1 locs (cells + 1) (slots + n) ls hnew (va_S_new hS z1 o1) (by omega) (by omega) hl
  have e3 : (F0 mid (pc + 2) ls ((vR g i :: st).map (tvv G))) = { F0 mid pc ls ((vI (nI n) :: st).map (tvv G)) with pc := pc + 2, stack := .ref H.size :: st.map (tvv G) } := by
    rw [hsz, ← ada_lt (G := G) (i := i) hlt]; rfl
  rw [e3] at kk
  exact kk
theorem rr_newR (g i n t idx : Nat) (nn : Int32) (hd : decode M.2.2.1 pc = .ok (.anewarray idx, 3)) (he : evs[s]? = some (0, g, i, 0)) (hk : skd g = some (.inr (t + 2, n))) (hn : nn = nI n ∧ n < 100000) (hw : Cond.classLink (onm M.1) idx (rcl (t + 2)) ∈ wAll) (hds : (List.range n).all (fun j => !sA (s + 1) g i j) = true) (hss2 : s + 1 ≤ s')
    (k : RR M (s + 1) s' (pc + 3) L (vR g i :: st) (mz I g i) X) : RR M s s' pc L (vI nn :: st) I X := by
  intro r9 I' hX hL hst hss G p l e R s0 mid args below meth c Q c0 z0 hF hc hz hQ H locs cells slots ls hH hS h1 h2 hl
  obtain ⟨n1, n2⟩ := ev_new he
  obtain ⟨c1, c2⟩ := cn_new he
  have hts := hF.2.2.2.2.1
  have hcs : csz g = n := by rw [csz, hk]
  have hmc := cnS_le hss2
  have hms := slS_le hss2
  obtain ⟨rfl, hn5⟩ := hn
  have hcl : (nI n).toNatClampNeg = n := nI_clamp (by omega)
  have hsz : H.size = G.1 + pos g i := by rw [hH.2.1, n2]
  have ht4 := skd_t hk
  have hao : va_AO (rcl (t + 2)) s0 := by
    rcases (show t = 0 ∨ t = 1 by omega) with rfl | rfl
    · exact (FC_fx hF).2.2.2.2.2.2.1
    · exact (FC_fx hF).2.2.2.2.2.2.2
  have hty : ([.int, .boolean, .object (rcl 2), .object (rcl 3)] : List FieldType).getD (t + 2) .int = .object (rcl (t + 2)) := by
    rcases (show t = 0 ∨ t = 1 by omega) with rfl | rfl <;> rfl
  refine W.anew hF.1 hF.2.1 hF.2.2.2.1 (hts _ hw) (va_AO.use hao) rfl hd (n := nI n) rfl (nI_pos (by omega)) (by rw [hcl]; omega) (by omega) (by rw [hcl]; omega) fun cA kA comp f1 f2 f3 f4 => ?_
  have hlt := skd_lt hk
  have hcA : cA = G.2.2.1 (t + 2) := by
    have h3 := ((FC_fx hF).1.2 (t + 2) _ (tysG_at ht4)).2
    rw [hty] at h3
    obtain ⟨_, _, -, -, -, h5⟩ := h3
    exact Option.some.inj (f1.symm.trans h5)
  generalize hH1 : H.push ({ cls := cA, slots := Array.replicate (nI n).toNatClampNeg .null, vm := .none } : Cell) = H1
  have z1 : H1.size = H.size + 1 := by rw [← hH1, Array.size_push]
  have e1 : H1[H.size]? = some (arrV cA (nI n).toNatClampNeg (fun _ => .null)) := by rw [← hH1, Array.getElem?_push_size, ← arrV_new]
  have o1 : ∀ q : Nat, q < H.size → H1[q]? = H[q]? := fun q hq => by rw [← hH1, Array.getElem?_push, if_neg (Nat.ne_of_lt hq)]
  have hns : ∀ j, sA (s + 1) g i j = false := by
    intro j
    by_cases hj : j < n
    · have := List.all_eq_true.mp hds j (List.mem_range.mpr hj)
      simpa using this
    · cases hq : sA (s + 1) g i j with
      | false => rfl
      | true =>
        obtain ⟨a, b, w1, -⟩ := sA_tgt hq
        rw [tgt, hk] at w1
        have : (if t + 2 < 2 then (none : Option (Nat × Nat)) else if j < n then some (rtg (t + 2), j) else none) = some (a, b) := w1
        rw [if_neg (by omega), if_neg hj] at this
        cases this
  have hnew := HW_new he hH z1 o1 (by
    rw [cG_rarr hk (by omega)]
    show H1[G.1 + pos g i]? = some (vp_cell _ _)
    rw [← hsz, vp_cell_q, e1, hcA, hcl]
    congr 2
    funext j
    simp [hns, va_rf])
  have kk := k r9 I' hX (lok_le (Nat.le_succ s) hL) (sok_c (pok_new he) (sok_le (Nat.le_succ s) (sok_t hst))) hss2 G p l e R s0 mid args below meth c Q c0 z0 hF hc hz hQ H1 locs (cells + 1) (slots + n) ls hnew (va_S_new hS z1 o1) (by omega) (by omega) hl
  have e3 : (F0 mid (pc + 3) ls ((vR g i :: st).map (tvv G))) = { F0 mid pc ls ((vI (nI n) :: st).map (tvv G)) with pc := pc + 3, stack := .ref H.size :: st.map (tvv G) } := by
    rw [hsz, ← ada_lt (G := G) (i := i) hlt]; rfl
  rw [e3] at kk
  have e4 : slots + (nI n).toNatClampNeg = slots + n := by rw [hcl]
  rw [e4]
  exact kk
theorem rr_obj {g i : Nat} (idx : Nat) (hd : decode M.2.2.1 pc = .ok (.invokespecial idx, 3)) (hw : Cond.methodLink (onm M.1) idx objectInit ∈ wAll ∧ Cond.instanceMethod objectInit ∈ wAll ∧ Cond.code objectInit ⟨#[0xb1]⟩ 1 none ∈ wAll) (hr : (Nat.ble 1 M.2.2.2.2.2.1 && Nat.ble (stw st + 12) M.2.2.2.2.2.2) = true) (k : RR M s s' (pc + 3) L st I X) : RR M s s' pc L (vR g i :: st) I X := by
  intro r9 I' hX hL hst hss G p l e R s0 mid args below meth c Q c0 z0 hF hc hz hQ H locs cells slots ls hH hS h1 h2 hl
  simp only [Bool.and_eq_true, Nat.ble_eq] at hr
  have hts := hF.2.2.2.2.1
  have kk := k r9 I' hX hL (sok_t hst) hss G p l e R s0 mid args below meth c Q c0 z0 hF hc hz hQ H locs cells slots ls hH hS h1 h2 hl
  exact W.objInit (g := F0 mid pc ls ((vR g i :: st).map (tvv G))) (rest := st.map (tvv G)) hF.1 hF.2.1 hF.2.2.2.1 (hts _ hw.1) (hts _ hw.2.1) (hts _ hw.2.2) rfl (by rw [hF.2.2.1]; exact hl.1.1) rfl hd (Nat.le_trans hr.1 hF.2.2.2.2.2.2.1) (by rw [stw_eq]; show 2 * 0 + stw st + 12 ≤ _; have := hF.2.2.2.2.2.2.2.1; omega) kk
end MAKE
end
section
theorem ev_put {s g i k : Nat} (he : evs[s]? = some (1, g, i, k)) : i < scnt g ∧ pos g i < cnS s ∧ ∃ t b, tgt g i k = some (t, b) ∧ b < scnt t ∧ pos t b < cnS s := by
  have hs : s < SF := by rw [← evs_len]; exact (List.getElem?_eq_some_iff.mp he).1
  exact ev_set hs he
theorem cG_put {G : GX} {s g i k h b : Nat} {I : Mem} (he : evs[s]? = some (1, g, i, k)) (hne : (h, b) ≠ (g, i)) : cG G (s + 1) I h b = cG G s I h b := by
  have e : ∀ j, sA (s + 1) h b j = sA s h b j := fun j => by
    rw [sA_put he]
    have : ¬ (h, b, j) = (g, i, k) := fun q => hne (by obtain ⟨w1, w2, -⟩ := Prod.mk.injEq .. ▸ q; simp_all)
    simp [this]
  unfold cG
  split
  · have : ∀ j, svv G (s + 1) I h b j = svv G s I h b j := fun j => by unfold svv; rw [e]
    simp [this]
  · simp only [e]
  · rfl
section MAKE2
variable {M : MD} {s s' pc : Nat} {L : LC} {st : List PV} {I : Mem} {X : Option (Option PV × Mem)}
/-- a final field of references is set, in the constructor -/
theorem rr_putR (g i a b cx h bb : Nat) (hd : decode M.2.2.1 pc = .ok (.putfield cx, 3)) (ho : fldT.contains (M.1, cx, a, b) = true) (he : evs[s]? = some (1, g, i, b)) (hk : skd g = some (.inl a)) (ht : tau g i b = some (h, bb)) (hq : (decide (((xcl.getD a ("", TX0, 0)).2.1 b).2.2.2 = true) && (decide (M.2.1.name = "<init>") && (decide (((xcl.getD a ("", TX0, 0)).2.1 b).1 = onm M.1) && (match sty a b with | .object _ => true | .array _ => true | _ => false)))) = true) (hss2 : s + 1 ≤ s')
    (k : RR M (s + 1) s' (pc + 3) L st I X) : RR M s s' pc L (vR h bb :: vR g i :: st) I X := by
  intro r9 I' hX hL hst hss G p l e R s0 mid args below meth c Q c0 z0 hF hc hz hQ H locs cells slots ls hH hS h1 h2 hl
  have hlt := skd_lt hk
  obtain ⟨r, hr, hb, hre, hw⟩ := fld_ok ho
  obtain ⟨k1, k2, k3, k4⟩ := cl_ok a r hr
  have hbs : b < snf a := by rw [k4]; exact hb
  rw [hre] at hq
  simp only [Bool.and_eq_true, decide_eq_true_eq] at hq
  obtain ⟨hfin, hini, hdecl, hkd⟩ := hq
  obtain ⟨q1, q2, t9, b9, e9, e10, e11⟩ := ev_put he
  have htg : tgt g i b = some (h, bb) := by rw [tgt, hk]; exact ht
  rw [htg] at e9
  cases e9
  have hlh := scnt_pos e10
  have hws := wsG_get (G := G) (I := I) q1 q2
  rw [cG_obj hk] at hws
  show W p l e R s0 mid args below meth c H locs cells slots Q (F0 mid pc ls (.ref (ada G h bb) :: .ref (ada G g i) :: st.map (tvv G)))
  rw [ada_lt hlt, ada_lt hlh]
  obtain ⟨hP, hsz, hxo⟩ := hH
  have hK := (FC_fx hF).1
  have hts := hF.2.2.2.2.1
  have hown := hF.2.2.2.1
  have hap := va_apart (own := onm M.1) hts k1 (sty a) k3 k2 hK hr
  obtain ⟨r2, hr2, cell, w1, w2, w3, w4⟩ := hP (pos g i) _ hws
  have hr3 : r2 = r := Option.some.inj (hr2.symm.trans hr)
  subst hr3
  obtain ⟨hSl, hfc, kC, hkC, hkind⟩ := hK.1 a _ hr
  obtain ⟨cf, kf, fi, f, hi, hsl⟩ := hSl b hb
  have hlay := hts _ (k1 _ (u_in_lay hb))
  unfold u_lay at hlay
  rw [if_pos hfin] at hlay
  have hstc := (u_facts hfc hkC (u_lays hts k1 hb) hi).1
  have hcf : mid.cls = cf := by
    obtain ⟨_, _, c', _, _, _, -, -, hf', -, -, -, hown2, -⟩ := Cond.laysFinal_spec hlay
    have e1 : c' = cf := by have := hi.symm.trans hf'; simp at this; exact this.1.symm
    rw [hdecl] at hown2
    rw [← e1]; exact Option.some.inj (hown.symm.trans hown2)
  have h6 := u_fits (v := .ref (G.1 + pos h bb)) hfc hkC hkind (Or.inr hlay) hi (k3 b hb) (by cases hty : sty a b <;> rw [hty] at hkd <;> first | rfl | cases hkd) (by cases hty : sty a b <;> rw [hty] at hkd <;> first | rfl | cases hkd)
  refine W.putFinK hF.1 hF.2.1 hown (hts _ hw) hi hstc hcf (by rw [hF.2.2.2.2.2.1]; exact hini) (by rw [w2]; exact h6) w1 w3 (by rw [hsl]; exact k2_hasslot (w4 b hb)) rfl rfl hd fun H' e1 e2 e3 => ?_
  rw [hsl] at e1 ⊢
  have hD := wsG_D G s I
  have hlen : b < ((List.range (snf a)).map (fun j => svv G s I g i j)).length := by simpa using hbs
  have hP' := hP.set hD hws (e := .inr (a, ((List.range (snf a)).map (fun j => svv G s I g i j)).set b (.ref (G.1 + pos h bb)))) ⟨_, hr, t_OB.to (V := updV (vp_V ((List.range (snf a)).map (fun j => svv G s I g i j))) b (.ref (G.1 + pos h bb))) ⟨_, e1, w2, w3, t_set w4 hap hb (.ref (G.1 + pos h bb))⟩ (fun j _ => vp_updV_set hlen (.ref (G.1 + pos h bb)) j)⟩ e3
  have hnew : (.inr (a, ((List.range (snf a)).map (fun j => svv G s I g i j)).set b (.ref (G.1 + pos h bb))) : va_E) = cG G (s + 1) I g i := by
    rw [cG_obj hk]
    congr 2
    apply List.ext_getElem?
    intro j
    by_cases hj : j < snf a
    · rw [List.getElem?_map, List.getElem?_range hj]
      by_cases ej : j = b
      · subst ej
        rw [List.getElem?_set_self hlen]
        simp only [Option.map_some, svv, ht]
        rw [sA_put he]
        simp
      · rw [List.getElem?_set_ne (fun q => ej q.symm), List.getElem?_map, List.getElem?_range hj]
        simp only [Option.map_some, svv]
        rw [sA_put he]
        simp [ej]
    · rw [List.getElem?_eq_none (by simpa using Nat.not_lt.mp hj), List.getElem?_eq_none (by simpa using Nat.not_lt.mp hj)]
  obtain ⟨cp1, cp2⟩ := cn_put he
  rw [hnew, wsG_set q1 q2 cp1 (fun h bb _ hne => cG_put he hne)] at hP'
  exact k r9 I' hX (lok_le (Nat.le_succ s) hL) (sok_le (Nat.le_succ s) (sok_t (sok_t hst))) hss2 G p l e R s0 mid args below meth c Q c0 z0 hF hc hz hQ H' _ cells slots ls ⟨hP', by rw [e2, hsz, cp1], hxo⟩ (hS.put e2 e3 (hD.2 _ _ hws)) (by omega) (by omega) hl
/-- an element of an array of references is set -/
theorem rr_putA (g i j t n : Nat) (x : Int32) (ci : Nat) (hd : decode M.2.2.1 pc = .ok (.aastore, 1)) (hx : x = nI j ∧ n < 100000 ∧ j < n) (he : evs[s]? = some (1, g, i, j)) (hk : skd g = some (.inr (t + 2, n))) (hk2 : skd (rtg (t + 2)) = some (.inl ci)) (hci : (xcl.getD ci ("", TX0, 0)).1 = rcl (t + 2) ∧ ci < 9) (hss2 : s + 1 ≤ s')
    (k : RR M (s + 1) s' (pc + 1) L st I X) : RR M s s' pc L (vR (rtg (t + 2)) j :: vI x :: vR g i :: st) I X := by
  intro r9 I' hX hL hst hss G p l e R s0 mid args below meth c Q c0 z0 hF hc hz hQ H locs cells slots ls hH hS h1 h2 hl
  obtain ⟨rfl, hn5, hjn⟩ := hx
  have hlt := skd_lt hk
  have hlh := skd_lt hk2
  obtain ⟨q1, q2, t9, b9, e9, e10, e11⟩ := ev_put he
  have htg : tgt g i j = some (rtg (t + 2), j) := by
    rw [tgt, hk]
    show (if t + 2 < 2 then none else if _ then _ else none) = _
    rw [if_neg (by omega), if_pos hjn]
  rw [htg] at e9
  cases e9
  have hws := wsG_get (G := G) (I := I) q1 q2
  rw [cG_rarr hk (by omega)] at hws
  have hws2 := wsG_get (G := G) (I := I) e10 e11
  rw [cG_obj hk2] at hws2
  have ht4 := skd_t hk
  have hty : ([.int, .boolean, .object (rcl 2), .object (rcl 3)] : List FieldType).getD (t + 2) .int = .object (rcl (t + 2)) := by
    rcases (show t = 0 ∨ t = 1 by omega) with rfl | rfl <;> rfl
  show W p l e R s0 mid args below meth c H locs cells slots Q (F0 mid pc ls (.ref (ada G (rtg (t + 2)) j) :: .int (nI j) :: .ref (ada G g i) :: st.map (tvv G)))
  rw [ada_lt hlt, ada_lt hlh]
  obtain ⟨hP, hsz, hxo⟩ := hH
  have hK := (FC_fx hF).1
  have hin : vp_in (nI j) n := vp_in_nI hjn (by omega)
  have hcl : (nI j).toNatClampNeg = j := nI_clamp (by omega)
  have hxc : xcl[ci]? = some (xcl.getD ci ("", TX0, 0)) := by
    rw [List.getD_eq_getElem?_getD, List.getElem?_eq_getElem (show ci < xcl.length from hci.2)]; rfl
  obtain ⟨r', hr', cellV, g1, g2, g3, -⟩ := hP _ _ hws2
  have hcls := (hK.1 ci _ hxc).2
  have h3 := (hK.2 (t + 2) _ (tysG_at ht4)).2
  rw [hty] at h3
  obtain ⟨kA, comp, f1, f2, f3, -⟩ := h3
  rw [hci.1] at hcls
  have hcomp : comp = G.2.1.1 ci := Option.some.inj (f3.symm.trans hcls.1)
  subst hcomp
  obtain ⟨kC, hkC, -⟩ := hcls.2
  have hD := wsG_D G s I
  refine W.aast hF.1 hF.2.1 (hP _ _ hws) (fun q h => by cases h) (fun h => by cases h) f1 f2 rfl hkC ⟨fun q => hin (Or.inl q), by show _ < (arrV _ _ _).slots.size; rw [arrV_size, hcl]; exact hjn⟩ g1 (fun q h => by rw [g3] at h; cases h) (by rw [g2]; exact hkC) (by rw [g2]; exact va_assign hcls) rfl rfl hd fun H1 e1 z1 oq => ?_
  have hP' := hP.set hD hws (e := cG G (s + 1) I g i) (by
    rw [cG_rarr hk (by omega)]
    show H1[_]? = some (vp_cell _ _)
    rw [e1]
    rw [vp_cell_q, vp_cell_q, arrV_store]
    congr 2
    funext q
    rw [hcl]
    by_cases hq : q = j
    · subst hq
      rw [sA_put he]
      simp [updV, va_rf]
    · rw [sA_put he]
      simp [updV, hq]) oq
  obtain ⟨cp1, cp2⟩ := cn_put he
  rw [wsG_set q1 q2 cp1 (fun h bb _ hne => cG_put he hne)] at hP'
  exact k r9 I' hX (lok_le (Nat.le_succ s) hL) (sok_le (Nat.le_succ s) (sok_t (sok_t (sok_t hst)))) hss2 G p l e R s0 mid args below meth c Q c0 z0 hF hc hz hQ H1 _ cells slots ls ⟨hP', by rw [z1, hsz, cp1], hxo⟩ (hS.put z1 oq (hD.2 _ _ hws)) (by omega) (by omega) hl
/-- a switch on numbers from 0 on -/
def tsw {α : Type} (x : Int32) : Nat → List (Option α) → Option α → Option α
  | _, [], d => d
  | j, y :: ys, d => if x = nI j then y else tsw x (j + 1) ys d
def allR (M : MD) (s s' : Nat) (L : LC) (st : List PV) (I : Mem) : List Nat → List (Option (Option PV × Mem)) → Prop
  | [], [] => True
  | t :: ts, y :: ys => RR M s s' t L st I y ∧ allR M s s' L st I ts ys
  | _, _ => False
theorem allR_at : ∀ {ts : List Nat} {ys : List (Option (Option PV × Mem))} {j0 n : Nat} {d : Option (Option PV × Mem)}, allR M s s' L st I ts ys → j0 + ts.length < 2 ^ 31 → n < ts.length → ∃ t, ts[n]? = some t ∧ RR M s s' t L st I (tsw (nI (j0 + n)) j0 ys d)
  | [], _, _, _, _, _, _, hn => absurd hn (Nat.not_lt_zero _)
  | t :: ts, [], _, _, _, h, _, _ => h.elim
  | t :: ts, y :: ys, j0, 0, d, h, _, _ => ⟨t, rfl, by rw [Nat.add_zero, tsw, if_pos rfl]; exact h.1⟩
  | t :: ts, y :: ys, j0, n + 1, d, h, hb, hn => by
    simp only [List.length_cons] at hb hn
    obtain ⟨t2, h1, h2⟩ := allR_at (d := d) (j0 := j0 + 1) (n := n) h.2 (by omega) (by omega)
    refine ⟨t2, by simpa using h1, ?_⟩
    rw [tsw, if_neg (fun q => by have := (nI_eq (by omega) (by omega)).mp q; omega)]
    rw [show j0 + (n + 1) = j0 + 1 + n by omega]
    exact h2
theorem tsw_out {x : Int32} {d : Option (Option PV × Mem)} : ∀ {ys : List (Option (Option PV × Mem))} {j0 : Nat}, (∀ j, j0 ≤ j → j < j0 + ys.length → x ≠ nI j) → tsw x j0 ys d = d
  | [], _, _ => rfl
  | y :: ys, j0, h => by
    rw [tsw, if_neg (h j0 (Nat.le_refl _) (by simp))]
    exact tsw_out (fun j h1 h2 => h j (by omega) (by simp only [List.length_cons]; omega))
theorem allR_len : ∀ {ts : List Nat} {ys : List (Option (Option PV × Mem))}, allR M s s' L st I ts ys → ts.length = ys.length
  | [], [], _ => rfl
  | _ :: _, _ :: _, h => by simp [allR_len h.2]
  | [], _ :: _, h => h.elim
  | _ :: _, [], h => h.elim
theorem rr_tsw {x : Int32} {ys : List (Option (Option PV × Mem))} {Y : Option (Option PV × Mem)} (dt : Nat) (ts : List Nat) (len : Nat) (hd : decode M.2.2.1 pc = .ok (.tableswitch ((dt : Int) - (pc : Int)) 0 ((ts.length : Int) - 1) (ts.map (fun t : Nat => (t : Int) - (pc : Int))).toArray, len)) (hn : Nat.blt ts.length 1000 = true) (ks : allR M s s' L st I ts ys) (kd : RR M s s' dt L st I Y) : RR M s s' pc L (vI x :: st) I (tsw x 0 ys Y) := by
  intro r9 I' hX hL hst hss G p l e R s0 mid args below meth c Q c0 z0 hF hc hz hQ H locs cells slots ls hH hS h1 h2 hl
  have hn5 := Nat.blt_eq.mp hn
  by_cases hx : x.toInt < 0 ∨ (ts.length : Int) - 1 < x.toInt
  · rw [tsw_out (fun j hj hj2 q => by
      rw [q, nI_toInt (by have := allR_len ks; omega)] at hx
      have := allR_len ks
      omega)] at hX
    exact lv_tableOut hF.1 hF.2.1 (tgt := dt) hd hx (by omega) (kd r9 I' hX hL (sok_t hst) hss G p l e R s0 mid args below meth c Q c0 z0 hF hc hz hQ H locs cells slots ls hH hS h1 h2 hl)
  · rw [not_or] at hx
    obtain ⟨j, hj, rfl⟩ := nI_of (x := x) (fun q => hx.1 (by simpa [Int32.lt_iff_toInt_lt] using q))
    rw [nI_toInt hj] at hx
    have hjl : j < ts.length := by omega
    obtain ⟨t, f1, f2⟩ := allR_at (d := Y) (j0 := 0) (n := j) ks (by omega) hjl
    rw [Nat.zero_add] at f2
    exact lv_tableIn hF.1 hF.2.1 (off := (t : Int) - (pc : Int)) (tgt := t) hd (by rw [nI_toInt hj]; omega) (by rw [nI_toInt hj]; omega) (by rw [nI_toInt hj]; simp [f1]) (by omega) (f2 r9 I' hX hL (sok_t hst) hss G p l e R s0 mid args below meth c Q c0 z0 hF hc hz hQ H locs cells slots ls hH hS h1 h2 hl)
end MAKE2
end
section
/-! ===== the rules as the printed methods use them ===== -/
abbrev RT : Type := Option (Option PV × Mem)
abbrev rI (v : Int32) (I : Mem) : RT := some (some (vI v), I)
abbrev rV (I : Mem) : RT := some (none, I)
abbrev rA (g i : Nat) (I : Mem) : RT := some (some (vR g i), I)
def rZ (v : Int32) (I : Mem) : RT := if v = 0 ∨ v = 1 then some (some (vI v), I) else none
def cI (Y : RT) (K : Int32 → Mem → RT) : RT := match Y with
  | some (some (.inl v), J) => K v J
  | _ => none
def cV (Y : RT) (K : Mem → RT) : RT := match Y with
  | some (none, J) => K J
  | _ => none
def cA (h : Nat) (Y : RT) (K : Nat → Mem → RT) : RT := match Y with
  | some (some (.inr (.inr (g, i))), J) => if g = h then K i J else none
  | _ => none
def FU : Nat := 20000
theorem rr_none {M : MD} {s s' pc : Nat} {L : LC} {st : List PV} {I : Mem} : RR M s s' pc L st I none := fun _ _ h => by cases h
def kI (K : Int32 → Mem → RT) : Option PV → Mem → RT := fun r J => match r with
  | some (.inl v) => K v J
  | _ => none
def kV (K : Mem → RT) : Option PV → Mem → RT := fun r J => match r with
  | none => K J
  | _ => none
def kA (h : Nat) (K : Nat → Mem → RT) : Option PV → Mem → RT := fun r J => match r with
  | some (.inr (.inr (g, i))) => if g = h then K i J else none
  | _ => none
theorem cI_bind (Y : RT) (K : Int32 → Mem → RT) : Y.bind (fun q => kI K q.1 q.2) = cI Y K := by
  rcases Y with _ | ⟨_ | v, J⟩
  · rfl
  · rfl
  · rcases v with x | x | ⟨g, i⟩ <;> rfl
theorem cV_bind (Y : RT) (K : Mem → RT) : Y.bind (fun q => kV K q.1 q.2) = cV Y K := by
  rcases Y with _ | ⟨_ | v, J⟩
  · rfl
  · rfl
  · rfl
theorem cA_bind (h : Nat) (Y : RT) (K : Nat → Mem → RT) : Y.bind (fun q => kA h K q.1 q.2) = cA h Y K := by
  rcases Y with _ | ⟨_ | v, J⟩
  · rfl
  · rfl
  · rcases v with x | x | ⟨g, i⟩ <;> rfl
theorem kI_ok {M : MD} {s s' pc : Nat} {L : LC} {rest : List PV} {K : Int32 → Mem → RT} (k : ∀ v J, RR M s s' pc L (vI v :: rest) J (K v J)) : ∀ r J, RR M s s' pc L (r.toList ++ rest) J (kI K r J) := by
  intro r J
  rcases r with _ | x | x | ⟨g, i⟩
  · exact rr_none
  · exact k x J
  · exact rr_none
  · exact rr_none
theorem kV_ok {M : MD} {s s' pc : Nat} {L : LC} {rest : List PV} {K : Mem → RT} (k : ∀ J, RR M s s' pc L rest J (K J)) : ∀ r J, RR M s s' pc L (r.toList ++ rest) J (kV K r J) := by
  intro r J
  rcases r with _ | v
  · exact k J
  · exact rr_none
theorem kA_ok {M : MD} {s s' pc h : Nat} {L : LC} {rest : List PV} {K : Nat → Mem → RT} (k : ∀ i J, RR M s s' pc L (vR h i :: rest) J (K i J)) : ∀ r J, RR M s s' pc L (r.toList ++ rest) J (kA h K r J) := by
  intro r J
  rcases r with _ | x | x | ⟨g, i⟩
  · exact rr_none
  · exact rr_none
  · exact rr_none
  · show RR M s s' pc L _ J (if g = h then K i J else none)
    split
    · next e => subst e; exact k i J
    · exact rr_none
section WR
variable {M : MD} {s1 s2 s' pc : Nat} {L : LC} {I : Mem} {st : List PV} {XN : RT}
theorem rr_cVI {K : Int32 → Mem → RT} (N : MD) (g i : Nat) (as rest : List PV) (idx : Nat) (hd : decode M.2.2.1 pc = .ok (.invokevirtual idx, 3)) (hlk : Cond.methodLink (onm M.1) idx N.2.1 ∈ wAll) (hm : mOk N 0 as.length) (hroom : roomOk N M = true) (hck : (Nat.ble (stw rest) 8 && (isObj g N.1 && ((vR g i :: as).all (fun v => !is2 (some (some v))) && Nat.ble (as.length + 1) N.2.2.2.1))) = true) (hst0 : st = as.reverse ++ vR g i :: rest) (h12 : s1 ≤ s2) (h2s : s2 ≤ s') (hN : RR N s1 s2 0 (ent N (vR g i :: as)) [] I XN) (k : ∀ v J, RR M s2 s' (pc + 3) L (vI v :: rest) J (K v J)) : RR M s1 s' pc L st I (cI XN K) := by
  rw [← cI_bind]
  exact rr_callV N g i as rest idx hd hlk hm hroom hck hst0 h12 h2s hN (fun r J _ => kI_ok k r J)
theorem rr_cVV {K : Mem → RT} (N : MD) (g i : Nat) (as rest : List PV) (idx : Nat) (hd : decode M.2.2.1 pc = .ok (.invokevirtual idx, 3)) (hlk : Cond.methodLink (onm M.1) idx N.2.1 ∈ wAll) (hm : mOk N 0 as.length) (hroom : roomOk N M = true) (hck : (Nat.ble (stw rest) 8 && (isObj g N.1 && ((vR g i :: as).all (fun v => !is2 (some (some v))) && Nat.ble (as.length + 1) N.2.2.2.1))) = true) (hst0 : st = as.reverse ++ vR g i :: rest) (h12 : s1 ≤ s2) (h2s : s2 ≤ s') (hN : RR N s1 s2 0 (ent N (vR g i :: as)) [] I XN) (k : ∀ J, RR M s2 s' (pc + 3) L rest J (K J)) : RR M s1 s' pc L st I (cV XN K) := by
  rw [← cV_bind]
  exact rr_callV N g i as rest idx hd hlk hm hroom hck hst0 h12 h2s hN (fun r J _ => kV_ok k r J)
theorem rr_cVA {K : Nat → Mem → RT} (h : Nat) (N : MD) (g i : Nat) (as rest : List PV) (idx : Nat) (hd : decode M.2.2.1 pc = .ok (.invokevirtual idx, 3)) (hlk : Cond.methodLink (onm M.1) idx N.2.1 ∈ wAll) (hm : mOk N 0 as.length) (hroom : roomOk N M = true) (hck : (Nat.ble (stw rest) 8 && (isObj g N.1 && ((vR g i :: as).all (fun v => !is2 (some (some v))) && Nat.ble (as.length + 1) N.2.2.2.1))) = true) (hst0 : st = as.reverse ++ vR g i :: rest) (h12 : s1 ≤ s2) (h2s : s2 ≤ s') (hN : RR N s1 s2 0 (ent N (vR g i :: as)) [] I XN) (k : ∀ i J, RR M s2 s' (pc + 3) L (vR h i :: rest) J (K i J)) : RR M s1 s' pc L st I (cA h XN K) := by
  rw [← cA_bind]
  exact rr_callV N g i as rest idx hd hlk hm hroom hck hst0 h12 h2s hN (fun r J _ => kA_ok k r J)
theorem rr_cSI {K : Int32 → Mem → RT} (N : MD) (as rest : List PV) (idx : Nat) (hd : decode M.2.2.1 pc = .ok (.invokestatic idx, 3)) (hlk : Cond.methodLink (onm M.1) idx N.2.1 ∈ wAll) (hm : mOk N 1 as.length) (hroom : roomOk N M = true) (hck : (Nat.ble (stw rest) 8 && (as.all (fun v => !is2 (some (some v))) && Nat.ble as.length N.2.2.2.1)) = true) (hst0 : st = as.reverse ++ rest) (h12 : s1 ≤ s2) (h2s : s2 ≤ s') (hN : RR N s1 s2 0 (ent N as) [] I XN) (k : ∀ v J, RR M s2 s' (pc + 3) L (vI v :: rest) J (K v J)) : RR M s1 s' pc L st I (cI XN K) := by
  rw [← cI_bind]
  exact rr_callS N as rest idx hd hlk hm hroom hck hst0 h12 h2s hN (fun r J _ => kI_ok k r J)
theorem rr_cSV {K : Mem → RT} (N : MD) (as rest : List PV) (idx : Nat) (hd : decode M.2.2.1 pc = .ok (.invokestatic idx, 3)) (hlk : Cond.methodLink (onm M.1) idx N.2.1 ∈ wAll) (hm : mOk N 1 as.length) (hroom : roomOk N M = true) (hck : (Nat.ble (stw rest) 8 && (as.all (fun v => !is2 (some (some v))) && Nat.ble as.length N.2.2.2.1)) = true) (hst0 : st = as.reverse ++ rest) (h12 : s1 ≤ s2) (h2s : s2 ≤ s') (hN : RR N s1 s2 0 (ent N as) [] I XN) (k : ∀ J, RR M s2 s' (pc + 3) L rest J (K J)) : RR M s1 s' pc L st I (cV XN K) := by
  rw [← cV_bind]
  exact rr_callS N as rest idx hd hlk hm hroom hck hst0 h12 h2s hN (fun r J _ => kV_ok k r J)
theorem rr_cSA {K : Nat → Mem → RT} (h : Nat) (N : MD) (as rest : List PV) (idx : Nat) (hd : decode M.2.2.1 pc = .ok (.invokestatic idx, 3)) (hlk : Cond.methodLink (onm M.1) idx N.2.1 ∈ wAll) (hm : mOk N 1 as.length) (hroom : roomOk N M = true) (hck : (Nat.ble (stw rest) 8 && (as.all (fun v => !is2 (some (some v))) && Nat.ble as.length N.2.2.2.1)) = true) (hst0 : st = as.reverse ++ rest) (h12 : s1 ≤ s2) (h2s : s2 ≤ s') (hN : RR N s1 s2 0 (ent N as) [] I XN) (k : ∀ i J, RR M s2 s' (pc + 3) L (vR h i :: rest) J (K i J)) : RR M s1 s' pc L st I (cA h XN K) := by
  rw [← cA_bind]
  exact rr_callS N as rest idx hd hlk hm hroom hck hst0 h12 h2s hN (fun r J _ => kA_ok k r J)
theorem rr_cSNI {K : Int32 → Mem → RT} (N : MD) (as rest : List PV) (idx : Nat) (hd : decode M.2.2.1 pc = .ok (.invokestatic idx, 3)) (host : String) (hlk : Cond.methodLinkNest (onm M.1) idx N.2.1 host ∈ nwW) (hm : mOk N 1 as.length) (hroom : roomOk N M = true) (hck : (Nat.ble (stw rest) 8 && (as.all (fun v => !is2 (some (some v))) && Nat.ble as.length N.2.2.2.1)) = true) (hst0 : st = as.reverse ++ rest) (h12 : s1 ≤ s2) (h2s : s2 ≤ s') (hN : RR N s1 s2 0 (ent N as) [] I XN) (k : ∀ v J, RR M s2 s' (pc + 3) L (vI v :: rest) J (K v J)) : RR M s1 s' pc L st I (cI XN K) := by
  rw [← cI_bind]
  exact rr_callSN N as rest idx hd host hlk hm hroom hck hst0 h12 h2s hN (fun r J _ => kI_ok k r J)
theorem rr_cSNV {K : Mem → RT} (N : MD) (as rest : List PV) (idx : Nat) (hd : decode M.2.2.1 pc = .ok (.invokestatic idx, 3)) (host : String) (hlk : Cond.methodLinkNest (onm M.1) idx N.2.1 host ∈ nwW) (hm : mOk N 1 as.length) (hroom : roomOk N M = true) (hck : (Nat.ble (stw rest) 8 && (as.all (fun v => !is2 (some (some v))) && Nat.ble as.length N.2.2.2.1)) = true) (hst0 : st = as.reverse ++ rest) (h12 : s1 ≤ s2) (h2s : s2 ≤ s') (hN : RR N s1 s2 0 (ent N as) [] I XN) (k : ∀ J, RR M s2 s' (pc + 3) L rest J (K J)) : RR M s1 s' pc L st I (cV XN K) := by
  rw [← cV_bind]
  exact rr_callSN N as rest idx hd host hlk hm hroom hck hst0 h12 h2s hN (fun r J _ => kV_ok k r J)
theorem rr_cSNA {K : Nat → Mem → RT} (h : Nat) (N : MD) (as rest : List PV) (idx : Nat) (hd : decode M.2.2.1 pc = .ok (.invokestatic idx, 3)) (host : String) (hlk : Cond.methodLinkNest (onm M.1) idx N.2.1 host ∈ nwW) (hm : mOk N 1 as.length) (hroom : roomOk N M = true) (hck : (Nat.ble (stw rest) 8 && (as.all (fun v => !is2 (some (some v))) && Nat.ble as.length N.2.2.2.1)) = true) (hst0 : st = as.reverse ++ rest) (h12 : s1 ≤ s2) (h2s : s2 ≤ s') (hN : RR N s1 s2 0 (ent N as) [] I XN) (k : ∀ i J, RR M s2 s' (pc + 3) L (vR h i :: rest) J (K i J)) : RR M s1 s' pc L st I (cA h XN K) := by
  rw [← cA_bind]
  exact rr_callSN N as rest idx hd host hlk hm hroom hck hst0 h12 h2s hN (fun r J _ => kA_ok k r J)
theorem rr_cIV {K : Mem → RT} (N : MD) (g i : Nat) (as rest : List PV) (idx : Nat) (hd : decode M.2.2.1 pc = .ok (.invokespecial idx, 3)) (hlk : Cond.methodLink (onm M.1) idx N.2.1 ∈ wAll) (hm : mOk N 2 as.length) (hroom : roomOk N M = true) (hck : (Nat.ble (stw rest) 8 && (isObj g N.1 && ((vR g i :: as).all (fun v => !is2 (some (some v))) && Nat.ble (as.length + 1) N.2.2.2.1))) = true) (hst0 : st = as.reverse ++ vR g i :: rest) (h12 : s1 ≤ s2) (h2s : s2 ≤ s') (hN : RR N s1 s2 0 (ent N (vR g i :: as)) [] I XN) (k : ∀ J, RR M s2 s' (pc + 3) L rest J (K J)) : RR M s1 s' pc L st I (cV XN K) := by
  rw [← cV_bind]
  exact rr_callI N g i as rest idx hd hlk hm hroom hck hst0 h12 h2s hN (fun r J _ => kV_ok k r J)
theorem rr_cINV {K : Mem → RT} (N : MD) (g i : Nat) (as rest : List PV) (idx : Nat) (hd : decode M.2.2.1 pc = .ok (.invokespecial idx, 3)) (host : String) (hlk : Cond.methodLinkNest (onm M.1) idx N.2.1 host ∈ nwW) (hm : mOk N 2 as.length) (hroom : roomOk N M = true) (hck : (Nat.ble (stw rest) 8 && (isObj g N.1 && ((vR g i :: as).all (fun v => !is2 (some (some v))) && Nat.ble (as.length + 1) N.2.2.2.1))) = true) (hst0 : st = as.reverse ++ vR g i :: rest) (h12 : s1 ≤ s2) (h2s : s2 ≤ s') (hN : RR N s1 s2 0 (ent N (vR g i :: as)) [] I XN) (k : ∀ J, RR M s2 s' (pc + 3) L rest J (K J)) : RR M s1 s' pc L st I (cV XN K) := by
  rw [← cV_bind]
  exact rr_callIN N g i as rest idx hd host hlk hm hroom hck hst0 h12 h2s hN (fun r J _ => kV_ok k r J)
variable {s : Nat} {X : RT}
theorem rr_lda {g i : Nat} {x : Int32} {K : Nat → RT} (n : Nat) (hd : decode M.2.2.1 pc = .ok (.iaload, 1)) (hg : arrT 0 g = true) (hn : aln I g = n) (k : ∀ j, RR M s s' (pc + 1) L (vI (I g i j) :: st) I (K j)) : RR M s s' pc L (vI x :: vR g i :: st) I (ix x n K) := by
  rw [← hn]; exact rr_iald hd hg k
theorem rr_ldz {g i : Nat} {x : Int32} {K : Nat → RT} (n : Nat) (hd : decode M.2.2.1 pc = .ok (.baload, 1)) (hg : arrT 1 g = true) (hn : aln I g = n) (k : ∀ j, RR M s s' (pc + 1) L (vI (I g i j) :: st) I (K j)) : RR M s s' pc L (vI x :: vR g i :: st) I (ix x n K) := by
  rw [← hn]; exact rr_zald hd hg k
theorem rr_sta {g i : Nat} {x v : Int32} {K : Nat → RT} (n : Nat) (hd : decode M.2.2.1 pc = .ok (.iastore, 1)) (hg : arrT 0 g = true) (hg1 : Nat.blt g 100 = true) (hn : aln I g = n) (k : ∀ j, RR M s s' (pc + 1) L st (mup I g i j v) (K j)) : RR M s s' pc L (vI v :: vI x :: vR g i :: st) I (ix x n K) := by
  rw [← hn]; exact rr_iast hd hg hg1 k
theorem rr_stz {g i : Nat} {x v : Int32} {K : Nat → RT} (n : Nat) (hd : decode M.2.2.1 pc = .ok (.bastore, 1)) (hg : arrT 1 g = true) (hn : aln I g = n) (k : ∀ j, RR M s s' (pc + 1) L st (mup I g i j (znar v)) (K j)) : RR M s s' pc L (vI v :: vI x :: vR g i :: st) I (ix x n K) := by
  rw [← hn]; exact rr_zast hd hg k
theorem rr_ldq {g i : Nat} {x : Int32} {K : Nat → RT} (t n h : Nat) (hd : decode M.2.2.1 pc = .ok (.aaload, 1)) (hg : skd g = some (.inr (t + 2, n))) (hh : rtg (t + 2) = h) (k : ∀ j, RR M SF SF (pc + 1) L (vR h j :: st) I (K j)) : RR M SF SF pc L (vI x :: vR g i :: st) I (ix x n K) := by
  subst hh; exact rr_aald hd hg k
theorem rr_retZ {v : Int32} (hd : decode M.2.2.1 pc = .ok (.ireturn, 1)) (hr : M.2.2.2.2.1 = some .boolean) : RR M s s pc L [vI v] I (rZ v I) := rr_zret hd hr
end WR
end
section
/-! ===== the methods: class, name, code, locals, answer, room ===== -/
def M_X7_isWithin : MD := (7, yX7_isWithin, cX7_isWithin, 3, some .boolean, 0, 0)
def M_X4_renew : MD := (4, yX4_renew, cX4_renew, 3, none, 0, 0)
def M_J7_fill_53178 : MD := (10, yJ7_fill_53178, cJ7_fill_53178, 4, none, 0, 0)
def M_X6_clearBeats : MD := (6, yX6_clearBeats, cX6_clearBeats, 1, none, 1, 23)
def M_X7_isUnder : MD := (7, yX7_isUnder, cX7_isUnder, 4, some .boolean, 0, 0)
def M_X6_meetScore : MD := (6, yX6_meetScore, cX6_meetScore, 2, none, 2, 43)
def M_X7_refuse : MD := (7, yX7_refuse, cX7_refuse, 3, some .int, 0, 0)
def M_X7_score : MD := (7, yX7_score, cX7_score, 3, some .int, 3, 64)
def M_X8_in : MD := (8, yX8_in, cX8_in, 3, some .boolean, 0, 0)
def M_X8_layNone : MD := (8, yX8_layNone, cX8_layNone, 2, none, 0, 0)
def M_X8_begin : MD := (8, yX8_begin, cX8_begin, 2, none, 1, 21)
def M_X8_isPart : MD := (8, yX8_isPart, cX8_isPart, 2, some .boolean, 0, 0)
def M_X8_answer : MD := (8, yX8_answer, cX8_answer, 2, some .int, 0, 0)
def M_X8_score : MD := (8, yX8_score, cX8_score, 3, some .int, 2, 42)
def M_X4_holds : MD := (4, yX4_holds, cX4_holds, 2, some .boolean, 0, 0)
def M_X7_changeTake : MD := (7, yX7_changeTake, cX7_changeTake, 2, none, 0, 0)
def M_X7_beat : MD := (7, yX7_beat, cX7_beat, 5, some .int, 1, 22)
def M_X8_isBeat : MD := (8, yX8_isBeat, cX8_isBeat, 2, some .boolean, 1, 22)
def M_X8_beat : MD := (8, yX8_beat, cX8_beat, 4, some .int, 2, 43)
def M_X7_isTake : MD := (7, yX7_isTake, cX7_isTake, 1, some .boolean, 1, 22)
def M_X7_isKind : MD := (7, yX7_isKind, cX7_isKind, 1, some .boolean, 1, 22)
def M_X6_begin : MD := (6, yX6_begin, cX6_begin, 5, none, 2, 43)
def M_X7_take : MD := (7, yX7_take, cX7_take, 8, some .int, 3, 67)
def M_X8_isTake : MD := (8, yX8_isTake, cX8_isTake, 1, some .boolean, 1, 22)
def M_X8_changed : MD := (8, yX8_changed, cX8_changed, 2, none, 0, 0)
def M_X8_take : MD := (8, yX8_take, cX8_take, 9, some .int, 2, 43)
def M_X7_askTake : MD := (7, yX7_askTake, cX7_askTake, 2, some .int, 2, 42)
def M_X7_tear : MD := (7, yX7_tear, cX7_tear, 3, some .int, 3, 63)
def M_X8_look : MD := (8, yX8_look, cX8_look, 2, some .int, 2, 42)
def M_X8_tear : MD := (8, yX8_tear, cX8_tear, 3, some .int, 3, 63)
def M_X6_room : MD := (6, yX6_room, cX6_room, 1, some .int, 0, 0)
def M_X6_write : MD := (6, yX6_write, cX6_write, 3, none, 0, 0)
def M_X6_append : MD := (6, yX6_append, cX6_append, 2, none, 1, 22)
def M_X7_play : MD := (7, yX7_play, cX7_play, 8, some .int, 3, 63)
def M_X8_add : MD := (8, yX8_add, cX8_add, 3, none, 0, 0)
def M_X8_play : MD := (8, yX8_play, cX8_play, 7, some .int, 2, 42)
def M_X6_soundAt : MD := (6, yX6_soundAt, cX6_soundAt, 2, some .int, 0, 0)
def M_J9_min_7cf53 : MD := (9, yJ9_min_7cf53, cJ9_min_7cf53, 2, some .int, 0, 0)
def M_J9_max_7cf53 : MD := (9, yJ9_max_7cf53, cJ9_max_7cf53, 2, some .int, 0, 0)
def M_X7_askPair : MD := (7, yX7_askPair, cX7_askPair, 3, some .int, 2, 42)
def M_X7_copy : MD := (7, yX7_copy, cX7_copy, 9, some .int, 3, 64)
def M_X8_copy : MD := (8, yX8_copy, cX8_copy, 8, some .int, 2, 42)
def M_X7_put : MD := (7, yX7_put, cX7_put, 5, some .int, 3, 63)
def M_X8_put : MD := (8, yX8_put, cX8_put, 5, some .int, 3, 63)
def M_X7_sample : MD := (7, yX7_sample, cX7_sample, 4, some .int, 3, 63)
def M_X8_sample : MD := (8, yX8_sample, cX8_sample, 4, some .int, 3, 63)
def M_X7_as : MD := (7, yX7_as, cX7_as, 4, some .int, 3, 63)
def M_X8_ends : MD := (8, yX8_ends, cX8_ends, 2, some .int, 1, 21)
def M_X8_begins : MD := (8, yX8_begins, cX8_begins, 2, some .int, 1, 21)
def M_X8_as : MD := (8, yX8_as, cX8_as, 4, some .int, 2, 42)
def M_X6_frameCount : MD := (6, yX6_frameCount, cX6_frameCount, 1, some .int, 0, 0)
def M_X6_levelAt : MD := (6, yX6_levelAt, cX6_levelAt, 6, some .int, 0, 0)
def M_X7_level : MD := (7, yX7_level, cX7_level, 4, some .int, 3, 63)
def M_X8_frameMany : MD := (8, yX8_frameMany, cX8_frameMany, 2, some .int, 0, 0)
def M_X8_levelOf : MD := (8, yX8_levelOf, cX8_levelOf, 7, some .int, 1, 21)
def M_X8_level : MD := (8, yX8_level, cX8_level, 4, some .int, 3, 63)
def M_X6_has : MD := (6, yX6_has, cX6_has, 2, some .boolean, 0, 0)
def M_X7_askTakeBeat : MD := (7, yX7_askTakeBeat, cX7_askTakeBeat, 4, some .int, 3, 63)
def M_X7_hand : MD := (7, yX7_hand, cX7_hand, 5, some .int, 4, 86)
def M_X8_has : MD := (8, yX8_has, cX8_has, 3, some .boolean, 2, 42)
def M_X8_hand : MD := (8, yX8_hand, cX8_hand, 5, some .int, 3, 64)
def M_X2_leastStart : MD := (2, yX2_leastStart, cX2_leastStart, 7, some .int, 0, 0)
def M_X2_write : MD := (2, yX2_write, cX2_write, 6, none, 0, 0)
def M_J9_abs_0f7a4 : MD := (9, yJ9_abs_0f7a4, cJ9_abs_0f7a4, 1, some .int, 0, 0)
def M_X2_leastRest : MD := (2, yX2_leastRest, cX2_leastRest, 10, some .int, 1, 20)
def M_X2_sumUp : MD := (2, yX2_sumUp, cX2_sumUp, 8, none, 2, 49)
def M_X2_place : MD := (2, yX2_place, cX2_place, 7, some .int, 3, 76)
def M_X1_cellOf : MD := (1, yX1_cellOf, cX1_cellOf, 3, some .int, 0, 0)
def M_X1_forgetTake : MD := (1, yX1_forgetTake, cX1_forgetTake, 4, none, 1, 22)
def M_X7_lay : MD := (7, yX7_lay, cX7_lay, 4, some .int, 4, 102)
def M_X8_apart : MD := (8, yX8_apart, cX8_apart, 2, some .int, 0, 0)
def M_X8_behind : MD := (8, yX8_behind, cX8_behind, 8, some .int, 2, 42)
def M_X8_reckon : MD := (8, yX8_reckon, cX8_reckon, 7, none, 3, 69)
def M_X8_lay : MD := (8, yX8_lay, cX8_lay, 10, some .int, 4, 95)
def M_X7_frame : MD := (7, yX7_frame, cX7_frame, 4, some .int, 3, 63)
def M_X8_frame : MD := (8, yX8_frame, cX8_frame, 4, some .int, 3, 64)
def M_X7_mark : MD := (7, yX7_mark, cX7_mark, 6, some .int, 3, 63)
def M_X8_mark : MD := (8, yX8_mark, cX8_mark, 6, some .int, 3, 64)
def M_X6_worthAt : MD := (6, yX6_worthAt, cX6_worthAt, 6, some .int, 1, 23)
def M_X7_worth : MD := (7, yX7_worth, cX7_worth, 4, some .int, 4, 86)
def M_X8_worthOf : MD := (8, yX8_worthOf, cX8_worthOf, 5, some .int, 0, 0)
def M_X8_worth : MD := (8, yX8_worth, cX8_worth, 4, some .int, 3, 64)
def M_X7_isSetting : MD := (7, yX7_isSetting, cX7_isSetting, 3, some .boolean, 1, 22)
def M_X7_setting : MD := (7, yX7_setting, cX7_setting, 2, some .int, 0, 0)
def M_X1_forgetAll : MD := (1, yX1_forgetAll, cX1_forgetAll, 1, none, 1, 23)
def M_X7_set : MD := (7, yX7_set, cX7_set, 4, some .int, 2, 44)
def M_X8_set : MD := (8, yX8_set, cX8_set, 4, some .int, 1, 22)
def M_X6_startOf : MD := (6, yX6_startOf, cX6_startOf, 2, some .int, 0, 0)
def M_X1_listen : MD := (1, yX1_listen, cX1_listen, 6, none, 0, 0)
def M_X1_squaresOf : MD := (1, yX1_squaresOf, cX1_squaresOf, 4, some .int, 0, 0)
def M_X1_liken : MD := (1, yX1_liken, cX1_liken, 5, some .int, 0, 0)
def M_X1_likenessBy : MD := (1, yX1_likenessBy, cX1_likenessBy, 5, some .int, 1, 25)
def M_X6_leadsTo : MD := (6, yX6_leadsTo, cX6_leadsTo, 2, some .boolean, 0, 0)
def M_X7_askJoin : MD := (7, yX7_askJoin, cX7_askJoin, 5, some .int, 3, 64)
def M_X7_like : MD := (7, yX7_like, cX7_like, 6, some .int, 4, 88)
def M_X8_lookTwo : MD := (8, yX8_lookTwo, cX8_lookTwo, 4, some .int, 3, 64)
def M_X8_frameOf : MD := (8, yX8_frameOf, cX8_frameOf, 3, some .int, 2, 42)
def M_X8_sampleOf : MD := (8, yX8_sampleOf, cX8_sampleOf, 3, some .int, 1, 22)
def M_X8_likeness : MD := (8, yX8_likeness, cX8_likeness, 16, some .int, 3, 64)
def M_X8_like : MD := (8, yX8_like, cX8_like, 6, some .int, 4, 99)
def M_X6_frameAt : MD := (6, yX6_frameAt, cX6_frameAt, 2, some .int, 0, 0)
def M_X1_measure : MD := (1, yX1_measure, cX1_measure, 13, none, 1, 25)
def M_X1_shiftAt : MD := (1, yX1_shiftAt, cX1_shiftAt, 5, some .int, 2, 57)
def M_X7_shift : MD := (7, yX7_shift, cX7_shift, 5, some .int, 4, 88)
def M_X8_shiftOf : MD := (8, yX8_shiftOf, cX8_shiftOf, 9, some .int, 4, 99)
def M_X8_shift : MD := (8, yX8_shift, cX8_shift, 5, some .int, 5, 127)
def M_X1_costAt : MD := (1, yX1_costAt, cX1_costAt, 5, some .int, 2, 57)
def M_X7_cost : MD := (7, yX7_cost, cX7_cost, 5, some .int, 4, 88)
def M_X8_costOf : MD := (8, yX8_costOf, cX8_costOf, 5, some .int, 5, 127)
def M_X8_cost : MD := (8, yX8_cost, cX8_cost, 5, some .int, 6, 151)
def M_X7_bar : MD := (7, yX7_bar, cX7_bar, 4, some .int, 1, 22)
def M_X8_bar : MD := (8, yX8_bar, cX8_bar, 4, some .int, 1, 22)
def M_X7_keep : MD := (7, yX7_keep, cX7_keep, 4, some .int, 1, 22)
def M_X8_keep : MD := (8, yX8_keep, cX8_keep, 4, some .int, 2, 43)
def M_X0_fillCells : MD := (0, yX0_fillCells, cX0_fillCells, 5, none, 0, 0)
def M_X0_cellOf : MD := (0, yX0_cellOf, cX0_cellOf, 3, some .int, 0, 0)
def M_X0_nextInOrder : MD := (0, yX0_nextInOrder, cX0_nextInOrder, 7, some .int, 1, 22)
def M_X0_merge : MD := (0, yX0_merge, cX0_merge, 8, none, 2, 48)
def M_X0_trace : MD := (0, yX0_trace, cX0_trace, 4, some .int, 0, 0)
def M_X0_fits : MD := (0, yX0_fits, cX0_fits, 3, some .boolean, 1, 21)
def M_X0_weighSteps : MD := (0, yX0_weighSteps, cX0_weighSteps, 4, none, 3, 81)
def M_X0_gainOf : MD := (0, yX0_gainOf, cX0_gainOf, 3, some .int, 2, 48)
def M_X0_findRanked : MD := (0, yX0_findRanked, cX0_findRanked, 5, some .int, 4, 104)
def M_X5_size : MD := (5, yX5_size, cX5_size, 1, some .int, 0, 0)
def M_X3_addStretch : MD := (3, yX3_addStretch, cX3_addStretch, 7, none, 3, 81)
def M_X3_follow : MD := (3, yX3_follow, cX3_follow, 5, none, 4, 107)
def M_J9_floorDiv_7cf53 : MD := (9, yJ9_floorDiv_7cf53, cJ9_floorDiv_7cf53, 3, some .int, 0, 0)
def M_X7_valueOf : MD := (7, yX7_valueOf, cX7_valueOf, 1, some .int, 1, 22)
def M_X7_adopt : MD := (7, yX7_adopt, cX7_adopt, 2, some .int, 5, 131)
def M_X7_best : MD := (7, yX7_best, cX7_best, 2, some .int, 6, 152)
def M_X8_may : MD := (8, yX8_may, cX8_may, 3, some .boolean, 3, 64)
def M_X8_findCosts : MD := (8, yX8_findCosts, cX8_findCosts, 5, none, 6, 151)
def M_X8_mayJoin : MD := (8, yX8_mayJoin, cX8_mayJoin, 4, some .boolean, 0, 0)
def M_X8_isAhead : MD := (8, yX8_isAhead, cX8_isAhead, 5, some .boolean, 0, 0)
def M_X8_enter : MD := (8, yX8_enter, cX8_enter, 10, none, 1, 24)
def M_X8_goOn : MD := (8, yX8_goOn, cX8_goOn, 8, none, 2, 53)
def M_X8_findWays : MD := (8, yX8_findWays, cX8_findWays, 5, none, 7, 175)
def M_X8_follow : MD := (8, yX8_follow, cX8_follow, 7, none, 0, 0)
def M_X8_isBefore : MD := (8, yX8_isBefore, cX8_isBefore, 3, some .boolean, 0, 0)
def M_X8_best : MD := (8, yX8_best, cX8_best, 7, some .int, 8, 199)
def M_X0_offer : MD := (0, yX0_offer, cX0_offer, 4, none, 0, 0)
def M_X0_offerSteps : MD := (0, yX0_offerSteps, cX0_offerSteps, 8, none, 3, 70)
def M_X0_findWithin : MD := (0, yX0_findWithin, cX0_findWithin, 6, some .int, 4, 104)
def M_X7_few : MD := (7, yX7_few, cX7_few, 2, some .int, 6, 152)
def M_X8_few : MD := (8, yX8_few, cX8_few, 3, some .int, 0, 0)
def M_X8_findFew : MD := (8, yX8_findFew, cX8_findFew, 10, none, 4, 86)
def M_X8_few_ : MD := (8, yX8_few_, cX8_few_, 8, some .int, 7, 175)
def M_X7_way : MD := (7, yX7_way, cX7_way, 2, some .int, 1, 22)
def M_X8_way : MD := (8, yX8_way, cX8_way, 2, some .int, 2, 43)
def M_X3_joinCount : MD := (3, yX3_joinCount, cX3_joinCount, 1, some .int, 0, 0)
def M_X7_joins : MD := (7, yX7_joins, cX7_joins, 1, some .int, 1, 22)
def M_X8_isJoin : MD := (8, yX8_isJoin, cX8_isJoin, 2, some .boolean, 0, 0)
def M_X8_joins : MD := (8, yX8_joins, cX8_joins, 3, some .int, 1, 21)
def M_X7_made : MD := (7, yX7_made, cX7_made, 1, some .int, 1, 22)
def M_X8_makeRow : MD := (8, yX8_makeRow, cX8_makeRow, 12, none, 5, 127)
def M_X8_make : MD := (8, yX8_make, cX8_make, 3, none, 6, 158)
def M_X8_made : MD := (8, yX8_made, cX8_made, 1, some .int, 7, 180)
def M_X3_stretchOf : MD := (3, yX3_stretchOf, cX3_stretchOf, 3, some (.object "TakeDesk$Stretch"), 1, 20)
def M_X5_indexOf : MD := (5, yX5_indexOf, cX5_indexOf, 2, some .int, 0, 0)
def M_X3_isInRamp : MD := (3, yX3_isInRamp, cX3_isInRamp, 3, some .boolean, 1, 21)
def M_X3_soundOf : MD := (3, yX3_soundOf, cX3_soundOf, 7, some .int, 2, 43)
def M_X7_heard : MD := (7, yX7_heard, cX7_heard, 2, some .int, 3, 69)
def M_X8_heard : MD := (8, yX8_heard, cX8_heard, 2, some .int, 7, 180)
def M_X7_from : MD := (7, yX7_from, cX7_from, 4, some .int, 2, 43)
def M_X8_from : MD := (8, yX8_from, cX8_from, 3, some .int, 7, 180)
def M_X7_tell : MD := (7, yX7_tell, cX7_tell, 2, some .int, 1, 22)
def M_X8_tell : MD := (8, yX8_tell, cX8_tell, 2, some .int, 1, 21)
def M_X7_mayStand : MD := (7, yX7_mayStand, cX7_mayStand, 3, some .boolean, 2, 43)
def M_X7_check : MD := (7, yX7_check, cX7_check, 4, some .int, 3, 81)
def M_X8_check : MD := (8, yX8_check, cX8_check, 5, some .int, 6, 151)
def M_X7_found : MD := (7, yX7_found, cX7_found, 2, some .int, 1, 22)
def M_X8_found : MD := (8, yX8_found, cX8_found, 2, some .int, 1, 22)
theorem mk_X7_isWithin : mOk M_X7_isWithin 1 3 := ⟨w_at 370 (by decide +kernel) rfl, w_at 62 (by decide +kernel) rfl, by decide +kernel, rfl, by decide +kernel, by decide +kernel, by decide +kernel, w_at 369 (by decide +kernel) rfl⟩
theorem mk_X4_renew : mOk M_X4_renew 0 1 := ⟨w_at 90 (by decide +kernel) rfl, w_at 63 (by decide +kernel) rfl, by decide +kernel, rfl, by decide +kernel, by decide +kernel, by decide +kernel, w_at 88 (by decide +kernel) rfl, w_at 89 (by decide +kernel) rfl, rfl, by decide +kernel⟩
theorem mk_J7_fill_53178 : mOk M_J7_fill_53178 1 2 := ⟨w_at 187 (by decide +kernel) rfl, w_at 66 (by decide +kernel) rfl, by decide +kernel, rfl, by decide +kernel, by decide +kernel, by decide +kernel, w_at 186 (by decide +kernel) rfl⟩
theorem mk_X6_clearBeats : mOk M_X6_clearBeats 0 0 := ⟨w_at 384 (by decide +kernel) rfl, w_at 64 (by decide +kernel) rfl, by decide +kernel, rfl, by decide +kernel, by decide +kernel, by decide +kernel, w_at 382 (by decide +kernel) rfl, w_at 383 (by decide +kernel) rfl, rfl, by decide +kernel⟩
theorem mk_X7_isUnder : mOk M_X7_isUnder 1 2 := ⟨w_at 388 (by decide +kernel) rfl, w_at 62 (by decide +kernel) rfl, by decide +kernel, rfl, by decide +kernel, by decide +kernel, by decide +kernel, w_at 387 (by decide +kernel) rfl⟩
theorem mk_X6_meetScore : mOk M_X6_meetScore 0 1 := ⟨w_at 380 (by decide +kernel) rfl, w_at 64 (by decide +kernel) rfl, by decide +kernel, rfl, by decide +kernel, by decide +kernel, by decide +kernel, w_at 378 (by decide +kernel) rfl, w_at 379 (by decide +kernel) rfl, rfl, by decide +kernel⟩
theorem mk_X7_refuse : mOk M_X7_refuse 0 1 := ⟨w_at 375 (by decide +kernel) rfl, w_at 62 (by decide +kernel) rfl, by decide +kernel, rfl, by decide +kernel, by decide +kernel, by decide +kernel, w_at 374 (by decide +kernel) rfl, w_at 0 (by decide +kernel) rfl, rfl, by decide +kernel⟩
theorem mk_X7_score : mOk M_X7_score 0 1 := ⟨w_at 367 (by decide +kernel) rfl, w_at 62 (by decide +kernel) rfl, by decide +kernel, rfl, by decide +kernel, by decide +kernel, by decide +kernel, w_at 365 (by decide +kernel) rfl, w_at 366 (by decide +kernel) rfl, rfl, by decide +kernel⟩
theorem mk_X8_in : mOk M_X8_in 1 3 := ⟨w_at 936 (by decide +kernel) rfl, w_at 71 (by decide +kernel) rfl, by decide +kernel, rfl, by decide +kernel, by decide +kernel, by decide +kernel, w_at 935 (by decide +kernel) rfl⟩
theorem mk_X8_layNone : mOk M_X8_layNone 0 0 := ⟨w_at 802 (by decide +kernel) rfl, w_at 71 (by decide +kernel) rfl, by decide +kernel, rfl, by decide +kernel, by decide +kernel, by decide +kernel, w_at 801 (by decide +kernel) rfl, w_at 27 (by decide +kernel) rfl, rfl, by decide +kernel⟩
theorem mk_X8_begin : mOk M_X8_begin 0 0 := ⟨w_at 798 (by decide +kernel) rfl, w_at 71 (by decide +kernel) rfl, by decide +kernel, rfl, by decide +kernel, by decide +kernel, by decide +kernel, w_at 797 (by decide +kernel) rfl, w_at 26 (by decide +kernel) rfl, rfl, by decide +kernel⟩
theorem mk_X8_isPart : mOk M_X8_isPart 0 1 := ⟨w_at 947 (by decide +kernel) rfl, w_at 71 (by decide +kernel) rfl, by decide +kernel, rfl, by decide +kernel, by decide +kernel, by decide +kernel, w_at 946 (by decide +kernel) rfl, w_at 29 (by decide +kernel) rfl, rfl, by decide +kernel⟩
theorem mk_X8_answer : mOk M_X8_answer 0 1 := ⟨w_at 941 (by decide +kernel) rfl, w_at 71 (by decide +kernel) rfl, by decide +kernel, rfl, by decide +kernel, by decide +kernel, by decide +kernel, w_at 940 (by decide +kernel) rfl, w_at 28 (by decide +kernel) rfl, rfl, by decide +kernel⟩
theorem mk_X8_score : mOk M_X8_score 0 1 := ⟨w_at 933 (by decide +kernel) rfl, w_at 71 (by decide +kernel) rfl, by decide +kernel, rfl, by decide +kernel, by decide +kernel, by decide +kernel, w_at 931 (by decide +kernel) rfl, w_at 932 (by decide +kernel) rfl, rfl, by decide +kernel⟩
theorem mk_X4_holds : mOk M_X4_holds 0 1 := ⟨w_at 398 (by decide +kernel) rfl, w_at 63 (by decide +kernel) rfl, by decide +kernel, rfl, by decide +kernel, by decide +kernel, by decide +kernel, w_at 396 (by decide +kernel) rfl, w_at 397 (by decide +kernel) rfl, rfl, by decide +kernel⟩
theorem mk_X7_changeTake : mOk M_X7_changeTake 0 1 := ⟨w_at 402 (by decide +kernel) rfl, w_at 62 (by decide +kernel) rfl, by decide +kernel, rfl, by decide +kernel, by decide +kernel, by decide +kernel, w_at 401 (by decide +kernel) rfl, w_at 1 (by decide +kernel) rfl, rfl, by decide +kernel⟩
theorem mk_X7_beat : mOk M_X7_beat 0 3 := ⟨w_at 394 (by decide +kernel) rfl, w_at 62 (by decide +kernel) rfl, by decide +kernel, rfl, by decide +kernel, by decide +kernel, by decide +kernel, w_at 392 (by decide +kernel) rfl, w_at 393 (by decide +kernel) rfl, rfl, by decide +kernel⟩
theorem mk_X8_isBeat : mOk M_X8_isBeat 0 1 := ⟨w_at 955 (by decide +kernel) rfl, w_at 71 (by decide +kernel) rfl, by decide +kernel, rfl, by decide +kernel, by decide +kernel, by decide +kernel, w_at 954 (by decide +kernel) rfl, w_at 30 (by decide +kernel) rfl, rfl, by decide +kernel⟩
theorem mk_X8_beat : mOk M_X8_beat 0 3 := ⟨w_at 951 (by decide +kernel) rfl, w_at 71 (by decide +kernel) rfl, by decide +kernel, rfl, by decide +kernel, by decide +kernel, by decide +kernel, w_at 949 (by decide +kernel) rfl, w_at 950 (by decide +kernel) rfl, rfl, by decide +kernel⟩
theorem mk_X7_isTake : mOk M_X7_isTake 1 1 := ⟨w_at 409 (by decide +kernel) rfl, w_at 62 (by decide +kernel) rfl, by decide +kernel, rfl, by decide +kernel, by decide +kernel, by decide +kernel, w_at 408 (by decide +kernel) rfl⟩
theorem mk_X7_isKind : mOk M_X7_isKind 1 1 := ⟨w_at 412 (by decide +kernel) rfl, w_at 62 (by decide +kernel) rfl, by decide +kernel, rfl, by decide +kernel, by decide +kernel, by decide +kernel, w_at 411 (by decide +kernel) rfl⟩
theorem mk_X6_begin : mOk M_X6_begin 0 4 := ⟨w_at 417 (by decide +kernel) rfl, w_at 64 (by decide +kernel) rfl, by decide +kernel, rfl, by decide +kernel, by decide +kernel, by decide +kernel, w_at 415 (by decide +kernel) rfl, w_at 416 (by decide +kernel) rfl, rfl, by decide +kernel⟩
theorem mk_X7_take : mOk M_X7_take 0 5 := ⟨w_at 406 (by decide +kernel) rfl, w_at 62 (by decide +kernel) rfl, by decide +kernel, rfl, by decide +kernel, by decide +kernel, by decide +kernel, w_at 404 (by decide +kernel) rfl, w_at 405 (by decide +kernel) rfl, rfl, by decide +kernel⟩
theorem mk_X8_isTake : mOk M_X8_isTake 1 1 := ⟨w_at 962 (by decide +kernel) rfl, w_at 71 (by decide +kernel) rfl, by decide +kernel, rfl, by decide +kernel, by decide +kernel, by decide +kernel, w_at 961 (by decide +kernel) rfl⟩
theorem mk_X8_changed : mOk M_X8_changed 0 1 := ⟨w_at 966 (by decide +kernel) rfl, w_at 71 (by decide +kernel) rfl, by decide +kernel, rfl, by decide +kernel, by decide +kernel, by decide +kernel, w_at 965 (by decide +kernel) rfl, w_at 31 (by decide +kernel) rfl, rfl, by decide +kernel⟩
theorem mk_X8_take : mOk M_X8_take 0 5 := ⟨w_at 959 (by decide +kernel) rfl, w_at 71 (by decide +kernel) rfl, by decide +kernel, rfl, by decide +kernel, by decide +kernel, by decide +kernel, w_at 957 (by decide +kernel) rfl, w_at 958 (by decide +kernel) rfl, rfl, by decide +kernel⟩
theorem mk_X7_askTake : mOk M_X7_askTake 0 1 := ⟨w_at 425 (by decide +kernel) rfl, w_at 62 (by decide +kernel) rfl, by decide +kernel, rfl, by decide +kernel, by decide +kernel, by decide +kernel, w_at 424 (by decide +kernel) rfl, w_at 2 (by decide +kernel) rfl, rfl, by decide +kernel⟩
theorem mk_X7_tear : mOk M_X7_tear 0 1 := ⟨w_at 421 (by decide +kernel) rfl, w_at 62 (by decide +kernel) rfl, by decide +kernel, rfl, by decide +kernel, by decide +kernel, by decide +kernel, w_at 419 (by decide +kernel) rfl, w_at 420 (by decide +kernel) rfl, rfl, by decide +kernel⟩
theorem mk_X8_look : mOk M_X8_look 0 1 := ⟨w_at 974 (by decide +kernel) rfl, w_at 71 (by decide +kernel) rfl, by decide +kernel, rfl, by decide +kernel, by decide +kernel, by decide +kernel, w_at 973 (by decide +kernel) rfl, w_at 32 (by decide +kernel) rfl, rfl, by decide +kernel⟩
theorem mk_X8_tear : mOk M_X8_tear 0 1 := ⟨w_at 970 (by decide +kernel) rfl, w_at 71 (by decide +kernel) rfl, by decide +kernel, rfl, by decide +kernel, by decide +kernel, by decide +kernel, w_at 968 (by decide +kernel) rfl, w_at 969 (by decide +kernel) rfl, rfl, by decide +kernel⟩
theorem mk_X6_room : mOk M_X6_room 0 0 := ⟨w_at 435 (by decide +kernel) rfl, w_at 64 (by decide +kernel) rfl, by decide +kernel, rfl, by decide +kernel, by decide +kernel, by decide +kernel, w_at 433 (by decide +kernel) rfl, w_at 434 (by decide +kernel) rfl, rfl, by decide +kernel⟩
theorem mk_X6_write : mOk M_X6_write 0 2 := ⟨w_at 445 (by decide +kernel) rfl, w_at 64 (by decide +kernel) rfl, by decide +kernel, rfl, by decide +kernel, by decide +kernel, by decide +kernel, w_at 443 (by decide +kernel) rfl, w_at 444 (by decide +kernel) rfl, rfl, by decide +kernel⟩
theorem mk_X6_append : mOk M_X6_append 0 1 := ⟨w_at 441 (by decide +kernel) rfl, w_at 64 (by decide +kernel) rfl, by decide +kernel, rfl, by decide +kernel, by decide +kernel, by decide +kernel, w_at 439 (by decide +kernel) rfl, w_at 440 (by decide +kernel) rfl, rfl, by decide +kernel⟩
theorem mk_X7_play : mOk M_X7_play 0 4 := ⟨w_at 430 (by decide +kernel) rfl, w_at 62 (by decide +kernel) rfl, by decide +kernel, rfl, by decide +kernel, by decide +kernel, by decide +kernel, w_at 428 (by decide +kernel) rfl, w_at 429 (by decide +kernel) rfl, rfl, by decide +kernel⟩
theorem mk_X8_add : mOk M_X8_add 0 2 := ⟨w_at 986 (by decide +kernel) rfl, w_at 71 (by decide +kernel) rfl, by decide +kernel, rfl, by decide +kernel, by decide +kernel, by decide +kernel, w_at 985 (by decide +kernel) rfl, w_at 33 (by decide +kernel) rfl, rfl, by decide +kernel⟩
theorem mk_X8_play : mOk M_X8_play 0 4 := ⟨w_at 979 (by decide +kernel) rfl, w_at 71 (by decide +kernel) rfl, by decide +kernel, rfl, by decide +kernel, by decide +kernel, by decide +kernel, w_at 977 (by decide +kernel) rfl, w_at 978 (by decide +kernel) rfl, rfl, by decide +kernel⟩
theorem mk_X6_soundAt : mOk M_X6_soundAt 0 1 := ⟨w_at 457 (by decide +kernel) rfl, w_at 64 (by decide +kernel) rfl, by decide +kernel, rfl, by decide +kernel, by decide +kernel, by decide +kernel, w_at 455 (by decide +kernel) rfl, w_at 456 (by decide +kernel) rfl, rfl, by decide +kernel⟩
theorem mk_J9_min_7cf53 : mOk M_J9_min_7cf53 1 2 := ⟨w_at 460 (by decide +kernel) rfl, w_at 72 (by decide +kernel) rfl, by decide +kernel, rfl, by decide +kernel, by decide +kernel, by decide +kernel, w_at 459 (by decide +kernel) rfl⟩
theorem mk_J9_max_7cf53 : mOk M_J9_max_7cf53 1 2 := ⟨w_at 463 (by decide +kernel) rfl, w_at 72 (by decide +kernel) rfl, by decide +kernel, rfl, by decide +kernel, by decide +kernel, by decide +kernel, w_at 462 (by decide +kernel) rfl⟩
theorem mk_X7_askPair : mOk M_X7_askPair 0 2 := ⟨w_at 453 (by decide +kernel) rfl, w_at 62 (by decide +kernel) rfl, by decide +kernel, rfl, by decide +kernel, by decide +kernel, by decide +kernel, w_at 452 (by decide +kernel) rfl, w_at 3 (by decide +kernel) rfl, rfl, by decide +kernel⟩
theorem mk_X7_copy : mOk M_X7_copy 0 5 := ⟨w_at 449 (by decide +kernel) rfl, w_at 62 (by decide +kernel) rfl, by decide +kernel, rfl, by decide +kernel, by decide +kernel, by decide +kernel, w_at 447 (by decide +kernel) rfl, w_at 448 (by decide +kernel) rfl, rfl, by decide +kernel⟩
theorem mk_X8_copy : mOk M_X8_copy 0 5 := ⟨w_at 990 (by decide +kernel) rfl, w_at 71 (by decide +kernel) rfl, by decide +kernel, rfl, by decide +kernel, by decide +kernel, by decide +kernel, w_at 988 (by decide +kernel) rfl, w_at 989 (by decide +kernel) rfl, rfl, by decide +kernel⟩
theorem mk_X7_put : mOk M_X7_put 0 3 := ⟨w_at 467 (by decide +kernel) rfl, w_at 62 (by decide +kernel) rfl, by decide +kernel, rfl, by decide +kernel, by decide +kernel, by decide +kernel, w_at 465 (by decide +kernel) rfl, w_at 466 (by decide +kernel) rfl, rfl, by decide +kernel⟩
theorem mk_X8_put : mOk M_X8_put 0 3 := ⟨w_at 996 (by decide +kernel) rfl, w_at 71 (by decide +kernel) rfl, by decide +kernel, rfl, by decide +kernel, by decide +kernel, by decide +kernel, w_at 994 (by decide +kernel) rfl, w_at 995 (by decide +kernel) rfl, rfl, by decide +kernel⟩
theorem mk_X7_sample : mOk M_X7_sample 0 2 := ⟨w_at 472 (by decide +kernel) rfl, w_at 62 (by decide +kernel) rfl, by decide +kernel, rfl, by decide +kernel, by decide +kernel, by decide +kernel, w_at 470 (by decide +kernel) rfl, w_at 471 (by decide +kernel) rfl, rfl, by decide +kernel⟩
theorem mk_X8_sample : mOk M_X8_sample 0 2 := ⟨w_at 1000 (by decide +kernel) rfl, w_at 71 (by decide +kernel) rfl, by decide +kernel, rfl, by decide +kernel, by decide +kernel, by decide +kernel, w_at 998 (by decide +kernel) rfl, w_at 999 (by decide +kernel) rfl, rfl, by decide +kernel⟩
theorem mk_X7_as : mOk M_X7_as 0 2 := ⟨w_at 476 (by decide +kernel) rfl, w_at 62 (by decide +kernel) rfl, by decide +kernel, rfl, by decide +kernel, by decide +kernel, by decide +kernel, w_at 474 (by decide +kernel) rfl, w_at 475 (by decide +kernel) rfl, rfl, by decide +kernel⟩
theorem mk_X8_ends : mOk M_X8_ends 0 1 := ⟨w_at 1008 (by decide +kernel) rfl, w_at 71 (by decide +kernel) rfl, by decide +kernel, rfl, by decide +kernel, by decide +kernel, by decide +kernel, w_at 1007 (by decide +kernel) rfl, w_at 34 (by decide +kernel) rfl, rfl, by decide +kernel⟩
theorem mk_X8_begins : mOk M_X8_begins 0 1 := ⟨w_at 1012 (by decide +kernel) rfl, w_at 71 (by decide +kernel) rfl, by decide +kernel, rfl, by decide +kernel, by decide +kernel, by decide +kernel, w_at 1011 (by decide +kernel) rfl, w_at 35 (by decide +kernel) rfl, rfl, by decide +kernel⟩
theorem mk_X8_as : mOk M_X8_as 0 2 := ⟨w_at 1004 (by decide +kernel) rfl, w_at 71 (by decide +kernel) rfl, by decide +kernel, rfl, by decide +kernel, by decide +kernel, by decide +kernel, w_at 1002 (by decide +kernel) rfl, w_at 1003 (by decide +kernel) rfl, rfl, by decide +kernel⟩
theorem mk_X6_frameCount : mOk M_X6_frameCount 0 0 := ⟨w_at 485 (by decide +kernel) rfl, w_at 64 (by decide +kernel) rfl, by decide +kernel, rfl, by decide +kernel, by decide +kernel, by decide +kernel, w_at 483 (by decide +kernel) rfl, w_at 484 (by decide +kernel) rfl, rfl, by decide +kernel⟩
theorem mk_X6_levelAt : mOk M_X6_levelAt 0 1 := ⟨w_at 489 (by decide +kernel) rfl, w_at 64 (by decide +kernel) rfl, by decide +kernel, rfl, by decide +kernel, by decide +kernel, by decide +kernel, w_at 487 (by decide +kernel) rfl, w_at 488 (by decide +kernel) rfl, rfl, by decide +kernel⟩
theorem mk_X7_level : mOk M_X7_level 0 2 := ⟨w_at 481 (by decide +kernel) rfl, w_at 62 (by decide +kernel) rfl, by decide +kernel, rfl, by decide +kernel, by decide +kernel, by decide +kernel, w_at 479 (by decide +kernel) rfl, w_at 480 (by decide +kernel) rfl, rfl, by decide +kernel⟩
theorem mk_X8_frameMany : mOk M_X8_frameMany 0 1 := ⟨w_at 1021 (by decide +kernel) rfl, w_at 71 (by decide +kernel) rfl, by decide +kernel, rfl, by decide +kernel, by decide +kernel, by decide +kernel, w_at 1020 (by decide +kernel) rfl, w_at 36 (by decide +kernel) rfl, rfl, by decide +kernel⟩
theorem mk_X8_levelOf : mOk M_X8_levelOf 0 2 := ⟨w_at 1025 (by decide +kernel) rfl, w_at 71 (by decide +kernel) rfl, by decide +kernel, rfl, by decide +kernel, by decide +kernel, by decide +kernel, w_at 1024 (by decide +kernel) rfl, w_at 37 (by decide +kernel) rfl, rfl, by decide +kernel⟩
theorem mk_X8_level : mOk M_X8_level 0 2 := ⟨w_at 1017 (by decide +kernel) rfl, w_at 71 (by decide +kernel) rfl, by decide +kernel, rfl, by decide +kernel, by decide +kernel, by decide +kernel, w_at 1015 (by decide +kernel) rfl, w_at 1016 (by decide +kernel) rfl, rfl, by decide +kernel⟩
theorem mk_X6_has : mOk M_X6_has 0 1 := ⟨w_at 501 (by decide +kernel) rfl, w_at 64 (by decide +kernel) rfl, by decide +kernel, rfl, by decide +kernel, by decide +kernel, by decide +kernel, w_at 499 (by decide +kernel) rfl, w_at 500 (by decide +kernel) rfl, rfl, by decide +kernel⟩
theorem mk_X7_askTakeBeat : mOk M_X7_askTakeBeat 0 2 := ⟨w_at 497 (by decide +kernel) rfl, w_at 62 (by decide +kernel) rfl, by decide +kernel, rfl, by decide +kernel, by decide +kernel, by decide +kernel, w_at 496 (by decide +kernel) rfl, w_at 4 (by decide +kernel) rfl, rfl, by decide +kernel⟩
theorem mk_X7_hand : mOk M_X7_hand 0 3 := ⟨w_at 493 (by decide +kernel) rfl, w_at 62 (by decide +kernel) rfl, by decide +kernel, rfl, by decide +kernel, by decide +kernel, by decide +kernel, w_at 491 (by decide +kernel) rfl, w_at 492 (by decide +kernel) rfl, rfl, by decide +kernel⟩
theorem mk_X8_has : mOk M_X8_has 0 2 := ⟨w_at 1033 (by decide +kernel) rfl, w_at 71 (by decide +kernel) rfl, by decide +kernel, rfl, by decide +kernel, by decide +kernel, by decide +kernel, w_at 1032 (by decide +kernel) rfl, w_at 38 (by decide +kernel) rfl, rfl, by decide +kernel⟩
theorem mk_X8_hand : mOk M_X8_hand 0 3 := ⟨w_at 1029 (by decide +kernel) rfl, w_at 71 (by decide +kernel) rfl, by decide +kernel, rfl, by decide +kernel, by decide +kernel, by decide +kernel, w_at 1027 (by decide +kernel) rfl, w_at 1028 (by decide +kernel) rfl, rfl, by decide +kernel⟩
theorem mk_X2_leastStart : mOk M_X2_leastStart 0 2 := ⟨w_at 527 (by decide +kernel) rfl, w_at 67 (by decide +kernel) rfl, by decide +kernel, rfl, by decide +kernel, by decide +kernel, by decide +kernel, w_at 526 (by decide +kernel) rfl, w_at 7 (by decide +kernel) rfl, rfl, by decide +kernel⟩
theorem mk_X2_write : mOk M_X2_write 0 3 := ⟨w_at 531 (by decide +kernel) rfl, w_at 67 (by decide +kernel) rfl, by decide +kernel, rfl, by decide +kernel, by decide +kernel, by decide +kernel, w_at 530 (by decide +kernel) rfl, w_at 8 (by decide +kernel) rfl, rfl, by decide +kernel⟩
theorem mk_J9_abs_0f7a4 : mOk M_J9_abs_0f7a4 1 1 := ⟨w_at 523 (by decide +kernel) rfl, w_at 72 (by decide +kernel) rfl, by decide +kernel, rfl, by decide +kernel, by decide +kernel, by decide +kernel, w_at 522 (by decide +kernel) rfl⟩
theorem mk_X2_leastRest : mOk M_X2_leastRest 0 4 := ⟨w_at 520 (by decide +kernel) rfl, w_at 67 (by decide +kernel) rfl, by decide +kernel, rfl, by decide +kernel, by decide +kernel, by decide +kernel, w_at 519 (by decide +kernel) rfl, w_at 6 (by decide +kernel) rfl, rfl, by decide +kernel⟩
theorem mk_X2_sumUp : mOk M_X2_sumUp 0 5 := ⟨w_at 516 (by decide +kernel) rfl, w_at 67 (by decide +kernel) rfl, by decide +kernel, rfl, by decide +kernel, by decide +kernel, by decide +kernel, w_at 515 (by decide +kernel) rfl, w_at 5 (by decide +kernel) rfl, rfl, by decide +kernel⟩
theorem mk_X2_place : mOk M_X2_place 0 2 := ⟨w_at 509 (by decide +kernel) rfl, w_at 67 (by decide +kernel) rfl, by decide +kernel, rfl, by decide +kernel, by decide +kernel, by decide +kernel, w_at 507 (by decide +kernel) rfl, w_at 508 (by decide +kernel) rfl, rfl, by decide +kernel⟩
theorem mk_X1_cellOf : mOk M_X1_cellOf 1 3 := ⟨w_at 539 (by decide +kernel) rfl, w_at 65 (by decide +kernel) rfl, by decide +kernel, rfl, by decide +kernel, by decide +kernel, by decide +kernel, w_at 538 (by decide +kernel) rfl⟩
theorem mk_X1_forgetTake : mOk M_X1_forgetTake 0 1 := ⟨w_at 536 (by decide +kernel) rfl, w_at 65 (by decide +kernel) rfl, by decide +kernel, rfl, by decide +kernel, by decide +kernel, by decide +kernel, w_at 534 (by decide +kernel) rfl, w_at 535 (by decide +kernel) rfl, rfl, by decide +kernel⟩
theorem mk_X7_lay : mOk M_X7_lay 0 1 := ⟨w_at 505 (by decide +kernel) rfl, w_at 62 (by decide +kernel) rfl, by decide +kernel, rfl, by decide +kernel, by decide +kernel, by decide +kernel, w_at 503 (by decide +kernel) rfl, w_at 504 (by decide +kernel) rfl, rfl, by decide +kernel⟩
theorem mk_X8_apart : mOk M_X8_apart 1 2 := ⟨w_at 1049 (by decide +kernel) rfl, w_at 71 (by decide +kernel) rfl, by decide +kernel, rfl, by decide +kernel, by decide +kernel, by decide +kernel, w_at 1048 (by decide +kernel) rfl⟩
theorem mk_X8_behind : mOk M_X8_behind 0 4 := ⟨w_at 1045 (by decide +kernel) rfl, w_at 71 (by decide +kernel) rfl, by decide +kernel, rfl, by decide +kernel, by decide +kernel, by decide +kernel, w_at 1044 (by decide +kernel) rfl, w_at 40 (by decide +kernel) rfl, rfl, by decide +kernel⟩
theorem mk_X8_reckon : mOk M_X8_reckon 0 2 := ⟨w_at 1041 (by decide +kernel) rfl, w_at 71 (by decide +kernel) rfl, by decide +kernel, rfl, by decide +kernel, by decide +kernel, by decide +kernel, w_at 1040 (by decide +kernel) rfl, w_at 39 (by decide +kernel) rfl, rfl, by decide +kernel⟩
theorem mk_X8_lay : mOk M_X8_lay 0 1 := ⟨w_at 1037 (by decide +kernel) rfl, w_at 71 (by decide +kernel) rfl, by decide +kernel, rfl, by decide +kernel, by decide +kernel, by decide +kernel, w_at 1035 (by decide +kernel) rfl, w_at 1036 (by decide +kernel) rfl, rfl, by decide +kernel⟩
theorem mk_X7_frame : mOk M_X7_frame 0 2 := ⟨w_at 543 (by decide +kernel) rfl, w_at 62 (by decide +kernel) rfl, by decide +kernel, rfl, by decide +kernel, by decide +kernel, by decide +kernel, w_at 541 (by decide +kernel) rfl, w_at 542 (by decide +kernel) rfl, rfl, by decide +kernel⟩
theorem mk_X8_frame : mOk M_X8_frame 0 2 := ⟨w_at 1053 (by decide +kernel) rfl, w_at 71 (by decide +kernel) rfl, by decide +kernel, rfl, by decide +kernel, by decide +kernel, by decide +kernel, w_at 1051 (by decide +kernel) rfl, w_at 1052 (by decide +kernel) rfl, rfl, by decide +kernel⟩
theorem mk_X7_mark : mOk M_X7_mark 0 3 := ⟨w_at 548 (by decide +kernel) rfl, w_at 62 (by decide +kernel) rfl, by decide +kernel, rfl, by decide +kernel, by decide +kernel, by decide +kernel, w_at 546 (by decide +kernel) rfl, w_at 547 (by decide +kernel) rfl, rfl, by decide +kernel⟩
theorem mk_X8_mark : mOk M_X8_mark 0 3 := ⟨w_at 1058 (by decide +kernel) rfl, w_at 71 (by decide +kernel) rfl, by decide +kernel, rfl, by decide +kernel, by decide +kernel, by decide +kernel, w_at 1056 (by decide +kernel) rfl, w_at 1057 (by decide +kernel) rfl, rfl, by decide +kernel⟩
theorem mk_X6_worthAt : mOk M_X6_worthAt 0 1 := ⟨w_at 556 (by decide +kernel) rfl, w_at 64 (by decide +kernel) rfl, by decide +kernel, rfl, by decide +kernel, by decide +kernel, by decide +kernel, w_at 554 (by decide +kernel) rfl, w_at 555 (by decide +kernel) rfl, rfl, by decide +kernel⟩
theorem mk_X7_worth : mOk M_X7_worth 0 2 := ⟨w_at 552 (by decide +kernel) rfl, w_at 62 (by decide +kernel) rfl, by decide +kernel, rfl, by decide +kernel, by decide +kernel, by decide +kernel, w_at 550 (by decide +kernel) rfl, w_at 551 (by decide +kernel) rfl, rfl, by decide +kernel⟩
theorem mk_X8_worthOf : mOk M_X8_worthOf 0 2 := ⟨w_at 1066 (by decide +kernel) rfl, w_at 71 (by decide +kernel) rfl, by decide +kernel, rfl, by decide +kernel, by decide +kernel, by decide +kernel, w_at 1065 (by decide +kernel) rfl, w_at 41 (by decide +kernel) rfl, rfl, by decide +kernel⟩
theorem mk_X8_worth : mOk M_X8_worth 0 2 := ⟨w_at 1062 (by decide +kernel) rfl, w_at 71 (by decide +kernel) rfl, by decide +kernel, rfl, by decide +kernel, by decide +kernel, by decide +kernel, w_at 1060 (by decide +kernel) rfl, w_at 1061 (by decide +kernel) rfl, rfl, by decide +kernel⟩
theorem mk_X7_isSetting : mOk M_X7_isSetting 0 2 := ⟨w_at 567 (by decide +kernel) rfl, w_at 62 (by decide +kernel) rfl, by decide +kernel, rfl, by decide +kernel, by decide +kernel, by decide +kernel, w_at 566 (by decide +kernel) rfl, w_at 9 (by decide +kernel) rfl, rfl, by decide +kernel⟩
theorem mk_X7_setting : mOk M_X7_setting 0 1 := ⟨w_at 571 (by decide +kernel) rfl, w_at 62 (by decide +kernel) rfl, by decide +kernel, rfl, by decide +kernel, by decide +kernel, by decide +kernel, w_at 570 (by decide +kernel) rfl, w_at 10 (by decide +kernel) rfl, rfl, by decide +kernel⟩
theorem mk_X1_forgetAll : mOk M_X1_forgetAll 0 0 := ⟨w_at 575 (by decide +kernel) rfl, w_at 65 (by decide +kernel) rfl, by decide +kernel, rfl, by decide +kernel, by decide +kernel, by decide +kernel, w_at 573 (by decide +kernel) rfl, w_at 574 (by decide +kernel) rfl, rfl, by decide +kernel⟩
theorem mk_X7_set : mOk M_X7_set 0 2 := ⟨w_at 563 (by decide +kernel) rfl, w_at 62 (by decide +kernel) rfl, by decide +kernel, rfl, by decide +kernel, by decide +kernel, by decide +kernel, w_at 561 (by decide +kernel) rfl, w_at 562 (by decide +kernel) rfl, rfl, by decide +kernel⟩
theorem mk_X8_set : mOk M_X8_set 0 2 := ⟨w_at 1070 (by decide +kernel) rfl, w_at 71 (by decide +kernel) rfl, by decide +kernel, rfl, by decide +kernel, by decide +kernel, by decide +kernel, w_at 1068 (by decide +kernel) rfl, w_at 1069 (by decide +kernel) rfl, rfl, by decide +kernel⟩
theorem mk_X6_startOf : mOk M_X6_startOf 0 1 := ⟨w_at 595 (by decide +kernel) rfl, w_at 64 (by decide +kernel) rfl, by decide +kernel, rfl, by decide +kernel, by decide +kernel, by decide +kernel, w_at 593 (by decide +kernel) rfl, w_at 594 (by decide +kernel) rfl, rfl, by decide +kernel⟩
theorem mk_X1_listen : mOk M_X1_listen 1 4 := ⟨w_at 598 (by decide +kernel) rfl, w_at 65 (by decide +kernel) rfl, by decide +kernel, rfl, by decide +kernel, by decide +kernel, by decide +kernel, w_at 597 (by decide +kernel) rfl⟩
theorem mk_X1_squaresOf : mOk M_X1_squaresOf 0 1 := ⟨w_at 602 (by decide +kernel) rfl, w_at 65 (by decide +kernel) rfl, by decide +kernel, rfl, by decide +kernel, by decide +kernel, by decide +kernel, w_at 601 (by decide +kernel) rfl, w_at 12 (by decide +kernel) rfl, rfl, by decide +kernel⟩
theorem mk_X1_liken : mOk M_X1_liken 0 2 := ⟨w_at 606 (by decide +kernel) rfl, w_at 65 (by decide +kernel) rfl, by decide +kernel, rfl, by decide +kernel, by decide +kernel, by decide +kernel, w_at 605 (by decide +kernel) rfl, w_at 13 (by decide +kernel) rfl, rfl, by decide +kernel⟩
theorem mk_X1_likenessBy : mOk M_X1_likenessBy 0 4 := ⟨w_at 591 (by decide +kernel) rfl, w_at 65 (by decide +kernel) rfl, by decide +kernel, rfl, by decide +kernel, by decide +kernel, by decide +kernel, w_at 589 (by decide +kernel) rfl, w_at 590 (by decide +kernel) rfl, rfl, by decide +kernel⟩
theorem mk_X6_leadsTo : mOk M_X6_leadsTo 0 1 := ⟨w_at 587 (by decide +kernel) rfl, w_at 64 (by decide +kernel) rfl, by decide +kernel, rfl, by decide +kernel, by decide +kernel, by decide +kernel, w_at 585 (by decide +kernel) rfl, w_at 586 (by decide +kernel) rfl, rfl, by decide +kernel⟩
theorem mk_X7_askJoin : mOk M_X7_askJoin 0 3 := ⟨w_at 583 (by decide +kernel) rfl, w_at 62 (by decide +kernel) rfl, by decide +kernel, rfl, by decide +kernel, by decide +kernel, by decide +kernel, w_at 582 (by decide +kernel) rfl, w_at 11 (by decide +kernel) rfl, rfl, by decide +kernel⟩
theorem mk_X7_like : mOk M_X7_like 0 4 := ⟨w_at 579 (by decide +kernel) rfl, w_at 62 (by decide +kernel) rfl, by decide +kernel, rfl, by decide +kernel, by decide +kernel, by decide +kernel, w_at 577 (by decide +kernel) rfl, w_at 578 (by decide +kernel) rfl, rfl, by decide +kernel⟩
theorem mk_X8_lookTwo : mOk M_X8_lookTwo 0 3 := ⟨w_at 1078 (by decide +kernel) rfl, w_at 71 (by decide +kernel) rfl, by decide +kernel, rfl, by decide +kernel, by decide +kernel, by decide +kernel, w_at 1077 (by decide +kernel) rfl, w_at 42 (by decide +kernel) rfl, rfl, by decide +kernel⟩
theorem mk_X8_frameOf : mOk M_X8_frameOf 0 2 := ⟨w_at 1086 (by decide +kernel) rfl, w_at 71 (by decide +kernel) rfl, by decide +kernel, rfl, by decide +kernel, by decide +kernel, by decide +kernel, w_at 1085 (by decide +kernel) rfl, w_at 44 (by decide +kernel) rfl, rfl, by decide +kernel⟩
theorem mk_X8_sampleOf : mOk M_X8_sampleOf 0 2 := ⟨w_at 1090 (by decide +kernel) rfl, w_at 71 (by decide +kernel) rfl, by decide +kernel, rfl, by decide +kernel, by decide +kernel, by decide +kernel, w_at 1089 (by decide +kernel) rfl, w_at 45 (by decide +kernel) rfl, rfl, by decide +kernel⟩
theorem mk_X8_likeness : mOk M_X8_likeness 0 4 := ⟨w_at 1082 (by decide +kernel) rfl, w_at 71 (by decide +kernel) rfl, by decide +kernel, rfl, by decide +kernel, by decide +kernel, by decide +kernel, w_at 1081 (by decide +kernel) rfl, w_at 43 (by decide +kernel) rfl, rfl, by decide +kernel⟩
theorem mk_X8_like : mOk M_X8_like 0 4 := ⟨w_at 1074 (by decide +kernel) rfl, w_at 71 (by decide +kernel) rfl, by decide +kernel, rfl, by decide +kernel, by decide +kernel, by decide +kernel, w_at 1072 (by decide +kernel) rfl, w_at 1073 (by decide +kernel) rfl, rfl, by decide +kernel⟩
theorem mk_X6_frameAt : mOk M_X6_frameAt 0 1 := ⟨w_at 623 (by decide +kernel) rfl, w_at 64 (by decide +kernel) rfl, by decide +kernel, rfl, by decide +kernel, by decide +kernel, by decide +kernel, w_at 621 (by decide +kernel) rfl, w_at 622 (by decide +kernel) rfl, rfl, by decide +kernel⟩
theorem mk_X1_measure : mOk M_X1_measure 0 3 := ⟨w_at 618 (by decide +kernel) rfl, w_at 65 (by decide +kernel) rfl, by decide +kernel, rfl, by decide +kernel, by decide +kernel, by decide +kernel, w_at 617 (by decide +kernel) rfl, w_at 14 (by decide +kernel) rfl, rfl, by decide +kernel⟩
theorem mk_X1_shiftAt : mOk M_X1_shiftAt 0 3 := ⟨w_at 614 (by decide +kernel) rfl, w_at 65 (by decide +kernel) rfl, by decide +kernel, rfl, by decide +kernel, by decide +kernel, by decide +kernel, w_at 612 (by decide +kernel) rfl, w_at 613 (by decide +kernel) rfl, rfl, by decide +kernel⟩
theorem mk_X7_shift : mOk M_X7_shift 0 3 := ⟨w_at 610 (by decide +kernel) rfl, w_at 62 (by decide +kernel) rfl, by decide +kernel, rfl, by decide +kernel, by decide +kernel, by decide +kernel, w_at 608 (by decide +kernel) rfl, w_at 609 (by decide +kernel) rfl, rfl, by decide +kernel⟩
theorem mk_X8_shiftOf : mOk M_X8_shiftOf 0 3 := ⟨w_at 1099 (by decide +kernel) rfl, w_at 71 (by decide +kernel) rfl, by decide +kernel, rfl, by decide +kernel, by decide +kernel, by decide +kernel, w_at 1098 (by decide +kernel) rfl, w_at 46 (by decide +kernel) rfl, rfl, by decide +kernel⟩
theorem mk_X8_shift : mOk M_X8_shift 0 3 := ⟨w_at 1095 (by decide +kernel) rfl, w_at 71 (by decide +kernel) rfl, by decide +kernel, rfl, by decide +kernel, by decide +kernel, by decide +kernel, w_at 1093 (by decide +kernel) rfl, w_at 1094 (by decide +kernel) rfl, rfl, by decide +kernel⟩
theorem mk_X1_costAt : mOk M_X1_costAt 0 3 := ⟨w_at 632 (by decide +kernel) rfl, w_at 65 (by decide +kernel) rfl, by decide +kernel, rfl, by decide +kernel, by decide +kernel, by decide +kernel, w_at 630 (by decide +kernel) rfl, w_at 631 (by decide +kernel) rfl, rfl, by decide +kernel⟩
theorem mk_X7_cost : mOk M_X7_cost 0 3 := ⟨w_at 628 (by decide +kernel) rfl, w_at 62 (by decide +kernel) rfl, by decide +kernel, rfl, by decide +kernel, by decide +kernel, by decide +kernel, w_at 626 (by decide +kernel) rfl, w_at 627 (by decide +kernel) rfl, rfl, by decide +kernel⟩
theorem mk_X8_costOf : mOk M_X8_costOf 0 3 := ⟨w_at 1107 (by decide +kernel) rfl, w_at 71 (by decide +kernel) rfl, by decide +kernel, rfl, by decide +kernel, by decide +kernel, by decide +kernel, w_at 1106 (by decide +kernel) rfl, w_at 47 (by decide +kernel) rfl, rfl, by decide +kernel⟩
theorem mk_X8_cost : mOk M_X8_cost 0 3 := ⟨w_at 1103 (by decide +kernel) rfl, w_at 71 (by decide +kernel) rfl, by decide +kernel, rfl, by decide +kernel, by decide +kernel, by decide +kernel, w_at 1101 (by decide +kernel) rfl, w_at 1102 (by decide +kernel) rfl, rfl, by decide +kernel⟩
theorem mk_X7_bar : mOk M_X7_bar 0 2 := ⟨w_at 636 (by decide +kernel) rfl, w_at 62 (by decide +kernel) rfl, by decide +kernel, rfl, by decide +kernel, by decide +kernel, by decide +kernel, w_at 634 (by decide +kernel) rfl, w_at 635 (by decide +kernel) rfl, rfl, by decide +kernel⟩
theorem mk_X8_bar : mOk M_X8_bar 0 2 := ⟨w_at 1111 (by decide +kernel) rfl, w_at 71 (by decide +kernel) rfl, by decide +kernel, rfl, by decide +kernel, by decide +kernel, by decide +kernel, w_at 1109 (by decide +kernel) rfl, w_at 1110 (by decide +kernel) rfl, rfl, by decide +kernel⟩
theorem mk_X7_keep : mOk M_X7_keep 0 2 := ⟨w_at 640 (by decide +kernel) rfl, w_at 62 (by decide +kernel) rfl, by decide +kernel, rfl, by decide +kernel, by decide +kernel, by decide +kernel, w_at 638 (by decide +kernel) rfl, w_at 639 (by decide +kernel) rfl, rfl, by decide +kernel⟩
theorem mk_X8_keep : mOk M_X8_keep 0 2 := ⟨w_at 1115 (by decide +kernel) rfl, w_at 71 (by decide +kernel) rfl, by decide +kernel, rfl, by decide +kernel, by decide +kernel, by decide +kernel, w_at 1113 (by decide +kernel) rfl, w_at 1114 (by decide +kernel) rfl, rfl, by decide +kernel⟩
theorem mk_X0_fillCells : mOk M_X0_fillCells 0 3 := ⟨w_at 656 (by decide +kernel) rfl, w_at 68 (by decide +kernel) rfl, by decide +kernel, rfl, by decide +kernel, by decide +kernel, by decide +kernel, w_at 655 (by decide +kernel) rfl, w_at 15 (by decide +kernel) rfl, rfl, by decide +kernel⟩
theorem mk_X0_cellOf : mOk M_X0_cellOf 1 3 := ⟨w_at 651 (by decide +kernel) rfl, w_at 68 (by decide +kernel) rfl, by decide +kernel, rfl, by decide +kernel, by decide +kernel, by decide +kernel, w_at 650 (by decide +kernel) rfl⟩
theorem mk_X0_nextInOrder : mOk M_X0_nextInOrder 0 2 := ⟨w_at 680 (by decide +kernel) rfl, w_at 68 (by decide +kernel) rfl, by decide +kernel, rfl, by decide +kernel, by decide +kernel, by decide +kernel, w_at 679 (by decide +kernel) rfl, w_at 19 (by decide +kernel) rfl, rfl, by decide +kernel⟩
theorem mk_X0_merge : mOk M_X0_merge 0 4 := ⟨w_at 675 (by decide +kernel) rfl, w_at 68 (by decide +kernel) rfl, by decide +kernel, rfl, by decide +kernel, by decide +kernel, by decide +kernel, w_at 674 (by decide +kernel) rfl, w_at 18 (by decide +kernel) rfl, rfl, by decide +kernel⟩
theorem mk_X0_trace : mOk M_X0_trace 0 1 := ⟨w_at 684 (by decide +kernel) rfl, w_at 68 (by decide +kernel) rfl, by decide +kernel, rfl, by decide +kernel, by decide +kernel, by decide +kernel, w_at 683 (by decide +kernel) rfl, w_at 20 (by decide +kernel) rfl, rfl, by decide +kernel⟩
theorem mk_X0_fits : mOk M_X0_fits 0 2 := ⟨w_at 660 (by decide +kernel) rfl, w_at 68 (by decide +kernel) rfl, by decide +kernel, rfl, by decide +kernel, by decide +kernel, by decide +kernel, w_at 658 (by decide +kernel) rfl, w_at 659 (by decide +kernel) rfl, rfl, by decide +kernel⟩
theorem mk_X0_weighSteps : mOk M_X0_weighSteps 0 2 := ⟨w_at 670 (by decide +kernel) rfl, w_at 68 (by decide +kernel) rfl, by decide +kernel, rfl, by decide +kernel, by decide +kernel, by decide +kernel, w_at 669 (by decide +kernel) rfl, w_at 17 (by decide +kernel) rfl, rfl, by decide +kernel⟩
theorem mk_X0_gainOf : mOk M_X0_gainOf 0 2 := ⟨w_at 665 (by decide +kernel) rfl, w_at 68 (by decide +kernel) rfl, by decide +kernel, rfl, by decide +kernel, by decide +kernel, by decide +kernel, w_at 664 (by decide +kernel) rfl, w_at 16 (by decide +kernel) rfl, rfl, by decide +kernel⟩
theorem mk_X0_findRanked : mOk M_X0_findRanked 0 1 := ⟨w_at 648 (by decide +kernel) rfl, w_at 68 (by decide +kernel) rfl, by decide +kernel, rfl, by decide +kernel, by decide +kernel, by decide +kernel, w_at 646 (by decide +kernel) rfl, w_at 647 (by decide +kernel) rfl, rfl, by decide +kernel⟩
theorem mk_X5_size : mOk M_X5_size 0 0 := ⟨w_at 705 (by decide +kernel) rfl, w_at 70 (by decide +kernel) rfl, by decide +kernel, rfl, by decide +kernel, by decide +kernel, by decide +kernel, w_at 703 (by decide +kernel) rfl, w_at 704 (by decide +kernel) rfl, rfl, by decide +kernel⟩
theorem mk_X3_addStretch : mOk M_X3_addStretch 0 3 := ⟨w_at 697 (by decide +kernel) rfl, w_at 69 (by decide +kernel) rfl, by decide +kernel, rfl, by decide +kernel, by decide +kernel, by decide +kernel, w_at 696 (by decide +kernel) rfl, w_at 22 (by decide +kernel) rfl, rfl, by decide +kernel⟩
theorem mk_X3_follow : mOk M_X3_follow 0 2 := ⟨w_at 693 (by decide +kernel) rfl, w_at 69 (by decide +kernel) rfl, by decide +kernel, rfl, by decide +kernel, by decide +kernel, by decide +kernel, w_at 691 (by decide +kernel) rfl, w_at 692 (by decide +kernel) rfl, rfl, by decide +kernel⟩
theorem mk_J9_floorDiv_7cf53 : mOk M_J9_floorDiv_7cf53 1 2 := ⟨w_at 711 (by decide +kernel) rfl, w_at 72 (by decide +kernel) rfl, by decide +kernel, rfl, by decide +kernel, by decide +kernel, by decide +kernel, w_at 710 (by decide +kernel) rfl⟩
theorem mk_X7_valueOf : mOk M_X7_valueOf 1 1 := ⟨w_at 708 (by decide +kernel) rfl, w_at 62 (by decide +kernel) rfl, by decide +kernel, rfl, by decide +kernel, by decide +kernel, by decide +kernel, w_at 707 (by decide +kernel) rfl⟩
theorem mk_X7_adopt : mOk M_X7_adopt 0 1 := ⟨w_at 688 (by decide +kernel) rfl, w_at 62 (by decide +kernel) rfl, by decide +kernel, rfl, by decide +kernel, by decide +kernel, by decide +kernel, w_at 687 (by decide +kernel) rfl, w_at 21 (by decide +kernel) rfl, rfl, by decide +kernel⟩
theorem mk_X7_best : mOk M_X7_best 0 1 := ⟨w_at 644 (by decide +kernel) rfl, w_at 62 (by decide +kernel) rfl, by decide +kernel, rfl, by decide +kernel, by decide +kernel, by decide +kernel, w_at 642 (by decide +kernel) rfl, w_at 643 (by decide +kernel) rfl, rfl, by decide +kernel⟩
theorem mk_X8_may : mOk M_X8_may 0 2 := ⟨w_at 1131 (by decide +kernel) rfl, w_at 71 (by decide +kernel) rfl, by decide +kernel, rfl, by decide +kernel, by decide +kernel, by decide +kernel, w_at 1130 (by decide +kernel) rfl, w_at 50 (by decide +kernel) rfl, rfl, by decide +kernel⟩
theorem mk_X8_findCosts : mOk M_X8_findCosts 0 0 := ⟨w_at 1127 (by decide +kernel) rfl, w_at 71 (by decide +kernel) rfl, by decide +kernel, rfl, by decide +kernel, by decide +kernel, by decide +kernel, w_at 1126 (by decide +kernel) rfl, w_at 49 (by decide +kernel) rfl, rfl, by decide +kernel⟩
theorem mk_X8_mayJoin : mOk M_X8_mayJoin 0 3 := ⟨w_at 1147 (by decide +kernel) rfl, w_at 71 (by decide +kernel) rfl, by decide +kernel, rfl, by decide +kernel, by decide +kernel, by decide +kernel, w_at 1146 (by decide +kernel) rfl, w_at 54 (by decide +kernel) rfl, rfl, by decide +kernel⟩
theorem mk_X8_isAhead : mOk M_X8_isAhead 0 4 := ⟨w_at 1139 (by decide +kernel) rfl, w_at 71 (by decide +kernel) rfl, by decide +kernel, rfl, by decide +kernel, by decide +kernel, by decide +kernel, w_at 1138 (by decide +kernel) rfl, w_at 52 (by decide +kernel) rfl, rfl, by decide +kernel⟩
theorem mk_X8_enter : mOk M_X8_enter 0 5 := ⟨w_at 1135 (by decide +kernel) rfl, w_at 71 (by decide +kernel) rfl, by decide +kernel, rfl, by decide +kernel, by decide +kernel, by decide +kernel, w_at 1134 (by decide +kernel) rfl, w_at 51 (by decide +kernel) rfl, rfl, by decide +kernel⟩
theorem mk_X8_goOn : mOk M_X8_goOn 0 4 := ⟨w_at 1143 (by decide +kernel) rfl, w_at 71 (by decide +kernel) rfl, by decide +kernel, rfl, by decide +kernel, by decide +kernel, by decide +kernel, w_at 1142 (by decide +kernel) rfl, w_at 53 (by decide +kernel) rfl, rfl, by decide +kernel⟩
theorem mk_X8_findWays : mOk M_X8_findWays 0 0 := ⟨w_at 1123 (by decide +kernel) rfl, w_at 71 (by decide +kernel) rfl, by decide +kernel, rfl, by decide +kernel, by decide +kernel, by decide +kernel, w_at 1122 (by decide +kernel) rfl, w_at 48 (by decide +kernel) rfl, rfl, by decide +kernel⟩
theorem mk_X8_follow : mOk M_X8_follow 0 2 := ⟨w_at 1155 (by decide +kernel) rfl, w_at 71 (by decide +kernel) rfl, by decide +kernel, rfl, by decide +kernel, by decide +kernel, by decide +kernel, w_at 1154 (by decide +kernel) rfl, w_at 56 (by decide +kernel) rfl, rfl, by decide +kernel⟩
theorem mk_X8_isBefore : mOk M_X8_isBefore 0 2 := ⟨w_at 1151 (by decide +kernel) rfl, w_at 71 (by decide +kernel) rfl, by decide +kernel, rfl, by decide +kernel, by decide +kernel, by decide +kernel, w_at 1150 (by decide +kernel) rfl, w_at 55 (by decide +kernel) rfl, rfl, by decide +kernel⟩
theorem mk_X8_best : mOk M_X8_best 0 1 := ⟨w_at 1119 (by decide +kernel) rfl, w_at 71 (by decide +kernel) rfl, by decide +kernel, rfl, by decide +kernel, by decide +kernel, by decide +kernel, w_at 1117 (by decide +kernel) rfl, w_at 1118 (by decide +kernel) rfl, rfl, by decide +kernel⟩
theorem mk_X0_offer : mOk M_X0_offer 0 3 := ⟨w_at 727 (by decide +kernel) rfl, w_at 68 (by decide +kernel) rfl, by decide +kernel, rfl, by decide +kernel, by decide +kernel, by decide +kernel, w_at 726 (by decide +kernel) rfl, w_at 24 (by decide +kernel) rfl, rfl, by decide +kernel⟩
theorem mk_X0_offerSteps : mOk M_X0_offerSteps 0 3 := ⟨w_at 723 (by decide +kernel) rfl, w_at 68 (by decide +kernel) rfl, by decide +kernel, rfl, by decide +kernel, by decide +kernel, by decide +kernel, w_at 722 (by decide +kernel) rfl, w_at 23 (by decide +kernel) rfl, rfl, by decide +kernel⟩
theorem mk_X0_findWithin : mOk M_X0_findWithin 0 1 := ⟨w_at 719 (by decide +kernel) rfl, w_at 68 (by decide +kernel) rfl, by decide +kernel, rfl, by decide +kernel, by decide +kernel, by decide +kernel, w_at 717 (by decide +kernel) rfl, w_at 718 (by decide +kernel) rfl, rfl, by decide +kernel⟩
theorem mk_X7_few : mOk M_X7_few 0 1 := ⟨w_at 715 (by decide +kernel) rfl, w_at 62 (by decide +kernel) rfl, by decide +kernel, rfl, by decide +kernel, by decide +kernel, by decide +kernel, w_at 713 (by decide +kernel) rfl, w_at 714 (by decide +kernel) rfl, rfl, by decide +kernel⟩
theorem mk_X8_few : mOk M_X8_few 1 3 := ⟨w_at 1166 (by decide +kernel) rfl, w_at 71 (by decide +kernel) rfl, by decide +kernel, rfl, by decide +kernel, by decide +kernel, by decide +kernel, w_at 1165 (by decide +kernel) rfl⟩
theorem mk_X8_findFew : mOk M_X8_findFew 0 3 := ⟨w_at 1163 (by decide +kernel) rfl, w_at 71 (by decide +kernel) rfl, by decide +kernel, rfl, by decide +kernel, by decide +kernel, by decide +kernel, w_at 1162 (by decide +kernel) rfl, w_at 57 (by decide +kernel) rfl, rfl, by decide +kernel⟩
theorem mk_X8_few_ : mOk M_X8_few_ 0 1 := ⟨w_at 1159 (by decide +kernel) rfl, w_at 71 (by decide +kernel) rfl, by decide +kernel, rfl, by decide +kernel, by decide +kernel, by decide +kernel, w_at 1157 (by decide +kernel) rfl, w_at 1158 (by decide +kernel) rfl, rfl, by decide +kernel⟩
theorem mk_X7_way : mOk M_X7_way 0 1 := ⟨w_at 731 (by decide +kernel) rfl, w_at 62 (by decide +kernel) rfl, by decide +kernel, rfl, by decide +kernel, by decide +kernel, by decide +kernel, w_at 729 (by decide +kernel) rfl, w_at 730 (by decide +kernel) rfl, rfl, by decide +kernel⟩
theorem mk_X8_way : mOk M_X8_way 0 1 := ⟨w_at 1170 (by decide +kernel) rfl, w_at 71 (by decide +kernel) rfl, by decide +kernel, rfl, by decide +kernel, by decide +kernel, by decide +kernel, w_at 1168 (by decide +kernel) rfl, w_at 1169 (by decide +kernel) rfl, rfl, by decide +kernel⟩
theorem mk_X3_joinCount : mOk M_X3_joinCount 0 0 := ⟨w_at 739 (by decide +kernel) rfl, w_at 69 (by decide +kernel) rfl, by decide +kernel, rfl, by decide +kernel, by decide +kernel, by decide +kernel, w_at 737 (by decide +kernel) rfl, w_at 738 (by decide +kernel) rfl, rfl, by decide +kernel⟩
theorem mk_X7_joins : mOk M_X7_joins 0 0 := ⟨w_at 735 (by decide +kernel) rfl, w_at 62 (by decide +kernel) rfl, by decide +kernel, rfl, by decide +kernel, by decide +kernel, by decide +kernel, w_at 733 (by decide +kernel) rfl, w_at 734 (by decide +kernel) rfl, rfl, by decide +kernel⟩
theorem mk_X8_isJoin : mOk M_X8_isJoin 0 1 := ⟨w_at 1178 (by decide +kernel) rfl, w_at 71 (by decide +kernel) rfl, by decide +kernel, rfl, by decide +kernel, by decide +kernel, by decide +kernel, w_at 1177 (by decide +kernel) rfl, w_at 58 (by decide +kernel) rfl, rfl, by decide +kernel⟩
theorem mk_X8_joins : mOk M_X8_joins 0 0 := ⟨w_at 1174 (by decide +kernel) rfl, w_at 71 (by decide +kernel) rfl, by decide +kernel, rfl, by decide +kernel, by decide +kernel, by decide +kernel, w_at 1172 (by decide +kernel) rfl, w_at 1173 (by decide +kernel) rfl, rfl, by decide +kernel⟩
theorem mk_X7_made : mOk M_X7_made 0 0 := ⟨w_at 743 (by decide +kernel) rfl, w_at 62 (by decide +kernel) rfl, by decide +kernel, rfl, by decide +kernel, by decide +kernel, by decide +kernel, w_at 741 (by decide +kernel) rfl, w_at 742 (by decide +kernel) rfl, rfl, by decide +kernel⟩
theorem mk_X8_makeRow : mOk M_X8_makeRow 0 2 := ⟨w_at 1190 (by decide +kernel) rfl, w_at 71 (by decide +kernel) rfl, by decide +kernel, rfl, by decide +kernel, by decide +kernel, by decide +kernel, w_at 1189 (by decide +kernel) rfl, w_at 60 (by decide +kernel) rfl, rfl, by decide +kernel⟩
theorem mk_X8_make : mOk M_X8_make 0 0 := ⟨w_at 1186 (by decide +kernel) rfl, w_at 71 (by decide +kernel) rfl, by decide +kernel, rfl, by decide +kernel, by decide +kernel, by decide +kernel, w_at 1185 (by decide +kernel) rfl, w_at 59 (by decide +kernel) rfl, rfl, by decide +kernel⟩
theorem mk_X8_made : mOk M_X8_made 0 0 := ⟨w_at 1182 (by decide +kernel) rfl, w_at 71 (by decide +kernel) rfl, by decide +kernel, rfl, by decide +kernel, by decide +kernel, by decide +kernel, w_at 1180 (by decide +kernel) rfl, w_at 1181 (by decide +kernel) rfl, rfl, by decide +kernel⟩
theorem mk_X3_stretchOf : mOk M_X3_stretchOf 0 1 := ⟨w_at 751 (by decide +kernel) rfl, w_at 69 (by decide +kernel) rfl, by decide +kernel, rfl, by decide +kernel, by decide +kernel, by decide +kernel, w_at 749 (by decide +kernel) rfl, w_at 750 (by decide +kernel) rfl, rfl, by decide +kernel⟩
theorem mk_X5_indexOf : mOk M_X5_indexOf 0 1 := ⟨w_at 759 (by decide +kernel) rfl, w_at 70 (by decide +kernel) rfl, by decide +kernel, rfl, by decide +kernel, by decide +kernel, by decide +kernel, w_at 757 (by decide +kernel) rfl, w_at 758 (by decide +kernel) rfl, rfl, by decide +kernel⟩
theorem mk_X3_isInRamp : mOk M_X3_isInRamp 0 2 := ⟨w_at 764 (by decide +kernel) rfl, w_at 69 (by decide +kernel) rfl, by decide +kernel, rfl, by decide +kernel, by decide +kernel, by decide +kernel, w_at 762 (by decide +kernel) rfl, w_at 763 (by decide +kernel) rfl, rfl, by decide +kernel⟩
theorem mk_X3_soundOf : mOk M_X3_soundOf 0 2 := ⟨w_at 755 (by decide +kernel) rfl, w_at 69 (by decide +kernel) rfl, by decide +kernel, rfl, by decide +kernel, by decide +kernel, by decide +kernel, w_at 753 (by decide +kernel) rfl, w_at 754 (by decide +kernel) rfl, rfl, by decide +kernel⟩
theorem mk_X7_heard : mOk M_X7_heard 0 1 := ⟨w_at 747 (by decide +kernel) rfl, w_at 62 (by decide +kernel) rfl, by decide +kernel, rfl, by decide +kernel, by decide +kernel, by decide +kernel, w_at 745 (by decide +kernel) rfl, w_at 746 (by decide +kernel) rfl, rfl, by decide +kernel⟩
theorem mk_X8_heard : mOk M_X8_heard 0 1 := ⟨w_at 1195 (by decide +kernel) rfl, w_at 71 (by decide +kernel) rfl, by decide +kernel, rfl, by decide +kernel, by decide +kernel, by decide +kernel, w_at 1193 (by decide +kernel) rfl, w_at 1194 (by decide +kernel) rfl, rfl, by decide +kernel⟩
theorem mk_X7_from : mOk M_X7_from 0 2 := ⟨w_at 769 (by decide +kernel) rfl, w_at 62 (by decide +kernel) rfl, by decide +kernel, rfl, by decide +kernel, by decide +kernel, by decide +kernel, w_at 767 (by decide +kernel) rfl, w_at 768 (by decide +kernel) rfl, rfl, by decide +kernel⟩
theorem mk_X8_from : mOk M_X8_from 0 2 := ⟨w_at 1199 (by decide +kernel) rfl, w_at 71 (by decide +kernel) rfl, by decide +kernel, rfl, by decide +kernel, by decide +kernel, by decide +kernel, w_at 1197 (by decide +kernel) rfl, w_at 1198 (by decide +kernel) rfl, rfl, by decide +kernel⟩
theorem mk_X7_tell : mOk M_X7_tell 0 1 := ⟨w_at 775 (by decide +kernel) rfl, w_at 62 (by decide +kernel) rfl, by decide +kernel, rfl, by decide +kernel, by decide +kernel, by decide +kernel, w_at 773 (by decide +kernel) rfl, w_at 774 (by decide +kernel) rfl, rfl, by decide +kernel⟩
theorem mk_X8_tell : mOk M_X8_tell 0 1 := ⟨w_at 1203 (by decide +kernel) rfl, w_at 71 (by decide +kernel) rfl, by decide +kernel, rfl, by decide +kernel, by decide +kernel, by decide +kernel, w_at 1201 (by decide +kernel) rfl, w_at 1202 (by decide +kernel) rfl, rfl, by decide +kernel⟩
theorem mk_X7_mayStand : mOk M_X7_mayStand 0 1 := ⟨w_at 783 (by decide +kernel) rfl, w_at 62 (by decide +kernel) rfl, by decide +kernel, rfl, by decide +kernel, by decide +kernel, by decide +kernel, w_at 782 (by decide +kernel) rfl, w_at 25 (by decide +kernel) rfl, rfl, by decide +kernel⟩
theorem mk_X7_check : mOk M_X7_check 0 0 := ⟨w_at 779 (by decide +kernel) rfl, w_at 62 (by decide +kernel) rfl, by decide +kernel, rfl, by decide +kernel, by decide +kernel, by decide +kernel, w_at 777 (by decide +kernel) rfl, w_at 778 (by decide +kernel) rfl, rfl, by decide +kernel⟩
theorem mk_X8_check : mOk M_X8_check 0 0 := ⟨w_at 1207 (by decide +kernel) rfl, w_at 71 (by decide +kernel) rfl, by decide +kernel, rfl, by decide +kernel, by decide +kernel, by decide +kernel, w_at 1205 (by decide +kernel) rfl, w_at 1206 (by decide +kernel) rfl, rfl, by decide +kernel⟩
theorem mk_X7_found : mOk M_X7_found 0 1 := ⟨w_at 788 (by decide +kernel) rfl, w_at 62 (by decide +kernel) rfl, by decide +kernel, rfl, by decide +kernel, by decide +kernel, by decide +kernel, w_at 786 (by decide +kernel) rfl, w_at 787 (by decide +kernel) rfl, rfl, by decide +kernel⟩
theorem mk_X8_found : mOk M_X8_found 0 1 := ⟨w_at 1211 (by decide +kernel) rfl, w_at 71 (by decide +kernel) rfl, by decide +kernel, rfl, by decide +kernel, by decide +kernel, by decide +kernel, w_at 1209 (by decide +kernel) rfl, w_at 1210 (by decide +kernel) rfl, rfl, by decide +kernel⟩
theorem lk_0_48 : Cond.methodLink (onm 0) 48 M_X6_has.2.1 ∈ wAll := w_at 661 (by decide +kernel) rfl
theorem lk_0_61 : Cond.methodLink (onm 0) 61 M_X0_cellOf.2.1 ∈ wAll := w_at 649 (by decide +kernel) rfl
theorem lk_0_66 : Cond.methodLink (onm 0) 66 M_X0_fillCells.2.1 ∈ wAll := w_at 653 (by decide +kernel) rfl
theorem lk_0_70 : Cond.methodLink (onm 0) 70 M_X0_fits.2.1 ∈ wAll := w_at 657 (by decide +kernel) rfl
theorem lk_0_74 : Cond.methodLink (onm 0) 74 M_X0_gainOf.2.1 ∈ wAll := w_at 662 (by decide +kernel) rfl
theorem lk_0_78 : Cond.methodLink (onm 0) 78 M_X0_weighSteps.2.1 ∈ wAll := w_at 667 (by decide +kernel) rfl
theorem lk_0_82 : Cond.methodLink (onm 0) 82 M_X0_merge.2.1 ∈ wAll := w_at 672 (by decide +kernel) rfl
theorem lk_0_86 : Cond.methodLink (onm 0) 86 M_J7_fill_53178.2.1 ∈ wAll := w_at 676 (by decide +kernel) rfl
theorem lk_0_92 : Cond.methodLink (onm 0) 92 M_X0_trace.2.1 ∈ wAll := w_at 681 (by decide +kernel) rfl
theorem lk_0_96 : Cond.methodLink (onm 0) 96 M_X0_nextInOrder.2.1 ∈ wAll := w_at 677 (by decide +kernel) rfl
theorem lk_0_99 : Cond.methodLink (onm 0) 99 M_X0_offerSteps.2.1 ∈ wAll := w_at 720 (by decide +kernel) rfl
theorem lk_0_102 : Cond.methodLink (onm 0) 102 M_X0_offer.2.1 ∈ wAll := w_at 724 (by decide +kernel) rfl
theorem lk_0_105 : Cond.methodLink (onm 0) 105 M_X6_worthAt.2.1 ∈ wAll := w_at 666 (by decide +kernel) rfl
theorem lk_0_112 : Cond.methodLink (onm 0) 112 M_X1_costAt.2.1 ∈ wAll := w_at 671 (by decide +kernel) rfl
theorem lk_1_38 : Cond.methodLink (onm 1) 38 M_J7_fill_53178.2.1 ∈ wAll := w_at 185 (by decide +kernel) rfl
theorem lk_1_44 : Cond.methodLink (onm 1) 44 M_X1_cellOf.2.1 ∈ wAll := w_at 537 (by decide +kernel) rfl
theorem lk_1_48 : Cond.methodLink (onm 1) 48 M_X6_startOf.2.1 ∈ wAll := w_at 592 (by decide +kernel) rfl
theorem lk_1_54 : Cond.methodLink (onm 1) 54 M_X1_listen.2.1 ∈ wAll := w_at 596 (by decide +kernel) rfl
theorem lk_1_58 : Cond.methodLink (onm 1) 58 M_X1_squaresOf.2.1 ∈ wAll := w_at 599 (by decide +kernel) rfl
theorem lk_1_62 : Cond.methodLink (onm 1) 62 M_X1_liken.2.1 ∈ wAll := w_at 603 (by decide +kernel) rfl
theorem lk_1_66 : Cond.methodLink (onm 1) 66 M_X1_measure.2.1 ∈ wAll := w_at 615 (by decide +kernel) rfl
theorem lk_1_70 : Cond.methodLink (onm 1) 70 M_J9_abs_0f7a4.2.1 ∈ wAll := w_at 619 (by decide +kernel) rfl
theorem lk_1_75 : Cond.methodLink (onm 1) 75 M_X6_frameAt.2.1 ∈ wAll := w_at 620 (by decide +kernel) rfl
theorem lk_1_78 : Cond.methodLink (onm 1) 78 M_X6_levelAt.2.1 ∈ wAll := w_at 624 (by decide +kernel) rfl
theorem lk_2_21 : Cond.methodLink (onm 2) 21 M_X6_frameCount.2.1 ∈ wAll := w_at 510 (by decide +kernel) rfl
theorem lk_2_27 : Cond.methodLink (onm 2) 27 M_J9_min_7cf53.2.1 ∈ wAll := w_at 511 (by decide +kernel) rfl
theorem lk_2_33 : Cond.methodLink (onm 2) 33 M_X6_levelAt.2.1 ∈ wAll := w_at 512 (by decide +kernel) rfl
theorem lk_2_44 : Cond.methodLink (onm 2) 44 M_X2_sumUp.2.1 ∈ wAll := w_at 513 (by decide +kernel) rfl
theorem lk_2_48 : Cond.methodLink (onm 2) 48 M_X2_leastStart.2.1 ∈ wAll := w_at 524 (by decide +kernel) rfl
theorem lk_2_51 : Cond.methodLink (onm 2) 51 M_X2_write.2.1 ∈ wAll := w_at 528 (by decide +kernel) rfl
theorem lk_2_63 : Cond.methodLink (onm 2) 63 M_X2_leastRest.2.1 ∈ wAll := w_at 517 (by decide +kernel) rfl
theorem lk_2_70 : Cond.methodLink (onm 2) 70 M_J9_abs_0f7a4.2.1 ∈ wAll := w_at 521 (by decide +kernel) rfl
theorem lk_3_40 : Cond.methodLink (onm 3) 40 M_X3_addStretch.2.1 ∈ wAll := w_at 694 (by decide +kernel) rfl
theorem lk_3_60 : Cond.methodLink (onm 3) 60 M_X6_startOf.2.1 ∈ wAll := w_at 698 (by decide +kernel) rfl
theorem lk_3_69 : Cond.methodLink (onm 3) 69 M_X1_shiftAt.2.1 ∈ wAll := w_at 699 (by decide +kernel) rfl
theorem lk_3_78 : Cond.methodLink (onm 3) 78 M_J9_max_7cf53.2.1 ∈ wAll := w_at 700 (by decide +kernel) rfl
theorem lk_3_87 : Cond.methodLink (onm 3) 87 M_J9_min_7cf53.2.1 ∈ wAll := w_at 701 (by decide +kernel) rfl
theorem lk_3_96 : Cond.methodLink (onm 3) 96 M_X5_size.2.1 ∈ wAll := w_at 702 (by decide +kernel) rfl
theorem lk_3_100 : Cond.methodLink (onm 3) 100 M_X5_indexOf.2.1 ∈ wAll := w_at 756 (by decide +kernel) rfl
theorem lk_3_103 : Cond.methodLink (onm 3) 103 M_X6_soundAt.2.1 ∈ wAll := w_at 760 (by decide +kernel) rfl
theorem lk_3_106 : Cond.methodLink (onm 3) 106 M_X3_isInRamp.2.1 ∈ wAll := w_at 761 (by decide +kernel) rfl
theorem lk_3_110 : Cond.methodLink (onm 3) 110 M_J9_floorDiv_7cf53.2.1 ∈ wAll := w_at 765 (by decide +kernel) rfl
theorem lk_6_44 : Cond.methodLink (onm 6) 44 M_X6_clearBeats.2.1 ∈ wAll := w_at 381 (by decide +kernel) rfl
theorem lk_6_50 : Cond.methodLink (onm 6) 50 M_J7_fill_53178.2.1 ∈ wAll := w_at 385 (by decide +kernel) rfl
theorem lk_6_56 : Cond.methodLinkNest (onm 6) 56 M_X7_isUnder.2.1 "TakeDesk" ∈ nwW := by decide +kernel
theorem lk_6_60 : Cond.methodLink (onm 6) 60 M_X6_write.2.1 ∈ wAll := w_at 442 (by decide +kernel) rfl
theorem lk_6_64 : Cond.methodLink (onm 6) 64 M_X6_has.2.1 ∈ wAll := w_at 557 (by decide +kernel) rfl
theorem lk_7_68 : Cond.methodLink (onm 7) 68 M_X7_isWithin.2.1 ∈ wAll := w_at 368 (by decide +kernel) rfl
theorem lk_7_73 : Cond.methodLink (onm 7) 73 M_X7_refuse.2.1 ∈ wAll := w_at 372 (by decide +kernel) rfl
theorem lk_7_77 : Cond.methodLink (onm 7) 77 M_X4_renew.2.1 ∈ wAll := w_at 376 (by decide +kernel) rfl
theorem lk_7_81 : Cond.methodLink (onm 7) 81 M_X6_meetScore.2.1 ∈ wAll := w_at 377 (by decide +kernel) rfl
theorem lk_7_88 : Cond.methodLink (onm 7) 88 M_X4_holds.2.1 ∈ wAll := w_at 395 (by decide +kernel) rfl
theorem lk_7_98 : Cond.methodLink (onm 7) 98 M_X7_changeTake.2.1 ∈ wAll := w_at 399 (by decide +kernel) rfl
theorem lk_7_101 : Cond.methodLink (onm 7) 101 M_X7_isTake.2.1 ∈ wAll := w_at 407 (by decide +kernel) rfl
theorem lk_7_104 : Cond.methodLink (onm 7) 104 M_X7_isKind.2.1 ∈ wAll := w_at 410 (by decide +kernel) rfl
theorem lk_7_107 : Cond.methodLink (onm 7) 107 M_X7_isUnder.2.1 ∈ wAll := w_at 413 (by decide +kernel) rfl
theorem lk_7_114 : Cond.methodLink (onm 7) 114 M_X6_begin.2.1 ∈ wAll := w_at 414 (by decide +kernel) rfl
theorem lk_7_118 : Cond.methodLink (onm 7) 118 M_X7_askTake.2.1 ∈ wAll := w_at 422 (by decide +kernel) rfl
theorem lk_7_125 : Cond.methodLink (onm 7) 125 M_X6_room.2.1 ∈ wAll := w_at 432 (by decide +kernel) rfl
theorem lk_7_131 : Cond.methodLink (onm 7) 131 M_X6_append.2.1 ∈ wAll := w_at 438 (by decide +kernel) rfl
theorem lk_7_137 : Cond.methodLink (onm 7) 137 M_X7_askPair.2.1 ∈ wAll := w_at 450 (by decide +kernel) rfl
theorem lk_7_141 : Cond.methodLink (onm 7) 141 M_X6_soundAt.2.1 ∈ wAll := w_at 454 (by decide +kernel) rfl
theorem lk_7_144 : Cond.methodLink (onm 7) 144 M_J9_min_7cf53.2.1 ∈ wAll := w_at 458 (by decide +kernel) rfl
theorem lk_7_149 : Cond.methodLink (onm 7) 149 M_J9_max_7cf53.2.1 ∈ wAll := w_at 461 (by decide +kernel) rfl
theorem lk_7_152 : Cond.methodLink (onm 7) 152 M_X6_write.2.1 ∈ wAll := w_at 468 (by decide +kernel) rfl
theorem lk_7_166 : Cond.methodLink (onm 7) 166 M_X6_frameCount.2.1 ∈ wAll := w_at 482 (by decide +kernel) rfl
theorem lk_7_169 : Cond.methodLink (onm 7) 169 M_X6_levelAt.2.1 ∈ wAll := w_at 486 (by decide +kernel) rfl
theorem lk_7_172 : Cond.methodLink (onm 7) 172 M_X7_askTakeBeat.2.1 ∈ wAll := w_at 494 (by decide +kernel) rfl
theorem lk_7_178 : Cond.methodLink (onm 7) 178 M_X2_place.2.1 ∈ wAll := w_at 506 (by decide +kernel) rfl
theorem lk_7_183 : Cond.methodLink (onm 7) 183 M_X1_forgetTake.2.1 ∈ wAll := w_at 533 (by decide +kernel) rfl
theorem lk_7_190 : Cond.methodLink (onm 7) 190 M_X6_has.2.1 ∈ wAll := w_at 498 (by decide +kernel) rfl
theorem lk_7_199 : Cond.methodLink (onm 7) 199 M_X6_worthAt.2.1 ∈ wAll := w_at 553 (by decide +kernel) rfl
theorem lk_7_202 : Cond.methodLink (onm 7) 202 M_X7_isSetting.2.1 ∈ wAll := w_at 564 (by decide +kernel) rfl
theorem lk_7_205 : Cond.methodLink (onm 7) 205 M_X7_setting.2.1 ∈ wAll := w_at 568 (by decide +kernel) rfl
theorem lk_7_211 : Cond.methodLink (onm 7) 211 M_X1_forgetAll.2.1 ∈ wAll := w_at 572 (by decide +kernel) rfl
theorem lk_7_223 : Cond.methodLink (onm 7) 223 M_X7_askJoin.2.1 ∈ wAll := w_at 580 (by decide +kernel) rfl
theorem lk_7_227 : Cond.methodLink (onm 7) 227 M_X1_likenessBy.2.1 ∈ wAll := w_at 588 (by decide +kernel) rfl
theorem lk_7_231 : Cond.methodLink (onm 7) 231 M_X1_shiftAt.2.1 ∈ wAll := w_at 611 (by decide +kernel) rfl
theorem lk_7_234 : Cond.methodLink (onm 7) 234 M_X1_costAt.2.1 ∈ wAll := w_at 629 (by decide +kernel) rfl
theorem lk_7_244 : Cond.methodLink (onm 7) 244 M_X0_findRanked.2.1 ∈ wAll := w_at 645 (by decide +kernel) rfl
theorem lk_7_247 : Cond.methodLink (onm 7) 247 M_X7_adopt.2.1 ∈ wAll := w_at 685 (by decide +kernel) rfl
theorem lk_7_250 : Cond.methodLink (onm 7) 250 M_X0_findWithin.2.1 ∈ wAll := w_at 716 (by decide +kernel) rfl
theorem lk_7_256 : Cond.methodLink (onm 7) 256 M_X3_joinCount.2.1 ∈ wAll := w_at 736 (by decide +kernel) rfl
theorem lk_7_262 : Cond.methodLink (onm 7) 262 M_X3_stretchOf.2.1 ∈ wAll := w_at 748 (by decide +kernel) rfl
theorem lk_7_266 : Cond.methodLink (onm 7) 266 M_X3_soundOf.2.1 ∈ wAll := w_at 752 (by decide +kernel) rfl
theorem lk_7_275 : Cond.methodLink (onm 7) 275 M_X5_indexOf.2.1 ∈ wAll := w_at 770 (by decide +kernel) rfl
theorem lk_7_281 : Cond.methodLink (onm 7) 281 M_X3_isInRamp.2.1 ∈ wAll := w_at 771 (by decide +kernel) rfl
theorem lk_7_285 : Cond.methodLink (onm 7) 285 M_X7_mayStand.2.1 ∈ wAll := w_at 780 (by decide +kernel) rfl
theorem lk_7_289 : Cond.methodLink (onm 7) 289 M_X6_leadsTo.2.1 ∈ wAll := w_at 584 (by decide +kernel) rfl
theorem lk_7_292 : Cond.methodLink (onm 7) 292 M_X0_fits.2.1 ∈ wAll := w_at 784 (by decide +kernel) rfl
theorem lk_7_299 : Cond.methodLink (onm 7) 299 M_X3_follow.2.1 ∈ wAll := w_at 690 (by decide +kernel) rfl
theorem lk_7_303 : Cond.methodLink (onm 7) 303 M_X7_valueOf.2.1 ∈ wAll := w_at 706 (by decide +kernel) rfl
theorem lk_7_306 : Cond.methodLink (onm 7) 306 M_J9_floorDiv_7cf53.2.1 ∈ wAll := w_at 709 (by decide +kernel) rfl
theorem lk_8_129 : Cond.methodLink (onm 8) 129 M_X8_begin.2.1 ∈ wAll := w_at 795 (by decide +kernel) rfl
theorem lk_8_135 : Cond.methodLink (onm 8) 135 M_X8_layNone.2.1 ∈ wAll := w_at 799 (by decide +kernel) rfl
theorem lk_8_142 : Cond.methodLink (onm 8) 142 M_X8_in.2.1 ∈ wAll := w_at 934 (by decide +kernel) rfl
theorem lk_8_146 : Cond.methodLink (onm 8) 146 M_X8_answer.2.1 ∈ wAll := w_at 938 (by decide +kernel) rfl
theorem lk_8_150 : Cond.methodLink (onm 8) 150 M_X8_isPart.2.1 ∈ wAll := w_at 944 (by decide +kernel) rfl
theorem lk_8_154 : Cond.methodLink (onm 8) 154 M_X8_isBeat.2.1 ∈ wAll := w_at 952 (by decide +kernel) rfl
theorem lk_8_157 : Cond.methodLink (onm 8) 157 M_X8_begins.2.1 ∈ wAll := w_at 1009 (by decide +kernel) rfl
theorem lk_8_160 : Cond.methodLink (onm 8) 160 M_X8_ends.2.1 ∈ wAll := w_at 1005 (by decide +kernel) rfl
theorem lk_8_163 : Cond.methodLink (onm 8) 163 M_X8_isTake.2.1 ∈ wAll := w_at 960 (by decide +kernel) rfl
theorem lk_8_167 : Cond.methodLink (onm 8) 167 M_X8_changed.2.1 ∈ wAll := w_at 963 (by decide +kernel) rfl
theorem lk_8_171 : Cond.methodLink (onm 8) 171 M_X8_look.2.1 ∈ wAll := w_at 971 (by decide +kernel) rfl
theorem lk_8_177 : Cond.methodLink (onm 8) 177 M_X8_add.2.1 ∈ wAll := w_at 983 (by decide +kernel) rfl
theorem lk_8_181 : Cond.methodLink (onm 8) 181 M_J9_min_7cf53.2.1 ∈ wAll := w_at 991 (by decide +kernel) rfl
theorem lk_8_187 : Cond.methodLink (onm 8) 187 M_J9_max_7cf53.2.1 ∈ wAll := w_at 992 (by decide +kernel) rfl
theorem lk_8_191 : Cond.methodLink (onm 8) 191 M_X8_frameMany.2.1 ∈ wAll := w_at 1018 (by decide +kernel) rfl
theorem lk_8_194 : Cond.methodLink (onm 8) 194 M_X8_levelOf.2.1 ∈ wAll := w_at 1022 (by decide +kernel) rfl
theorem lk_8_197 : Cond.methodLink (onm 8) 197 M_X8_has.2.1 ∈ wAll := w_at 1030 (by decide +kernel) rfl
theorem lk_8_202 : Cond.methodLink (onm 8) 202 M_X8_apart.2.1 ∈ wAll := w_at 1047 (by decide +kernel) rfl
theorem lk_8_205 : Cond.methodLink (onm 8) 205 M_X8_behind.2.1 ∈ wAll := w_at 1042 (by decide +kernel) rfl
theorem lk_8_209 : Cond.methodLink (onm 8) 209 M_X8_reckon.2.1 ∈ wAll := w_at 1038 (by decide +kernel) rfl
theorem lk_8_213 : Cond.methodLink (onm 8) 213 M_X8_worthOf.2.1 ∈ wAll := w_at 1063 (by decide +kernel) rfl
theorem lk_8_216 : Cond.methodLink (onm 8) 216 M_X8_frameOf.2.1 ∈ wAll := w_at 1083 (by decide +kernel) rfl
theorem lk_8_219 : Cond.methodLink (onm 8) 219 M_X8_sampleOf.2.1 ∈ wAll := w_at 1087 (by decide +kernel) rfl
theorem lk_8_224 : Cond.methodLink (onm 8) 224 M_X8_lookTwo.2.1 ∈ wAll := w_at 1075 (by decide +kernel) rfl
theorem lk_8_228 : Cond.methodLink (onm 8) 228 M_X8_likeness.2.1 ∈ wAll := w_at 1079 (by decide +kernel) rfl
theorem lk_8_231 : Cond.methodLink (onm 8) 231 M_X8_shiftOf.2.1 ∈ wAll := w_at 1096 (by decide +kernel) rfl
theorem lk_8_234 : Cond.methodLink (onm 8) 234 M_X8_costOf.2.1 ∈ wAll := w_at 1104 (by decide +kernel) rfl
theorem lk_8_237 : Cond.methodLink (onm 8) 237 M_X8_may.2.1 ∈ wAll := w_at 1128 (by decide +kernel) rfl
theorem lk_8_240 : Cond.methodLink (onm 8) 240 M_X8_isAhead.2.1 ∈ wAll := w_at 1136 (by decide +kernel) rfl
theorem lk_8_244 : Cond.methodLink (onm 8) 244 M_X8_findCosts.2.1 ∈ wAll := w_at 1124 (by decide +kernel) rfl
theorem lk_8_247 : Cond.methodLink (onm 8) 247 M_X8_enter.2.1 ∈ wAll := w_at 1132 (by decide +kernel) rfl
theorem lk_8_251 : Cond.methodLink (onm 8) 251 M_X8_goOn.2.1 ∈ wAll := w_at 1140 (by decide +kernel) rfl
theorem lk_8_255 : Cond.methodLink (onm 8) 255 M_X8_mayJoin.2.1 ∈ wAll := w_at 1144 (by decide +kernel) rfl
theorem lk_8_258 : Cond.methodLink (onm 8) 258 M_X8_findWays.2.1 ∈ wAll := w_at 1120 (by decide +kernel) rfl
theorem lk_8_261 : Cond.methodLink (onm 8) 261 M_X8_isBefore.2.1 ∈ wAll := w_at 1148 (by decide +kernel) rfl
theorem lk_8_264 : Cond.methodLink (onm 8) 264 M_X8_follow.2.1 ∈ wAll := w_at 1152 (by decide +kernel) rfl
theorem lk_8_267 : Cond.methodLink (onm 8) 267 M_X8_few.2.1 ∈ wAll := w_at 1164 (by decide +kernel) rfl
theorem lk_8_270 : Cond.methodLink (onm 8) 270 M_X8_findFew.2.1 ∈ wAll := w_at 1160 (by decide +kernel) rfl
theorem lk_8_274 : Cond.methodLink (onm 8) 274 M_X8_isJoin.2.1 ∈ wAll := w_at 1175 (by decide +kernel) rfl
theorem lk_8_280 : Cond.methodLink (onm 8) 280 M_X8_makeRow.2.1 ∈ wAll := w_at 1187 (by decide +kernel) rfl
theorem lk_8_283 : Cond.methodLink (onm 8) 283 M_J9_floorDiv_7cf53.2.1 ∈ wAll := w_at 1191 (by decide +kernel) rfl
theorem lk_8_286 : Cond.methodLink (onm 8) 286 M_X8_make.2.1 ∈ wAll := w_at 1183 (by decide +kernel) rfl
end
section
theorem i_vc : Claimed_1_1 ∧ Claimed_1_2 := sorry
end
