-- ===== PART A: goes FIRST, ahead of the names: the tables' words, and 'selects' of the private methods out of them =====
/-- a private method of a class that the tables say can be made, by its rows of tables_1 -/
def lw_okq (q : MethodName × Nat) : Prop := (q.1.cls ≠ "java/lang/invoke/MethodHandle" ∧ q.1.cls ≠ "java/lang/invoke/VarHandle") ∧ Cond.instantiable q.1.cls q.2 ∈ tables_1 ∧ Cond.privateMethod q.1 ∈ tables_1 ∧ Cond.instanceMethod q.1 ∈ tables_1
theorem lw_p0 : lw_okq (⟨"TakeDesk", "refuse", "(I)I"⟩, 9) := ⟨⟨by decide +kernel, by decide +kernel⟩, List.mem_of_getElem? (i := 13) (by decide +kernel), List.mem_of_getElem? (i := 312) (by decide +kernel), List.mem_of_getElem? (i := 313) (by decide +kernel)⟩
theorem lw_p1 : lw_okq (⟨"TakeDesk", "changeTake", "(I)V"⟩, 9) := ⟨⟨by decide +kernel, by decide +kernel⟩, List.mem_of_getElem? (i := 13) (by decide +kernel), List.mem_of_getElem? (i := 339) (by decide +kernel), List.mem_of_getElem? (i := 340) (by decide +kernel)⟩
theorem lw_p2 : lw_okq (⟨"TakeDesk", "askTake", "(I)I"⟩, 9) := ⟨⟨by decide +kernel, by decide +kernel⟩, List.mem_of_getElem? (i := 13) (by decide +kernel), List.mem_of_getElem? (i := 362) (by decide +kernel), List.mem_of_getElem? (i := 363) (by decide +kernel)⟩
theorem lw_p3 : lw_okq (⟨"TakeDesk", "askPair", "(II)I"⟩, 9) := ⟨⟨by decide +kernel, by decide +kernel⟩, List.mem_of_getElem? (i := 13) (by decide +kernel), List.mem_of_getElem? (i := 390) (by decide +kernel), List.mem_of_getElem? (i := 391) (by decide +kernel)⟩
theorem lw_p4 : lw_okq (⟨"TakeDesk", "askTakeBeat", "(II)I"⟩, 9) := ⟨⟨by decide +kernel, by decide +kernel⟩, List.mem_of_getElem? (i := 13) (by decide +kernel), List.mem_of_getElem? (i := 434) (by decide +kernel), List.mem_of_getElem? (i := 435) (by decide +kernel)⟩
theorem lw_p5 : lw_okq (⟨"TakeDesk$Layer", "sumUp", "(LTakeDesk$Take;LTakeDesk$Score;III)V"⟩, 3) := ⟨⟨by decide +kernel, by decide +kernel⟩, List.mem_of_getElem? (i := 156) (by decide +kernel), List.mem_of_getElem? (i := 453) (by decide +kernel), List.mem_of_getElem? (i := 454) (by decide +kernel)⟩
theorem lw_p6 : lw_okq (⟨"TakeDesk$Layer", "leastRest", "(IIII)I"⟩, 3) := ⟨⟨by decide +kernel, by decide +kernel⟩, List.mem_of_getElem? (i := 156) (by decide +kernel), List.mem_of_getElem? (i := 457) (by decide +kernel), List.mem_of_getElem? (i := 458) (by decide +kernel)⟩
theorem lw_p7 : lw_okq (⟨"TakeDesk$Layer", "leastStart", "(II)I"⟩, 3) := ⟨⟨by decide +kernel, by decide +kernel⟩, List.mem_of_getElem? (i := 156) (by decide +kernel), List.mem_of_getElem? (i := 464) (by decide +kernel), List.mem_of_getElem? (i := 465) (by decide +kernel)⟩
theorem lw_p8 : lw_okq (⟨"TakeDesk$Layer", "write", "(LTakeDesk$Take;LTakeDesk$Score;I)V"⟩, 3) := ⟨⟨by decide +kernel, by decide +kernel⟩, List.mem_of_getElem? (i := 156) (by decide +kernel), List.mem_of_getElem? (i := 468) (by decide +kernel), List.mem_of_getElem? (i := 469) (by decide +kernel)⟩
theorem lw_p9 : lw_okq (⟨"TakeDesk", "isSetting", "(II)Z"⟩, 9) := ⟨⟨by decide +kernel, by decide +kernel⟩, List.mem_of_getElem? (i := 13) (by decide +kernel), List.mem_of_getElem? (i := 504) (by decide +kernel), List.mem_of_getElem? (i := 505) (by decide +kernel)⟩
theorem lw_p10 : lw_okq (⟨"TakeDesk", "setting", "(I)I"⟩, 9) := ⟨⟨by decide +kernel, by decide +kernel⟩, List.mem_of_getElem? (i := 13) (by decide +kernel), List.mem_of_getElem? (i := 508) (by decide +kernel), List.mem_of_getElem? (i := 509) (by decide +kernel)⟩
theorem lw_p11 : lw_okq (⟨"TakeDesk", "askJoin", "(III)I"⟩, 9) := ⟨⟨by decide +kernel, by decide +kernel⟩, List.mem_of_getElem? (i := 13) (by decide +kernel), List.mem_of_getElem? (i := 520) (by decide +kernel), List.mem_of_getElem? (i := 521) (by decide +kernel)⟩
theorem lw_p12 : lw_okq (⟨"TakeDesk$Joiner", "squaresOf", "([I)I"⟩, 8) := ⟨⟨by decide +kernel, by decide +kernel⟩, List.mem_of_getElem? (i := 119) (by decide +kernel), List.mem_of_getElem? (i := 539) (by decide +kernel), List.mem_of_getElem? (i := 540) (by decide +kernel)⟩
theorem lw_p13 : lw_okq (⟨"TakeDesk$Joiner", "liken", "(II)I"⟩, 8) := ⟨⟨by decide +kernel, by decide +kernel⟩, List.mem_of_getElem? (i := 119) (by decide +kernel), List.mem_of_getElem? (i := 543) (by decide +kernel), List.mem_of_getElem? (i := 544) (by decide +kernel)⟩
theorem lw_p14 : lw_okq (⟨"TakeDesk$Joiner", "measure", "(III)V"⟩, 8) := ⟨⟨by decide +kernel, by decide +kernel⟩, List.mem_of_getElem? (i := 119) (by decide +kernel), List.mem_of_getElem? (i := 555) (by decide +kernel), List.mem_of_getElem? (i := 556) (by decide +kernel)⟩
theorem lw_p15 : lw_okq (⟨"TakeDesk$Finder", "fillCells", "(III)V"⟩, 8) := ⟨⟨by decide +kernel, by decide +kernel⟩, List.mem_of_getElem? (i := 172) (by decide +kernel), List.mem_of_getElem? (i := 593) (by decide +kernel), List.mem_of_getElem? (i := 594) (by decide +kernel)⟩
def lw_privs_1 : List (MethodName × Nat) := [(⟨"TakeDesk", "refuse", "(I)I"⟩, 9), (⟨"TakeDesk", "changeTake", "(I)V"⟩, 9), (⟨"TakeDesk", "askTake", "(I)I"⟩, 9), (⟨"TakeDesk", "askPair", "(II)I"⟩, 9), (⟨"TakeDesk", "askTakeBeat", "(II)I"⟩, 9), (⟨"TakeDesk$Layer", "sumUp", "(LTakeDesk$Take;LTakeDesk$Score;III)V"⟩, 3), (⟨"TakeDesk$Layer", "leastRest", "(IIII)I"⟩, 3), (⟨"TakeDesk$Layer", "leastStart", "(II)I"⟩, 3), (⟨"TakeDesk$Layer", "write", "(LTakeDesk$Take;LTakeDesk$Score;I)V"⟩, 3), (⟨"TakeDesk", "isSetting", "(II)Z"⟩, 9), (⟨"TakeDesk", "setting", "(I)I"⟩, 9), (⟨"TakeDesk", "askJoin", "(III)I"⟩, 9), (⟨"TakeDesk$Joiner", "squaresOf", "([I)I"⟩, 8), (⟨"TakeDesk$Joiner", "liken", "(II)I"⟩, 8), (⟨"TakeDesk$Joiner", "measure", "(III)V"⟩, 8), (⟨"TakeDesk$Finder", "fillCells", "(III)V"⟩, 8)]
theorem lw_r1 : ∀ q ∈ lw_privs_1, lw_okq q := List.forall_mem_cons.mpr ⟨lw_p0, List.forall_mem_cons.mpr ⟨lw_p1, List.forall_mem_cons.mpr ⟨lw_p2, List.forall_mem_cons.mpr ⟨lw_p3, List.forall_mem_cons.mpr ⟨lw_p4, List.forall_mem_cons.mpr ⟨lw_p5, List.forall_mem_cons.mpr ⟨lw_p6, List.forall_mem_cons.mpr ⟨lw_p7, List.forall_mem_cons.mpr ⟨lw_p8, List.forall_mem_cons.mpr ⟨lw_p9, List.forall_mem_cons.mpr ⟨lw_p10, List.forall_mem_cons.mpr ⟨lw_p11, List.forall_mem_cons.mpr ⟨lw_p12, List.forall_mem_cons.mpr ⟨lw_p13, List.forall_mem_cons.mpr ⟨lw_p14, List.forall_mem_cons.mpr ⟨lw_p15, fun _ h => absurd h List.not_mem_nil⟩⟩⟩⟩⟩⟩⟩⟩⟩⟩⟩⟩⟩⟩⟩⟩
theorem lw_p16 : lw_okq (⟨"TakeDesk$Finder", "gainOf", "(II)I"⟩, 8) := ⟨⟨by decide +kernel, by decide +kernel⟩, List.mem_of_getElem? (i := 172) (by decide +kernel), List.mem_of_getElem? (i := 602) (by decide +kernel), List.mem_of_getElem? (i := 603) (by decide +kernel)⟩
theorem lw_p17 : lw_okq (⟨"TakeDesk$Finder", "weighSteps", "(II)V"⟩, 8) := ⟨⟨by decide +kernel, by decide +kernel⟩, List.mem_of_getElem? (i := 172) (by decide +kernel), List.mem_of_getElem? (i := 607) (by decide +kernel), List.mem_of_getElem? (i := 608) (by decide +kernel)⟩
theorem lw_p18 : lw_okq (⟨"TakeDesk$Finder", "merge", "(IIII)V"⟩, 8) := ⟨⟨by decide +kernel, by decide +kernel⟩, List.mem_of_getElem? (i := 172) (by decide +kernel), List.mem_of_getElem? (i := 612) (by decide +kernel), List.mem_of_getElem? (i := 613) (by decide +kernel)⟩
theorem lw_p19 : lw_okq (⟨"TakeDesk$Finder", "nextInOrder", "(II)I"⟩, 8) := ⟨⟨by decide +kernel, by decide +kernel⟩, List.mem_of_getElem? (i := 172) (by decide +kernel), List.mem_of_getElem? (i := 617) (by decide +kernel), List.mem_of_getElem? (i := 618) (by decide +kernel)⟩
theorem lw_p20 : lw_okq (⟨"TakeDesk$Finder", "trace", "(I)I"⟩, 8) := ⟨⟨by decide +kernel, by decide +kernel⟩, List.mem_of_getElem? (i := 172) (by decide +kernel), List.mem_of_getElem? (i := 621) (by decide +kernel), List.mem_of_getElem? (i := 622) (by decide +kernel)⟩
theorem lw_p21 : lw_okq (⟨"TakeDesk", "adopt", "(I)I"⟩, 9) := ⟨⟨by decide +kernel, by decide +kernel⟩, List.mem_of_getElem? (i := 13) (by decide +kernel), List.mem_of_getElem? (i := 625) (by decide +kernel), List.mem_of_getElem? (i := 626) (by decide +kernel)⟩
theorem lw_p22 : lw_okq (⟨"TakeDesk$Playing", "addStretch", "(IIZ)V"⟩, 8) := ⟨⟨by decide +kernel, by decide +kernel⟩, List.mem_of_getElem? (i := 204) (by decide +kernel), List.mem_of_getElem? (i := 634) (by decide +kernel), List.mem_of_getElem? (i := 635) (by decide +kernel)⟩
theorem lw_p23 : lw_okq (⟨"TakeDesk$Finder", "offerSteps", "(III)V"⟩, 8) := ⟨⟨by decide +kernel, by decide +kernel⟩, List.mem_of_getElem? (i := 172) (by decide +kernel), List.mem_of_getElem? (i := 660) (by decide +kernel), List.mem_of_getElem? (i := 661) (by decide +kernel)⟩
theorem lw_p24 : lw_okq (⟨"TakeDesk$Finder", "offer", "(III)V"⟩, 8) := ⟨⟨by decide +kernel, by decide +kernel⟩, List.mem_of_getElem? (i := 172) (by decide +kernel), List.mem_of_getElem? (i := 664) (by decide +kernel), List.mem_of_getElem? (i := 665) (by decide +kernel)⟩
theorem lw_p25 : lw_okq (⟨"TakeDesk", "mayStand", "(I)Z"⟩, 9) := ⟨⟨by decide +kernel, by decide +kernel⟩, List.mem_of_getElem? (i := 13) (by decide +kernel), List.mem_of_getElem? (i := 720) (by decide +kernel), List.mem_of_getElem? (i := 721) (by decide +kernel)⟩
theorem lw_p26 : lw_okq (⟨"TakeDeskModel", "begin", "()V"⟩, 42) := ⟨⟨by decide +kernel, by decide +kernel⟩, List.mem_of_getElem? (i := 729) (by decide +kernel), List.mem_of_getElem? (i := 735) (by decide +kernel), List.mem_of_getElem? (i := 736) (by decide +kernel)⟩
theorem lw_p27 : lw_okq (⟨"TakeDeskModel", "layNone", "()V"⟩, 42) := ⟨⟨by decide +kernel, by decide +kernel⟩, List.mem_of_getElem? (i := 729) (by decide +kernel), List.mem_of_getElem? (i := 739) (by decide +kernel), List.mem_of_getElem? (i := 740) (by decide +kernel)⟩
theorem lw_p28 : lw_okq (⟨"TakeDeskModel", "answer", "(I)I"⟩, 42) := ⟨⟨by decide +kernel, by decide +kernel⟩, List.mem_of_getElem? (i := 729) (by decide +kernel), List.mem_of_getElem? (i := 878) (by decide +kernel), List.mem_of_getElem? (i := 879) (by decide +kernel)⟩
theorem lw_p29 : lw_okq (⟨"TakeDeskModel", "isPart", "(I)Z"⟩, 42) := ⟨⟨by decide +kernel, by decide +kernel⟩, List.mem_of_getElem? (i := 729) (by decide +kernel), List.mem_of_getElem? (i := 884) (by decide +kernel), List.mem_of_getElem? (i := 885) (by decide +kernel)⟩
theorem lw_p30 : lw_okq (⟨"TakeDeskModel", "isBeat", "(I)Z"⟩, 42) := ⟨⟨by decide +kernel, by decide +kernel⟩, List.mem_of_getElem? (i := 729) (by decide +kernel), List.mem_of_getElem? (i := 892) (by decide +kernel), List.mem_of_getElem? (i := 893) (by decide +kernel)⟩
theorem lw_p31 : lw_okq (⟨"TakeDeskModel", "changed", "(I)V"⟩, 42) := ⟨⟨by decide +kernel, by decide +kernel⟩, List.mem_of_getElem? (i := 729) (by decide +kernel), List.mem_of_getElem? (i := 903) (by decide +kernel), List.mem_of_getElem? (i := 904) (by decide +kernel)⟩
def lw_privs_2 : List (MethodName × Nat) := [(⟨"TakeDesk$Finder", "gainOf", "(II)I"⟩, 8), (⟨"TakeDesk$Finder", "weighSteps", "(II)V"⟩, 8), (⟨"TakeDesk$Finder", "merge", "(IIII)V"⟩, 8), (⟨"TakeDesk$Finder", "nextInOrder", "(II)I"⟩, 8), (⟨"TakeDesk$Finder", "trace", "(I)I"⟩, 8), (⟨"TakeDesk", "adopt", "(I)I"⟩, 9), (⟨"TakeDesk$Playing", "addStretch", "(IIZ)V"⟩, 8), (⟨"TakeDesk$Finder", "offerSteps", "(III)V"⟩, 8), (⟨"TakeDesk$Finder", "offer", "(III)V"⟩, 8), (⟨"TakeDesk", "mayStand", "(I)Z"⟩, 9), (⟨"TakeDeskModel", "begin", "()V"⟩, 42), (⟨"TakeDeskModel", "layNone", "()V"⟩, 42), (⟨"TakeDeskModel", "answer", "(I)I"⟩, 42), (⟨"TakeDeskModel", "isPart", "(I)Z"⟩, 42), (⟨"TakeDeskModel", "isBeat", "(I)Z"⟩, 42), (⟨"TakeDeskModel", "changed", "(I)V"⟩, 42)]
theorem lw_r2 : ∀ q ∈ lw_privs_2, lw_okq q := List.forall_mem_cons.mpr ⟨lw_p16, List.forall_mem_cons.mpr ⟨lw_p17, List.forall_mem_cons.mpr ⟨lw_p18, List.forall_mem_cons.mpr ⟨lw_p19, List.forall_mem_cons.mpr ⟨lw_p20, List.forall_mem_cons.mpr ⟨lw_p21, List.forall_mem_cons.mpr ⟨lw_p22, List.forall_mem_cons.mpr ⟨lw_p23, List.forall_mem_cons.mpr ⟨lw_p24, List.forall_mem_cons.mpr ⟨lw_p25, List.forall_mem_cons.mpr ⟨lw_p26, List.forall_mem_cons.mpr ⟨lw_p27, List.forall_mem_cons.mpr ⟨lw_p28, List.forall_mem_cons.mpr ⟨lw_p29, List.forall_mem_cons.mpr ⟨lw_p30, List.forall_mem_cons.mpr ⟨lw_p31, fun _ h => absurd h List.not_mem_nil⟩⟩⟩⟩⟩⟩⟩⟩⟩⟩⟩⟩⟩⟩⟩⟩
theorem lw_p32 : lw_okq (⟨"TakeDeskModel", "look", "(I)I"⟩, 42) := ⟨⟨by decide +kernel, by decide +kernel⟩, List.mem_of_getElem? (i := 729) (by decide +kernel), List.mem_of_getElem? (i := 911) (by decide +kernel), List.mem_of_getElem? (i := 912) (by decide +kernel)⟩
theorem lw_p33 : lw_okq (⟨"TakeDeskModel", "add", "(II)V"⟩, 42) := ⟨⟨by decide +kernel, by decide +kernel⟩, List.mem_of_getElem? (i := 729) (by decide +kernel), List.mem_of_getElem? (i := 923) (by decide +kernel), List.mem_of_getElem? (i := 924) (by decide +kernel)⟩
theorem lw_p34 : lw_okq (⟨"TakeDeskModel", "ends", "(I)I"⟩, 42) := ⟨⟨by decide +kernel, by decide +kernel⟩, List.mem_of_getElem? (i := 729) (by decide +kernel), List.mem_of_getElem? (i := 945) (by decide +kernel), List.mem_of_getElem? (i := 946) (by decide +kernel)⟩
theorem lw_p35 : lw_okq (⟨"TakeDeskModel", "begins", "(I)I"⟩, 42) := ⟨⟨by decide +kernel, by decide +kernel⟩, List.mem_of_getElem? (i := 729) (by decide +kernel), List.mem_of_getElem? (i := 949) (by decide +kernel), List.mem_of_getElem? (i := 950) (by decide +kernel)⟩
theorem lw_p36 : lw_okq (⟨"TakeDeskModel", "frameMany", "(I)I"⟩, 42) := ⟨⟨by decide +kernel, by decide +kernel⟩, List.mem_of_getElem? (i := 729) (by decide +kernel), List.mem_of_getElem? (i := 958) (by decide +kernel), List.mem_of_getElem? (i := 959) (by decide +kernel)⟩
theorem lw_p37 : lw_okq (⟨"TakeDeskModel", "levelOf", "(II)I"⟩, 42) := ⟨⟨by decide +kernel, by decide +kernel⟩, List.mem_of_getElem? (i := 729) (by decide +kernel), List.mem_of_getElem? (i := 962) (by decide +kernel), List.mem_of_getElem? (i := 963) (by decide +kernel)⟩
theorem lw_p38 : lw_okq (⟨"TakeDeskModel", "has", "(II)Z"⟩, 42) := ⟨⟨by decide +kernel, by decide +kernel⟩, List.mem_of_getElem? (i := 729) (by decide +kernel), List.mem_of_getElem? (i := 970) (by decide +kernel), List.mem_of_getElem? (i := 971) (by decide +kernel)⟩
theorem lw_p39 : lw_okq (⟨"TakeDeskModel", "reckon", "(II)V"⟩, 42) := ⟨⟨by decide +kernel, by decide +kernel⟩, List.mem_of_getElem? (i := 729) (by decide +kernel), List.mem_of_getElem? (i := 978) (by decide +kernel), List.mem_of_getElem? (i := 979) (by decide +kernel)⟩
theorem lw_p40 : lw_okq (⟨"TakeDeskModel", "behind", "(IIII)I"⟩, 42) := ⟨⟨by decide +kernel, by decide +kernel⟩, List.mem_of_getElem? (i := 729) (by decide +kernel), List.mem_of_getElem? (i := 982) (by decide +kernel), List.mem_of_getElem? (i := 983) (by decide +kernel)⟩
theorem lw_p41 : lw_okq (⟨"TakeDeskModel", "worthOf", "(II)I"⟩, 42) := ⟨⟨by decide +kernel, by decide +kernel⟩, List.mem_of_getElem? (i := 729) (by decide +kernel), List.mem_of_getElem? (i := 1003) (by decide +kernel), List.mem_of_getElem? (i := 1004) (by decide +kernel)⟩
theorem lw_p42 : lw_okq (⟨"TakeDeskModel", "lookTwo", "(III)I"⟩, 42) := ⟨⟨by decide +kernel, by decide +kernel⟩, List.mem_of_getElem? (i := 729) (by decide +kernel), List.mem_of_getElem? (i := 1015) (by decide +kernel), List.mem_of_getElem? (i := 1016) (by decide +kernel)⟩
theorem lw_p43 : lw_okq (⟨"TakeDeskModel", "likeness", "(IIII)I"⟩, 42) := ⟨⟨by decide +kernel, by decide +kernel⟩, List.mem_of_getElem? (i := 729) (by decide +kernel), List.mem_of_getElem? (i := 1019) (by decide +kernel), List.mem_of_getElem? (i := 1020) (by decide +kernel)⟩
theorem lw_p44 : lw_okq (⟨"TakeDeskModel", "frameOf", "(II)I"⟩, 42) := ⟨⟨by decide +kernel, by decide +kernel⟩, List.mem_of_getElem? (i := 729) (by decide +kernel), List.mem_of_getElem? (i := 1023) (by decide +kernel), List.mem_of_getElem? (i := 1024) (by decide +kernel)⟩
theorem lw_p45 : lw_okq (⟨"TakeDeskModel", "sampleOf", "(II)I"⟩, 42) := ⟨⟨by decide +kernel, by decide +kernel⟩, List.mem_of_getElem? (i := 729) (by decide +kernel), List.mem_of_getElem? (i := 1027) (by decide +kernel), List.mem_of_getElem? (i := 1028) (by decide +kernel)⟩
theorem lw_p46 : lw_okq (⟨"TakeDeskModel", "shiftOf", "(III)I"⟩, 42) := ⟨⟨by decide +kernel, by decide +kernel⟩, List.mem_of_getElem? (i := 729) (by decide +kernel), List.mem_of_getElem? (i := 1036) (by decide +kernel), List.mem_of_getElem? (i := 1037) (by decide +kernel)⟩
theorem lw_p47 : lw_okq (⟨"TakeDeskModel", "costOf", "(III)I"⟩, 42) := ⟨⟨by decide +kernel, by decide +kernel⟩, List.mem_of_getElem? (i := 729) (by decide +kernel), List.mem_of_getElem? (i := 1044) (by decide +kernel), List.mem_of_getElem? (i := 1045) (by decide +kernel)⟩
def lw_privs_3 : List (MethodName × Nat) := [(⟨"TakeDeskModel", "look", "(I)I"⟩, 42), (⟨"TakeDeskModel", "add", "(II)V"⟩, 42), (⟨"TakeDeskModel", "ends", "(I)I"⟩, 42), (⟨"TakeDeskModel", "begins", "(I)I"⟩, 42), (⟨"TakeDeskModel", "frameMany", "(I)I"⟩, 42), (⟨"TakeDeskModel", "levelOf", "(II)I"⟩, 42), (⟨"TakeDeskModel", "has", "(II)Z"⟩, 42), (⟨"TakeDeskModel", "reckon", "(II)V"⟩, 42), (⟨"TakeDeskModel", "behind", "(IIII)I"⟩, 42), (⟨"TakeDeskModel", "worthOf", "(II)I"⟩, 42), (⟨"TakeDeskModel", "lookTwo", "(III)I"⟩, 42), (⟨"TakeDeskModel", "likeness", "(IIII)I"⟩, 42), (⟨"TakeDeskModel", "frameOf", "(II)I"⟩, 42), (⟨"TakeDeskModel", "sampleOf", "(II)I"⟩, 42), (⟨"TakeDeskModel", "shiftOf", "(III)I"⟩, 42), (⟨"TakeDeskModel", "costOf", "(III)I"⟩, 42)]
theorem lw_r3 : ∀ q ∈ lw_privs_3, lw_okq q := List.forall_mem_cons.mpr ⟨lw_p32, List.forall_mem_cons.mpr ⟨lw_p33, List.forall_mem_cons.mpr ⟨lw_p34, List.forall_mem_cons.mpr ⟨lw_p35, List.forall_mem_cons.mpr ⟨lw_p36, List.forall_mem_cons.mpr ⟨lw_p37, List.forall_mem_cons.mpr ⟨lw_p38, List.forall_mem_cons.mpr ⟨lw_p39, List.forall_mem_cons.mpr ⟨lw_p40, List.forall_mem_cons.mpr ⟨lw_p41, List.forall_mem_cons.mpr ⟨lw_p42, List.forall_mem_cons.mpr ⟨lw_p43, List.forall_mem_cons.mpr ⟨lw_p44, List.forall_mem_cons.mpr ⟨lw_p45, List.forall_mem_cons.mpr ⟨lw_p46, List.forall_mem_cons.mpr ⟨lw_p47, fun _ h => absurd h List.not_mem_nil⟩⟩⟩⟩⟩⟩⟩⟩⟩⟩⟩⟩⟩⟩⟩⟩
theorem lw_p48 : lw_okq (⟨"TakeDeskModel", "findWays", "()V"⟩, 42) := ⟨⟨by decide +kernel, by decide +kernel⟩, List.mem_of_getElem? (i := 729) (by decide +kernel), List.mem_of_getElem? (i := 1060) (by decide +kernel), List.mem_of_getElem? (i := 1061) (by decide +kernel)⟩
theorem lw_p49 : lw_okq (⟨"TakeDeskModel", "findCosts", "()V"⟩, 42) := ⟨⟨by decide +kernel, by decide +kernel⟩, List.mem_of_getElem? (i := 729) (by decide +kernel), List.mem_of_getElem? (i := 1064) (by decide +kernel), List.mem_of_getElem? (i := 1065) (by decide +kernel)⟩
theorem lw_p50 : lw_okq (⟨"TakeDeskModel", "may", "(II)Z"⟩, 42) := ⟨⟨by decide +kernel, by decide +kernel⟩, List.mem_of_getElem? (i := 729) (by decide +kernel), List.mem_of_getElem? (i := 1068) (by decide +kernel), List.mem_of_getElem? (i := 1069) (by decide +kernel)⟩
theorem lw_p51 : lw_okq (⟨"TakeDeskModel", "enter", "(IIIII)V"⟩, 42) := ⟨⟨by decide +kernel, by decide +kernel⟩, List.mem_of_getElem? (i := 729) (by decide +kernel), List.mem_of_getElem? (i := 1072) (by decide +kernel), List.mem_of_getElem? (i := 1073) (by decide +kernel)⟩
theorem lw_p52 : lw_okq (⟨"TakeDeskModel", "isAhead", "(IIII)Z"⟩, 42) := ⟨⟨by decide +kernel, by decide +kernel⟩, List.mem_of_getElem? (i := 729) (by decide +kernel), List.mem_of_getElem? (i := 1076) (by decide +kernel), List.mem_of_getElem? (i := 1077) (by decide +kernel)⟩
theorem lw_p53 : lw_okq (⟨"TakeDeskModel", "goOn", "(IIII)V"⟩, 42) := ⟨⟨by decide +kernel, by decide +kernel⟩, List.mem_of_getElem? (i := 729) (by decide +kernel), List.mem_of_getElem? (i := 1080) (by decide +kernel), List.mem_of_getElem? (i := 1081) (by decide +kernel)⟩
theorem lw_p54 : lw_okq (⟨"TakeDeskModel", "mayJoin", "(III)Z"⟩, 42) := ⟨⟨by decide +kernel, by decide +kernel⟩, List.mem_of_getElem? (i := 729) (by decide +kernel), List.mem_of_getElem? (i := 1084) (by decide +kernel), List.mem_of_getElem? (i := 1085) (by decide +kernel)⟩
theorem lw_p55 : lw_okq (⟨"TakeDeskModel", "isBefore", "(II)Z"⟩, 42) := ⟨⟨by decide +kernel, by decide +kernel⟩, List.mem_of_getElem? (i := 729) (by decide +kernel), List.mem_of_getElem? (i := 1088) (by decide +kernel), List.mem_of_getElem? (i := 1089) (by decide +kernel)⟩
theorem lw_p56 : lw_okq (⟨"TakeDeskModel", "follow", "(II)V"⟩, 42) := ⟨⟨by decide +kernel, by decide +kernel⟩, List.mem_of_getElem? (i := 729) (by decide +kernel), List.mem_of_getElem? (i := 1092) (by decide +kernel), List.mem_of_getElem? (i := 1093) (by decide +kernel)⟩
theorem lw_p57 : lw_okq (⟨"TakeDeskModel", "findFew", "(III)V"⟩, 42) := ⟨⟨by decide +kernel, by decide +kernel⟩, List.mem_of_getElem? (i := 729) (by decide +kernel), List.mem_of_getElem? (i := 1100) (by decide +kernel), List.mem_of_getElem? (i := 1101) (by decide +kernel)⟩
theorem lw_p58 : lw_okq (⟨"TakeDeskModel", "isJoin", "(I)Z"⟩, 42) := ⟨⟨by decide +kernel, by decide +kernel⟩, List.mem_of_getElem? (i := 729) (by decide +kernel), List.mem_of_getElem? (i := 1115) (by decide +kernel), List.mem_of_getElem? (i := 1116) (by decide +kernel)⟩
theorem lw_p59 : lw_okq (⟨"TakeDeskModel", "make", "()V"⟩, 42) := ⟨⟨by decide +kernel, by decide +kernel⟩, List.mem_of_getElem? (i := 729) (by decide +kernel), List.mem_of_getElem? (i := 1123) (by decide +kernel), List.mem_of_getElem? (i := 1124) (by decide +kernel)⟩
theorem lw_p60 : lw_okq (⟨"TakeDeskModel", "makeRow", "(II)V"⟩, 42) := ⟨⟨by decide +kernel, by decide +kernel⟩, List.mem_of_getElem? (i := 729) (by decide +kernel), List.mem_of_getElem? (i := 1127) (by decide +kernel), List.mem_of_getElem? (i := 1128) (by decide +kernel)⟩
def lw_privs_4 : List (MethodName × Nat) := [(⟨"TakeDeskModel", "findWays", "()V"⟩, 42), (⟨"TakeDeskModel", "findCosts", "()V"⟩, 42), (⟨"TakeDeskModel", "may", "(II)Z"⟩, 42), (⟨"TakeDeskModel", "enter", "(IIIII)V"⟩, 42), (⟨"TakeDeskModel", "isAhead", "(IIII)Z"⟩, 42), (⟨"TakeDeskModel", "goOn", "(IIII)V"⟩, 42), (⟨"TakeDeskModel", "mayJoin", "(III)Z"⟩, 42), (⟨"TakeDeskModel", "isBefore", "(II)Z"⟩, 42), (⟨"TakeDeskModel", "follow", "(II)V"⟩, 42), (⟨"TakeDeskModel", "findFew", "(III)V"⟩, 42), (⟨"TakeDeskModel", "isJoin", "(I)Z"⟩, 42), (⟨"TakeDeskModel", "make", "()V"⟩, 42), (⟨"TakeDeskModel", "makeRow", "(II)V"⟩, 42)]
theorem lw_r4 : ∀ q ∈ lw_privs_4, lw_okq q := List.forall_mem_cons.mpr ⟨lw_p48, List.forall_mem_cons.mpr ⟨lw_p49, List.forall_mem_cons.mpr ⟨lw_p50, List.forall_mem_cons.mpr ⟨lw_p51, List.forall_mem_cons.mpr ⟨lw_p52, List.forall_mem_cons.mpr ⟨lw_p53, List.forall_mem_cons.mpr ⟨lw_p54, List.forall_mem_cons.mpr ⟨lw_p55, List.forall_mem_cons.mpr ⟨lw_p56, List.forall_mem_cons.mpr ⟨lw_p57, List.forall_mem_cons.mpr ⟨lw_p58, List.forall_mem_cons.mpr ⟨lw_p59, List.forall_mem_cons.mpr ⟨lw_p60, fun _ h => absurd h List.not_mem_nil⟩⟩⟩⟩⟩⟩⟩⟩⟩⟩⟩⟩⟩
def lw_privs : List (MethodName × Nat) := lw_privs_1 ++ (lw_privs_2 ++ (lw_privs_3 ++ (lw_privs_4)))
def lw_tbl : List Cond := k2_sels lw_privs ++ tables_1
theorem lw_privs_ok : ∀ q ∈ lw_privs, lw_okq q := by
  show ∀ q ∈ lw_privs_1 ++ (lw_privs_2 ++ (lw_privs_3 ++ (lw_privs_4))), lw_okq q
  exact List.forall_mem_append.mpr ⟨lw_r1, List.forall_mem_append.mpr ⟨lw_r2, List.forall_mem_append.mpr ⟨lw_r3, lw_r4⟩⟩⟩
-- ===== end of PART A; then your names; then what follows =====

/-! ===== BEGIN printed: names, fields, word lists, decode rows ===== -/
def RX0 : String := "TakeDesk$Finder"
def TX0 : u_T := fun k => match k with
  | 0 => ("TakeDesk$Finder", "score", "LTakeDesk$Score;", true)
  | 1 => ("TakeDesk$Finder", "takes", "[LTakeDesk$Take;", true)
  | 2 => ("TakeDesk$Finder", "joiner", "LTakeDesk$Joiner;", true)
  | 3 => ("TakeDesk$Finder", "keys", "[I", true)
  | 4 => ("TakeDesk$Finder", "links", "[I", true)
  | 5 => ("TakeDesk$Finder", "steps", "[I", true)
  | 6 => ("TakeDesk$Finder", "heads", "[I", true)
  | _ => ("TakeDesk$Finder", "traced", "[I", true)
def tyX0 : Nat → FieldType := fun k => match k with
  | 0 => .object "TakeDesk$Score"
  | 1 => .array (.object "TakeDesk$Take")
  | 2 => .object "TakeDesk$Joiner"
  | 3 => .array .int
  | 4 => .array .int
  | 5 => .array .int
  | 6 => .array .int
  | _ => .array .int
abbrev wsX00 : List Cond := u_ws RX0 TX0 8
theorem nmX0 : ∀ a, a < 8 → ∀ b, b < 8 → a ≠ b → (TX0 a).2.1 ≠ (TX0 b).2.1 := by decide +kernel
theorem tyX0_ok : ∀ k, k < 8 → parseFieldDescriptor (TX0 k).2.2.1 = some (tyX0 k) := by decide +kernel
abbrev cX0_init : ByteArray := prog_2_method_1_code
def yX0_init : MethodName := ⟨RX0, "<init>", "(LTakeDesk$Score;[LTakeDesk$Take;LTakeDesk$Joiner;)V"⟩
abbrev cX0_fits : ByteArray := prog_2_method_2_code
def yX0_fits : MethodName := ⟨RX0, "fits", "(II)Z"⟩
abbrev cX0_findRanked : ByteArray := prog_2_method_3_code
def yX0_findRanked : MethodName := ⟨RX0, "findRanked", "(I)I"⟩
abbrev cX0_merge : ByteArray := prog_2_method_4_code
def yX0_merge : MethodName := ⟨RX0, "merge", "(IIII)V"⟩
abbrev cX0_nextInOrder : ByteArray := prog_2_method_5_code
def yX0_nextInOrder : MethodName := ⟨RX0, "nextInOrder", "(II)I"⟩
abbrev cX0_findWithin : ByteArray := prog_2_method_6_code
def yX0_findWithin : MethodName := ⟨RX0, "findWithin", "(I)I"⟩
abbrev cX0_offerSteps : ByteArray := prog_2_method_7_code
def yX0_offerSteps : MethodName := ⟨RX0, "offerSteps", "(III)V"⟩
abbrev cX0_offer : ByteArray := prog_2_method_8_code
def yX0_offer : MethodName := ⟨RX0, "offer", "(III)V"⟩
abbrev cX0_fillCells : ByteArray := prog_2_method_9_code
def yX0_fillCells : MethodName := ⟨RX0, "fillCells", "(III)V"⟩
abbrev cX0_gainOf : ByteArray := prog_2_method_10_code
def yX0_gainOf : MethodName := ⟨RX0, "gainOf", "(II)I"⟩
abbrev cX0_weighSteps : ByteArray := prog_2_method_11_code
def yX0_weighSteps : MethodName := ⟨RX0, "weighSteps", "(II)V"⟩
abbrev cX0_trace : ByteArray := prog_2_method_12_code
def yX0_trace : MethodName := ⟨RX0, "trace", "(I)I"⟩
abbrev cX0_cellOf : ByteArray := prog_2_method_13_code
def yX0_cellOf : MethodName := ⟨RX0, "cellOf", "(III)I"⟩
def RX1 : String := "TakeDesk$Joiner"
def TX1 : u_T := fun k => match k with
  | 0 => ("TakeDesk$Joiner", "takes", "[LTakeDesk$Take;", true)
  | 1 => ("TakeDesk$Joiner", "window", "I", false)
  | 2 => ("TakeDesk$Joiner", "reach", "I", false)
  | 3 => ("TakeDesk$Joiner", "constant", "I", false)
  | 4 => ("TakeDesk$Joiner", "ahead", "[I", true)
  | 5 => ("TakeDesk$Joiner", "behind", "[I", true)
  | 6 => ("TakeDesk$Joiner", "shifts", "[I", true)
  | _ => ("TakeDesk$Joiner", "losses", "[I", true)
def tyX1 : Nat → FieldType := fun k => match k with
  | 0 => .array (.object "TakeDesk$Take")
  | 1 => .int
  | 2 => .int
  | 3 => .int
  | 4 => .array .int
  | 5 => .array .int
  | 6 => .array .int
  | _ => .array .int
abbrev wsX10 : List Cond := u_ws RX1 TX1 8
theorem nmX1 : ∀ a, a < 8 → ∀ b, b < 8 → a ≠ b → (TX1 a).2.1 ≠ (TX1 b).2.1 := by decide +kernel
theorem tyX1_ok : ∀ k, k < 8 → parseFieldDescriptor (TX1 k).2.2.1 = some (tyX1 k) := by decide +kernel
abbrev cX1_init : ByteArray := prog_3_method_1_code
def yX1_init : MethodName := ⟨RX1, "<init>", "([LTakeDesk$Take;)V"⟩
abbrev cX1_forgetAll : ByteArray := prog_3_method_2_code
def yX1_forgetAll : MethodName := ⟨RX1, "forgetAll", "()V"⟩
abbrev cX1_forgetTake : ByteArray := prog_3_method_3_code
def yX1_forgetTake : MethodName := ⟨RX1, "forgetTake", "(I)V"⟩
abbrev cX1_likenessBy : ByteArray := prog_3_method_4_code
def yX1_likenessBy : MethodName := ⟨RX1, "likenessBy", "(IIII)I"⟩
abbrev cX1_shiftAt : ByteArray := prog_3_method_5_code
def yX1_shiftAt : MethodName := ⟨RX1, "shiftAt", "(III)I"⟩
abbrev cX1_costAt : ByteArray := prog_3_method_6_code
def yX1_costAt : MethodName := ⟨RX1, "costAt", "(III)I"⟩
abbrev cX1_cellOf : ByteArray := prog_3_method_7_code
def yX1_cellOf : MethodName := ⟨RX1, "cellOf", "(III)I"⟩
abbrev cX1_measure : ByteArray := prog_3_method_8_code
def yX1_measure : MethodName := ⟨RX1, "measure", "(III)V"⟩
abbrev cX1_listen : ByteArray := prog_3_method_9_code
def yX1_listen : MethodName := ⟨RX1, "listen", "([IILTakeDesk$Take;I)V"⟩
abbrev cX1_squaresOf : ByteArray := prog_3_method_10_code
def yX1_squaresOf : MethodName := ⟨RX1, "squaresOf", "([I)I"⟩
abbrev cX1_liken : ByteArray := prog_3_method_11_code
def yX1_liken : MethodName := ⟨RX1, "liken", "(II)I"⟩
def RX2 : String := "TakeDesk$Layer"
def TX2 : u_T := fun k => match k with
  | 0 => ("TakeDesk$Layer", "levels", "[I", true)
  | 1 => ("TakeDesk$Layer", "sums", "[I", true)
  | _ => ("TakeDesk$Layer", "nextFrames", "[I", true)
def tyX2 : Nat → FieldType := fun k => match k with
  | 0 => .array .int
  | 1 => .array .int
  | _ => .array .int
abbrev wsX20 : List Cond := u_ws RX2 TX2 3
theorem nmX2 : ∀ a, a < 3 → ∀ b, b < 3 → a ≠ b → (TX2 a).2.1 ≠ (TX2 b).2.1 := by decide +kernel
theorem tyX2_ok : ∀ k, k < 3 → parseFieldDescriptor (TX2 k).2.2.1 = some (tyX2 k) := by decide +kernel
abbrev cX2_init : ByteArray := prog_4_method_1_code
def yX2_init : MethodName := ⟨RX2, "<init>", "()V"⟩
abbrev cX2_place : ByteArray := prog_4_method_2_code
def yX2_place : MethodName := ⟨RX2, "place", "(LTakeDesk$Take;LTakeDesk$Score;)I"⟩
abbrev cX2_sumUp : ByteArray := prog_4_method_3_code
def yX2_sumUp : MethodName := ⟨RX2, "sumUp", "(LTakeDesk$Take;LTakeDesk$Score;III)V"⟩
abbrev cX2_leastRest : ByteArray := prog_4_method_4_code
def yX2_leastRest : MethodName := ⟨RX2, "leastRest", "(IIII)I"⟩
abbrev cX2_leastStart : ByteArray := prog_4_method_5_code
def yX2_leastStart : MethodName := ⟨RX2, "leastStart", "(II)I"⟩
abbrev cX2_write : ByteArray := prog_4_method_6_code
def yX2_write : MethodName := ⟨RX2, "write", "(LTakeDesk$Take;LTakeDesk$Score;I)V"⟩
def RX3 : String := "TakeDesk$Playing"
def TX3 : u_T := fun k => match k with
  | 0 => ("TakeDesk$Playing", "takes", "[LTakeDesk$Take;", true)
  | 1 => ("TakeDesk$Playing", "joiner", "LTakeDesk$Joiner;", true)
  | 2 => ("TakeDesk$Playing", "known", "Z", false)
  | 3 => ("TakeDesk$Playing", "ramp", "I", false)
  | 4 => ("TakeDesk$Playing", "row", "[I", true)
  | 5 => ("TakeDesk$Playing", "stretches", "[LTakeDesk$Stretch;", true)
  | 6 => ("TakeDesk$Playing", "stretchCount", "I", false)
  | _ => ("TakeDesk$Playing", "madeCount", "I", false)
def tyX3 : Nat → FieldType := fun k => match k with
  | 0 => .array (.object "TakeDesk$Take")
  | 1 => .object "TakeDesk$Joiner"
  | 2 => .boolean
  | 3 => .int
  | 4 => .array .int
  | 5 => .array (.object "TakeDesk$Stretch")
  | 6 => .int
  | _ => .int
abbrev wsX30 : List Cond := u_ws RX3 TX3 8
theorem nmX3 : ∀ a, a < 8 → ∀ b, b < 8 → a ≠ b → (TX3 a).2.1 ≠ (TX3 b).2.1 := by decide +kernel
theorem tyX3_ok : ∀ k, k < 8 → parseFieldDescriptor (TX3 k).2.2.1 = some (tyX3 k) := by decide +kernel
abbrev cX3_init : ByteArray := prog_5_method_1_code
def yX3_init : MethodName := ⟨RX3, "<init>", "([LTakeDesk$Take;LTakeDesk$Joiner;)V"⟩
abbrev cX3_follow : ByteArray := prog_5_method_2_code
def yX3_follow : MethodName := ⟨RX3, "follow", "([II)V"⟩
abbrev cX3_addStretch : ByteArray := prog_5_method_3_code
def yX3_addStretch : MethodName := ⟨RX3, "addStretch", "(IIZ)V"⟩
abbrev cX3_joinCount : ByteArray := prog_5_method_4_code
def yX3_joinCount : MethodName := ⟨RX3, "joinCount", "()I"⟩
abbrev cX3_stretchOf : ByteArray := prog_5_method_5_code
def yX3_stretchOf : MethodName := ⟨RX3, "stretchOf", "(I)LTakeDesk$Stretch;"⟩
abbrev cX3_isInRamp : ByteArray := prog_5_method_6_code
def yX3_isInRamp : MethodName := ⟨RX3, "isInRamp", "(LTakeDesk$Stretch;I)Z"⟩
abbrev cX3_soundOf : ByteArray := prog_5_method_7_code
def yX3_soundOf : MethodName := ⟨RX3, "soundOf", "(LTakeDesk$Stretch;I)I"⟩
def RX4 : String := "TakeDesk$Score"
def TX4 : u_T := fun k => match k with
  | 0 => ("TakeDesk$Score", "beats", "I", false)
  | 1 => ("TakeDesk$Score", "loudness", "[I", true)
  | 2 => ("TakeDesk$Score", "lengths", "[I", true)
  | 3 => ("TakeDesk$Score", "barred", "[Z", true)
  | _ => ("TakeDesk$Score", "kept", "[I", true)
def tyX4 : Nat → FieldType := fun k => match k with
  | 0 => .int
  | 1 => .array .int
  | 2 => .array .int
  | 3 => .array .boolean
  | _ => .array .int
abbrev wsX40 : List Cond := u_ws RX4 TX4 5
theorem nmX4 : ∀ a, a < 5 → ∀ b, b < 5 → a ≠ b → (TX4 a).2.1 ≠ (TX4 b).2.1 := by decide +kernel
theorem tyX4_ok : ∀ k, k < 5 → parseFieldDescriptor (TX4 k).2.2.1 = some (tyX4 k) := by decide +kernel
abbrev cX4_init : ByteArray := prog_6_method_1_code
def yX4_init : MethodName := ⟨RX4, "<init>", "()V"⟩
abbrev cX4_renew : ByteArray := prog_6_method_2_code
def yX4_renew : MethodName := ⟨RX4, "renew", "(I)V"⟩
abbrev cX4_holds : ByteArray := prog_6_method_3_code
def yX4_holds : MethodName := ⟨RX4, "holds", "(I)Z"⟩
def RX5 : String := "TakeDesk$Stretch"
def TX5 : u_T := fun k => match k with
  | 0 => ("TakeDesk$Stretch", "take", "I", false)
  | 1 => ("TakeDesk$Stretch", "beat", "I", false)
  | 2 => ("TakeDesk$Stretch", "aheadTake", "I", false)
  | 3 => ("TakeDesk$Stretch", "aheadStart", "I", false)
  | 4 => ("TakeDesk$Stretch", "start", "I", false)
  | 5 => ("TakeDesk$Stretch", "low", "I", false)
  | 6 => ("TakeDesk$Stretch", "high", "I", false)
  | _ => ("TakeDesk$Stretch", "madeFrom", "I", false)
def tyX5 : Nat → FieldType := fun k => match k with
  | 0 => .int
  | 1 => .int
  | 2 => .int
  | 3 => .int
  | 4 => .int
  | 5 => .int
  | 6 => .int
  | _ => .int
abbrev wsX50 : List Cond := u_ws RX5 TX5 8
theorem nmX5 : ∀ a, a < 8 → ∀ b, b < 8 → a ≠ b → (TX5 a).2.1 ≠ (TX5 b).2.1 := by decide +kernel
theorem tyX5_ok : ∀ k, k < 8 → parseFieldDescriptor (TX5 k).2.2.1 = some (tyX5 k) := by decide +kernel
abbrev cX5_init : ByteArray := prog_7_method_1_code
def yX5_init : MethodName := ⟨RX5, "<init>", "()V"⟩
abbrev cX5_size : ByteArray := prog_7_method_2_code
def yX5_size : MethodName := ⟨RX5, "size", "()I"⟩
abbrev cX5_indexOf : ByteArray := prog_7_method_3_code
def yX5_indexOf : MethodName := ⟨RX5, "indexOf", "(I)I"⟩
def RX6 : String := "TakeDesk$Take"
def TX6 : u_T := fun k => match k with
  | 0 => ("TakeDesk$Take", "here", "Z", false)
  | 1 => ("TakeDesk$Take", "laid", "Z", false)
  | 2 => ("TakeDesk$Take", "kind", "I", false)
  | 3 => ("TakeDesk$Take", "first", "I", false)
  | 4 => ("TakeDesk$Take", "last", "I", false)
  | 5 => ("TakeDesk$Take", "more", "I", false)
  | 6 => ("TakeDesk$Take", "count", "I", false)
  | 7 => ("TakeDesk$Take", "samples", "[I", true)
  | 8 => ("TakeDesk$Take", "hands", "[I", true)
  | 9 => ("TakeDesk$Take", "frames", "[I", true)
  | _ => ("TakeDesk$Take", "marks", "[I", true)
def tyX6 : Nat → FieldType := fun k => match k with
  | 0 => .boolean
  | 1 => .boolean
  | 2 => .int
  | 3 => .int
  | 4 => .int
  | 5 => .int
  | 6 => .int
  | 7 => .array .int
  | 8 => .array .int
  | 9 => .array .int
  | _ => .array .int
abbrev wsX60 : List Cond := u_ws RX6 TX6 11
theorem nmX6 : ∀ a, a < 11 → ∀ b, b < 11 → a ≠ b → (TX6 a).2.1 ≠ (TX6 b).2.1 := by decide +kernel
theorem tyX6_ok : ∀ k, k < 11 → parseFieldDescriptor (TX6 k).2.2.1 = some (tyX6 k) := by decide +kernel
abbrev cX6_init : ByteArray := prog_8_method_1_code
def yX6_init : MethodName := ⟨RX6, "<init>", "()V"⟩
abbrev cX6_begin : ByteArray := prog_8_method_2_code
def yX6_begin : MethodName := ⟨RX6, "begin", "(IIII)V"⟩
abbrev cX6_clearBeats : ByteArray := prog_8_method_3_code
def yX6_clearBeats : MethodName := ⟨RX6, "clearBeats", "()V"⟩
abbrev cX6_meetScore : ByteArray := prog_8_method_4_code
def yX6_meetScore : MethodName := ⟨RX6, "meetScore", "(I)V"⟩
abbrev cX6_has : ByteArray := prog_8_method_5_code
def yX6_has : MethodName := ⟨RX6, "has", "(I)Z"⟩
abbrev cX6_leadsTo : ByteArray := prog_8_method_6_code
def yX6_leadsTo : MethodName := ⟨RX6, "leadsTo", "(I)Z"⟩
abbrev cX6_room : ByteArray := prog_8_method_7_code
def yX6_room : MethodName := ⟨RX6, "room", "()I"⟩
abbrev cX6_append : ByteArray := prog_8_method_8_code
def yX6_append : MethodName := ⟨RX6, "append", "(I)V"⟩
abbrev cX6_write : ByteArray := prog_8_method_9_code
def yX6_write : MethodName := ⟨RX6, "write", "(II)V"⟩
abbrev cX6_soundAt : ByteArray := prog_8_method_10_code
def yX6_soundAt : MethodName := ⟨RX6, "soundAt", "(I)I"⟩
abbrev cX6_frameCount : ByteArray := prog_8_method_11_code
def yX6_frameCount : MethodName := ⟨RX6, "frameCount", "()I"⟩
abbrev cX6_levelAt : ByteArray := prog_8_method_12_code
def yX6_levelAt : MethodName := ⟨RX6, "levelAt", "(I)I"⟩
abbrev cX6_frameAt : ByteArray := prog_8_method_13_code
def yX6_frameAt : MethodName := ⟨RX6, "frameAt", "(I)I"⟩
abbrev cX6_startOf : ByteArray := prog_8_method_14_code
def yX6_startOf : MethodName := ⟨RX6, "startOf", "(I)I"⟩
abbrev cX6_worthAt : ByteArray := prog_8_method_15_code
def yX6_worthAt : MethodName := ⟨RX6, "worthAt", "(I)I"⟩
def RX7 : String := "TakeDesk"
def TX7 : u_T := fun k => match k with
  | 0 => ("TakeDesk", "score", "LTakeDesk$Score;", true)
  | 1 => ("TakeDesk", "takes", "[LTakeDesk$Take;", true)
  | 2 => ("TakeDesk", "layer", "LTakeDesk$Layer;", true)
  | 3 => ("TakeDesk", "joiner", "LTakeDesk$Joiner;", true)
  | 4 => ("TakeDesk", "finder", "LTakeDesk$Finder;", true)
  | 5 => ("TakeDesk", "playing", "LTakeDesk$Playing;", true)
  | 6 => ("TakeDesk", "foundCounts", "[I", true)
  | 7 => ("TakeDesk", "waiting", "[I", true)
  | _ => ("TakeDesk", "waitingCount", "I", false)
def tyX7 : Nat → FieldType := fun k => match k with
  | 0 => .object "TakeDesk$Score"
  | 1 => .array (.object "TakeDesk$Take")
  | 2 => .object "TakeDesk$Layer"
  | 3 => .object "TakeDesk$Joiner"
  | 4 => .object "TakeDesk$Finder"
  | 5 => .object "TakeDesk$Playing"
  | 6 => .array .int
  | 7 => .array .int
  | _ => .int
abbrev wsX70 : List Cond := u_ws RX7 TX7 9
theorem nmX7 : ∀ a, a < 9 → ∀ b, b < 9 → a ≠ b → (TX7 a).2.1 ≠ (TX7 b).2.1 := by decide +kernel
theorem tyX7_ok : ∀ k, k < 9 → parseFieldDescriptor (TX7 k).2.2.1 = some (tyX7 k) := by decide +kernel
abbrev cX7_init : ByteArray := prog_1_method_1_code
def yX7_init : MethodName := ⟨RX7, "<init>", "()V"⟩
abbrev cX7_score : ByteArray := prog_1_method_2_code
def yX7_score : MethodName := ⟨RX7, "score", "(I)I"⟩
abbrev cX7_beat : ByteArray := prog_1_method_3_code
def yX7_beat : MethodName := ⟨RX7, "beat", "(III)I"⟩
abbrev cX7_take : ByteArray := prog_1_method_4_code
def yX7_take : MethodName := ⟨RX7, "take", "(IIIII)I"⟩
abbrev cX7_tear : ByteArray := prog_1_method_5_code
def yX7_tear : MethodName := ⟨RX7, "tear", "(I)I"⟩
abbrev cX7_play : ByteArray := prog_1_method_6_code
def yX7_play : MethodName := ⟨RX7, "play", "(IIII)I"⟩
abbrev cX7_copy : ByteArray := prog_1_method_7_code
def yX7_copy : MethodName := ⟨RX7, "copy", "(IIIII)I"⟩
abbrev cX7_put : ByteArray := prog_1_method_8_code
def yX7_put : MethodName := ⟨RX7, "put", "(III)I"⟩
abbrev cX7_sample : ByteArray := prog_1_method_9_code
def yX7_sample : MethodName := ⟨RX7, "sample", "(II)I"⟩
abbrev cX7_as : ByteArray := prog_1_method_10_code
def yX7_as : MethodName := ⟨RX7, "as", "(II)I"⟩
abbrev cX7_level : ByteArray := prog_1_method_11_code
def yX7_level : MethodName := ⟨RX7, "level", "(II)I"⟩
abbrev cX7_hand : ByteArray := prog_1_method_12_code
def yX7_hand : MethodName := ⟨RX7, "hand", "(III)I"⟩
abbrev cX7_lay : ByteArray := prog_1_method_13_code
def yX7_lay : MethodName := ⟨RX7, "lay", "(I)I"⟩
abbrev cX7_frame : ByteArray := prog_1_method_14_code
def yX7_frame : MethodName := ⟨RX7, "frame", "(II)I"⟩
abbrev cX7_mark : ByteArray := prog_1_method_15_code
def yX7_mark : MethodName := ⟨RX7, "mark", "(III)I"⟩
abbrev cX7_worth : ByteArray := prog_1_method_16_code
def yX7_worth : MethodName := ⟨RX7, "worth", "(II)I"⟩
abbrev cX7_set : ByteArray := prog_1_method_17_code
def yX7_set : MethodName := ⟨RX7, "set", "(II)I"⟩
abbrev cX7_like : ByteArray := prog_1_method_18_code
def yX7_like : MethodName := ⟨RX7, "like", "(IIII)I"⟩
abbrev cX7_shift : ByteArray := prog_1_method_19_code
def yX7_shift : MethodName := ⟨RX7, "shift", "(III)I"⟩
abbrev cX7_cost : ByteArray := prog_1_method_20_code
def yX7_cost : MethodName := ⟨RX7, "cost", "(III)I"⟩
abbrev cX7_bar : ByteArray := prog_1_method_21_code
def yX7_bar : MethodName := ⟨RX7, "bar", "(IZ)I"⟩
abbrev cX7_keep : ByteArray := prog_1_method_22_code
def yX7_keep : MethodName := ⟨RX7, "keep", "(II)I"⟩
abbrev cX7_best : ByteArray := prog_1_method_23_code
def yX7_best : MethodName := ⟨RX7, "best", "(I)I"⟩
abbrev cX7_few : ByteArray := prog_1_method_24_code
def yX7_few : MethodName := ⟨RX7, "few", "(I)I"⟩
abbrev cX7_way : ByteArray := prog_1_method_25_code
def yX7_way : MethodName := ⟨RX7, "way", "(I)I"⟩
abbrev cX7_joins : ByteArray := prog_1_method_26_code
def yX7_joins : MethodName := ⟨RX7, "joins", "()I"⟩
abbrev cX7_made : ByteArray := prog_1_method_27_code
def yX7_made : MethodName := ⟨RX7, "made", "()I"⟩
abbrev cX7_heard : ByteArray := prog_1_method_28_code
def yX7_heard : MethodName := ⟨RX7, "heard", "(I)I"⟩
abbrev cX7_from : ByteArray := prog_1_method_29_code
def yX7_from : MethodName := ⟨RX7, "from", "(II)I"⟩
abbrev cX7_tell : ByteArray := prog_1_method_30_code
def yX7_tell : MethodName := ⟨RX7, "tell", "(I)I"⟩
abbrev cX7_check : ByteArray := prog_1_method_31_code
def yX7_check : MethodName := ⟨RX7, "check", "()I"⟩
abbrev cX7_found : ByteArray := prog_1_method_32_code
def yX7_found : MethodName := ⟨RX7, "found", "(I)I"⟩
abbrev cX7_refuse : ByteArray := prog_1_method_33_code
def yX7_refuse : MethodName := ⟨RX7, "refuse", "(I)I"⟩
abbrev cX7_askTake : ByteArray := prog_1_method_34_code
def yX7_askTake : MethodName := ⟨RX7, "askTake", "(I)I"⟩
abbrev cX7_askTakeBeat : ByteArray := prog_1_method_35_code
def yX7_askTakeBeat : MethodName := ⟨RX7, "askTakeBeat", "(II)I"⟩
abbrev cX7_askPair : ByteArray := prog_1_method_36_code
def yX7_askPair : MethodName := ⟨RX7, "askPair", "(II)I"⟩
abbrev cX7_askJoin : ByteArray := prog_1_method_37_code
def yX7_askJoin : MethodName := ⟨RX7, "askJoin", "(III)I"⟩
abbrev cX7_isSetting : ByteArray := prog_1_method_38_code
def yX7_isSetting : MethodName := ⟨RX7, "isSetting", "(II)Z"⟩
abbrev cX7_setting : ByteArray := prog_1_method_39_code
def yX7_setting : MethodName := ⟨RX7, "setting", "(I)I"⟩
abbrev cX7_mayStand : ByteArray := prog_1_method_40_code
def yX7_mayStand : MethodName := ⟨RX7, "mayStand", "(I)Z"⟩
abbrev cX7_changeTake : ByteArray := prog_1_method_41_code
def yX7_changeTake : MethodName := ⟨RX7, "changeTake", "(I)V"⟩
abbrev cX7_adopt : ByteArray := prog_1_method_42_code
def yX7_adopt : MethodName := ⟨RX7, "adopt", "(I)I"⟩
abbrev cX7_valueOf : ByteArray := prog_1_method_43_code
def yX7_valueOf : MethodName := ⟨RX7, "valueOf", "(I)I"⟩
abbrev cX7_isWithin : ByteArray := prog_1_method_44_code
def yX7_isWithin : MethodName := ⟨RX7, "isWithin", "(III)Z"⟩
abbrev cX7_isTake : ByteArray := prog_1_method_45_code
def yX7_isTake : MethodName := ⟨RX7, "isTake", "(I)Z"⟩
abbrev cX7_isKind : ByteArray := prog_1_method_46_code
def yX7_isKind : MethodName := ⟨RX7, "isKind", "(I)Z"⟩
abbrev cX7_isUnder : ByteArray := prog_1_method_47_code
def yX7_isUnder : MethodName := ⟨RX7, "isUnder", "(II)Z"⟩
def RX8 : String := "TakeDeskModel"
def TX8 : u_T := fun k => match k with
  | 0 => ("TakeDeskModel", "beats", "I", false)
  | 1 => ("TakeDeskModel", "loud", "[I", true)
  | 2 => ("TakeDeskModel", "length", "[I", true)
  | 3 => ("TakeDeskModel", "barred", "[Z", true)
  | 4 => ("TakeDeskModel", "kept", "[I", true)
  | 5 => ("TakeDeskModel", "kind", "[I", true)
  | 6 => ("TakeDeskModel", "first", "[I", true)
  | 7 => ("TakeDeskModel", "last", "[I", true)
  | 8 => ("TakeDeskModel", "more", "[I", true)
  | 9 => ("TakeDeskModel", "many", "[I", true)
  | 10 => ("TakeDeskModel", "samples", "[I", true)
  | 11 => ("TakeDeskModel", "marks", "[I", true)
  | 12 => ("TakeDeskModel", "hands", "[I", true)
  | 13 => ("TakeDeskModel", "laid", "[Z", true)
  | 14 => ("TakeDeskModel", "frames", "[I", true)
  | 15 => ("TakeDeskModel", "width", "I", false)
  | 16 => ("TakeDeskModel", "far", "I", false)
  | 17 => ("TakeDeskModel", "constant", "I", false)
  | 18 => ("TakeDeskModel", "ramp", "I", false)
  | 19 => ("TakeDeskModel", "hasWay", "Z", false)
  | 20 => ("TakeDeskModel", "theWay", "[I", true)
  | 21 => ("TakeDeskModel", "numbers", "[I", true)
  | 22 => ("TakeDeskModel", "numberMany", "I", false)
  | 23 => ("TakeDeskModel", "founds", "[I", true)
  | 24 => ("TakeDeskModel", "sums", "[I", true)
  | 25 => ("TakeDeskModel", "wMany", "[I", true)
  | 26 => ("TakeDeskModel", "wValue", "[I", true)
  | 27 => ("TakeDeskModel", "wJoins", "[I", true)
  | 28 => ("TakeDeskModel", "wNext", "[I", true)
  | 29 => ("TakeDeskModel", "wWhich", "[I", true)
  | 30 => ("TakeDeskModel", "costs", "[I", true)
  | 31 => ("TakeDeskModel", "tops", "[I", true)
  | 32 => ("TakeDeskModel", "fIs", "[Z", true)
  | 33 => ("TakeDeskModel", "fValue", "[I", true)
  | 34 => ("TakeDeskModel", "fJoins", "[I", true)
  | 35 => ("TakeDeskModel", "fNext", "[I", true)
  | 36 => ("TakeDeskModel", "mValue", "[I", true)
  | 37 => ("TakeDeskModel", "mTake", "[I", true)
  | 38 => ("TakeDeskModel", "mSample", "[I", true)
  | 39 => ("TakeDeskModel", "mBeat", "[I", true)
  | 40 => ("TakeDeskModel", "mRamp", "[Z", true)
  | _ => ("TakeDeskModel", "mMany", "I", false)
def tyX8 : Nat → FieldType := fun k => match k with
  | 0 => .int
  | 1 => .array .int
  | 2 => .array .int
  | 3 => .array .boolean
  | 4 => .array .int
  | 5 => .array .int
  | 6 => .array .int
  | 7 => .array .int
  | 8 => .array .int
  | 9 => .array .int
  | 10 => .array .int
  | 11 => .array .int
  | 12 => .array .int
  | 13 => .array .boolean
  | 14 => .array .int
  | 15 => .int
  | 16 => .int
  | 17 => .int
  | 18 => .int
  | 19 => .boolean
  | 20 => .array .int
  | 21 => .array .int
  | 22 => .int
  | 23 => .array .int
  | 24 => .array .int
  | 25 => .array .int
  | 26 => .array .int
  | 27 => .array .int
  | 28 => .array .int
  | 29 => .array .int
  | 30 => .array .int
  | 31 => .array .int
  | 32 => .array .boolean
  | 33 => .array .int
  | 34 => .array .int
  | 35 => .array .int
  | 36 => .array .int
  | 37 => .array .int
  | 38 => .array .int
  | 39 => .array .int
  | 40 => .array .boolean
  | _ => .int
abbrev wsX80 : List Cond := u_ws RX8 TX8 42
theorem nmX8 : ∀ a, a < 42 → ∀ b, b < 42 → a ≠ b → (TX8 a).2.1 ≠ (TX8 b).2.1 := by decide +kernel
theorem tyX8_ok : ∀ k, k < 42 → parseFieldDescriptor (TX8 k).2.2.1 = some (tyX8 k) := by decide +kernel
abbrev cX8_init : ByteArray := prog_10_method_1_code
def yX8_init : MethodName := ⟨RX8, "<init>", "()V"⟩
abbrev cX8_answer : ByteArray := prog_10_method_2_code
def yX8_answer : MethodName := ⟨RX8, "answer", "(I)I"⟩
abbrev cX8_in : ByteArray := prog_10_method_3_code
def yX8_in : MethodName := ⟨RX8, "in", "(III)Z"⟩
abbrev cX8_begin : ByteArray := prog_10_method_4_code
def yX8_begin : MethodName := ⟨RX8, "begin", "()V"⟩
abbrev cX8_layNone : ByteArray := prog_10_method_5_code
def yX8_layNone : MethodName := ⟨RX8, "layNone", "()V"⟩
abbrev cX8_score : ByteArray := prog_10_method_6_code
def yX8_score : MethodName := ⟨RX8, "score", "(I)I"⟩
abbrev cX8_isBeat : ByteArray := prog_10_method_7_code
def yX8_isBeat : MethodName := ⟨RX8, "isBeat", "(I)Z"⟩
abbrev cX8_beat : ByteArray := prog_10_method_8_code
def yX8_beat : MethodName := ⟨RX8, "beat", "(III)I"⟩
abbrev cX8_isTake : ByteArray := prog_10_method_9_code
def yX8_isTake : MethodName := ⟨RX8, "isTake", "(I)Z"⟩
abbrev cX8_isPart : ByteArray := prog_10_method_10_code
def yX8_isPart : MethodName := ⟨RX8, "isPart", "(I)Z"⟩
abbrev cX8_begins : ByteArray := prog_10_method_11_code
def yX8_begins : MethodName := ⟨RX8, "begins", "(I)I"⟩
abbrev cX8_ends : ByteArray := prog_10_method_12_code
def yX8_ends : MethodName := ⟨RX8, "ends", "(I)I"⟩
abbrev cX8_has : ByteArray := prog_10_method_13_code
def yX8_has : MethodName := ⟨RX8, "has", "(II)Z"⟩
abbrev cX8_look : ByteArray := prog_10_method_14_code
def yX8_look : MethodName := ⟨RX8, "look", "(I)I"⟩
abbrev cX8_take : ByteArray := prog_10_method_15_code
def yX8_take : MethodName := ⟨RX8, "take", "(IIIII)I"⟩
abbrev cX8_changed : ByteArray := prog_10_method_16_code
def yX8_changed : MethodName := ⟨RX8, "changed", "(I)V"⟩
abbrev cX8_tear : ByteArray := prog_10_method_17_code
def yX8_tear : MethodName := ⟨RX8, "tear", "(I)I"⟩
abbrev cX8_add : ByteArray := prog_10_method_18_code
def yX8_add : MethodName := ⟨RX8, "add", "(II)V"⟩
abbrev cX8_play : ByteArray := prog_10_method_19_code
def yX8_play : MethodName := ⟨RX8, "play", "(IIII)I"⟩
abbrev cX8_copy : ByteArray := prog_10_method_20_code
def yX8_copy : MethodName := ⟨RX8, "copy", "(IIIII)I"⟩
abbrev cX8_put : ByteArray := prog_10_method_21_code
def yX8_put : MethodName := ⟨RX8, "put", "(III)I"⟩
abbrev cX8_sample : ByteArray := prog_10_method_22_code
def yX8_sample : MethodName := ⟨RX8, "sample", "(II)I"⟩
abbrev cX8_as : ByteArray := prog_10_method_23_code
def yX8_as : MethodName := ⟨RX8, "as", "(II)I"⟩
abbrev cX8_frameMany : ByteArray := prog_10_method_24_code
def yX8_frameMany : MethodName := ⟨RX8, "frameMany", "(I)I"⟩
abbrev cX8_levelOf : ByteArray := prog_10_method_25_code
def yX8_levelOf : MethodName := ⟨RX8, "levelOf", "(II)I"⟩
abbrev cX8_level : ByteArray := prog_10_method_26_code
def yX8_level : MethodName := ⟨RX8, "level", "(II)I"⟩
abbrev cX8_hand : ByteArray := prog_10_method_27_code
def yX8_hand : MethodName := ⟨RX8, "hand", "(III)I"⟩
abbrev cX8_apart : ByteArray := prog_10_method_28_code
def yX8_apart : MethodName := ⟨RX8, "apart", "(II)I"⟩
abbrev cX8_behind : ByteArray := prog_10_method_29_code
def yX8_behind : MethodName := ⟨RX8, "behind", "(IIII)I"⟩
abbrev cX8_reckon : ByteArray := prog_10_method_30_code
def yX8_reckon : MethodName := ⟨RX8, "reckon", "(II)V"⟩
abbrev cX8_lay : ByteArray := prog_10_method_31_code
def yX8_lay : MethodName := ⟨RX8, "lay", "(I)I"⟩
abbrev cX8_frame : ByteArray := prog_10_method_32_code
def yX8_frame : MethodName := ⟨RX8, "frame", "(II)I"⟩
abbrev cX8_mark : ByteArray := prog_10_method_33_code
def yX8_mark : MethodName := ⟨RX8, "mark", "(III)I"⟩
abbrev cX8_worthOf : ByteArray := prog_10_method_34_code
def yX8_worthOf : MethodName := ⟨RX8, "worthOf", "(II)I"⟩
abbrev cX8_worth : ByteArray := prog_10_method_35_code
def yX8_worth : MethodName := ⟨RX8, "worth", "(II)I"⟩
abbrev cX8_set : ByteArray := prog_10_method_36_code
def yX8_set : MethodName := ⟨RX8, "set", "(II)I"⟩
abbrev cX8_frameOf : ByteArray := prog_10_method_37_code
def yX8_frameOf : MethodName := ⟨RX8, "frameOf", "(II)I"⟩
abbrev cX8_sampleOf : ByteArray := prog_10_method_38_code
def yX8_sampleOf : MethodName := ⟨RX8, "sampleOf", "(II)I"⟩
abbrev cX8_likeness : ByteArray := prog_10_method_39_code
def yX8_likeness : MethodName := ⟨RX8, "likeness", "(IIII)I"⟩
abbrev cX8_lookTwo : ByteArray := prog_10_method_40_code
def yX8_lookTwo : MethodName := ⟨RX8, "lookTwo", "(III)I"⟩
abbrev cX8_like : ByteArray := prog_10_method_41_code
def yX8_like : MethodName := ⟨RX8, "like", "(IIII)I"⟩
abbrev cX8_shiftOf : ByteArray := prog_10_method_42_code
def yX8_shiftOf : MethodName := ⟨RX8, "shiftOf", "(III)I"⟩
abbrev cX8_costOf : ByteArray := prog_10_method_43_code
def yX8_costOf : MethodName := ⟨RX8, "costOf", "(III)I"⟩
abbrev cX8_shift : ByteArray := prog_10_method_44_code
def yX8_shift : MethodName := ⟨RX8, "shift", "(III)I"⟩
abbrev cX8_cost : ByteArray := prog_10_method_45_code
def yX8_cost : MethodName := ⟨RX8, "cost", "(III)I"⟩
abbrev cX8_bar : ByteArray := prog_10_method_46_code
def yX8_bar : MethodName := ⟨RX8, "bar", "(IZ)I"⟩
abbrev cX8_keep : ByteArray := prog_10_method_47_code
def yX8_keep : MethodName := ⟨RX8, "keep", "(II)I"⟩
abbrev cX8_may : ByteArray := prog_10_method_48_code
def yX8_may : MethodName := ⟨RX8, "may", "(II)Z"⟩
abbrev cX8_mayJoin : ByteArray := prog_10_method_49_code
def yX8_mayJoin : MethodName := ⟨RX8, "mayJoin", "(III)Z"⟩
abbrev cX8_findCosts : ByteArray := prog_10_method_50_code
def yX8_findCosts : MethodName := ⟨RX8, "findCosts", "()V"⟩
abbrev cX8_enter : ByteArray := prog_10_method_51_code
def yX8_enter : MethodName := ⟨RX8, "enter", "(IIIII)V"⟩
abbrev cX8_isAhead : ByteArray := prog_10_method_52_code
def yX8_isAhead : MethodName := ⟨RX8, "isAhead", "(IIII)Z"⟩
abbrev cX8_findWays : ByteArray := prog_10_method_53_code
def yX8_findWays : MethodName := ⟨RX8, "findWays", "()V"⟩
abbrev cX8_goOn : ByteArray := prog_10_method_54_code
def yX8_goOn : MethodName := ⟨RX8, "goOn", "(IIII)V"⟩
abbrev cX8_best : ByteArray := prog_10_method_55_code
def yX8_best : MethodName := ⟨RX8, "best", "(I)I"⟩
abbrev cX8_isBefore : ByteArray := prog_10_method_56_code
def yX8_isBefore : MethodName := ⟨RX8, "isBefore", "(II)Z"⟩
abbrev cX8_follow : ByteArray := prog_10_method_57_code
def yX8_follow : MethodName := ⟨RX8, "follow", "(II)V"⟩
abbrev cX8_few : ByteArray := prog_10_method_58_code
def yX8_few : MethodName := ⟨RX8, "few", "(III)I"⟩
abbrev cX8_findFew : ByteArray := prog_10_method_59_code
def yX8_findFew : MethodName := ⟨RX8, "findFew", "(III)V"⟩
abbrev cX8_few_ : ByteArray := prog_10_method_60_code
def yX8_few_ : MethodName := ⟨RX8, "few", "(I)I"⟩
abbrev cX8_way : ByteArray := prog_10_method_61_code
def yX8_way : MethodName := ⟨RX8, "way", "(I)I"⟩
abbrev cX8_isJoin : ByteArray := prog_10_method_62_code
def yX8_isJoin : MethodName := ⟨RX8, "isJoin", "(I)Z"⟩
abbrev cX8_joins : ByteArray := prog_10_method_63_code
def yX8_joins : MethodName := ⟨RX8, "joins", "()I"⟩
abbrev cX8_make : ByteArray := prog_10_method_64_code
def yX8_make : MethodName := ⟨RX8, "make", "()V"⟩
abbrev cX8_makeRow : ByteArray := prog_10_method_65_code
def yX8_makeRow : MethodName := ⟨RX8, "makeRow", "(II)V"⟩
abbrev cX8_made : ByteArray := prog_10_method_66_code
def yX8_made : MethodName := ⟨RX8, "made", "()I"⟩
abbrev cX8_heard : ByteArray := prog_10_method_67_code
def yX8_heard : MethodName := ⟨RX8, "heard", "(I)I"⟩
abbrev cX8_from : ByteArray := prog_10_method_68_code
def yX8_from : MethodName := ⟨RX8, "from", "(II)I"⟩
abbrev cX8_tell : ByteArray := prog_10_method_69_code
def yX8_tell : MethodName := ⟨RX8, "tell", "(I)I"⟩
abbrev cX8_check : ByteArray := prog_10_method_70_code
def yX8_check : MethodName := ⟨RX8, "check", "()I"⟩
abbrev cX8_found : ByteArray := prog_10_method_71_code
def yX8_found : MethodName := ⟨RX8, "found", "(I)I"⟩
def RJ9 : String := "java/lang/Math"
def TJ9 : u_T := fun k => match k with
  | _ => ("", "", "", false)
def tyJ9 : Nat → FieldType := fun k => match k with
  | _ => .int
abbrev wsJ90 : List Cond := u_ws RJ9 TJ9 0
theorem nmJ9 : ∀ a, a < 0 → ∀ b, b < 0 → a ≠ b → (TJ9 a).2.1 ≠ (TJ9 b).2.1 := by decide +kernel
theorem tyJ9_ok : ∀ k, k < 0 → parseFieldDescriptor (TJ9 k).2.2.1 = some (tyJ9 k) := by decide +kernel
abbrev cJ9_floorDiv_7cf53 : ByteArray := prog_11_method_47_code
def yJ9_floorDiv_7cf53 : MethodName := ⟨RJ9, "floorDiv", "(II)I"⟩
abbrev cJ9_abs_0f7a4 : ByteArray := prog_11_method_59_code
def yJ9_abs_0f7a4 : MethodName := ⟨RJ9, "abs", "(I)I"⟩
abbrev cJ9_max_7cf53 : ByteArray := prog_11_method_65_code
def yJ9_max_7cf53 : MethodName := ⟨RJ9, "max", "(II)I"⟩
abbrev cJ9_min_7cf53 : ByteArray := prog_11_method_69_code
def yJ9_min_7cf53 : MethodName := ⟨RJ9, "min", "(II)I"⟩
def RJ7 : String := "java/util/Arrays"
def TJ7 : u_T := fun k => match k with
  | _ => ("", "", "", false)
def tyJ7 : Nat → FieldType := fun k => match k with
  | _ => .int
abbrev wsJ70 : List Cond := u_ws RJ7 TJ7 0
theorem nmJ7 : ∀ a, a < 0 → ∀ b, b < 0 → a ≠ b → (TJ7 a).2.1 ≠ (TJ7 b).2.1 := by decide +kernel
theorem tyJ7_ok : ∀ k, k < 0 → parseFieldDescriptor (TJ7 k).2.2.1 = some (tyJ7 k) := by decide +kernel
abbrev cJ7_fill_53178 : ByteArray := prog_12_method_103_code
def yJ7_fill_53178 : MethodName := ⟨RJ7, "fill", "([II)V"⟩
def RL : String := "TakeDeskLaw"
abbrev cL_law : ByteArray := code
def yL_law : MethodName := ⟨RL, "law", "([I)Z"⟩
