section
-- ===== PART A: goes FIRST, ahead of the names: the tables' words, and 'selects' of the private methods out of them =====
/-- a private method of a class that the tables say can be made, by its rows of tables_1 -/
def lw_okq (q : MethodName × Nat) : Prop := (q.1.cls ≠ "java/lang/invoke/MethodHandle" ∧ q.1.cls ≠ "java/lang/invoke/VarHandle") ∧ Cond.instantiable q.1.cls q.2 ∈ tables_1 ∧ Cond.privateMethod q.1 ∈ tables_1 ∧ Cond.instanceMethod q.1 ∈ tables_1
theorem lw_p0 : lw_okq (⟨"HalfCuts", "refused", "(I)I"⟩, 9) := ⟨⟨by decide +kernel, by decide +kernel⟩, List.mem_of_getElem? (i := 14) (by decide +kernel), List.mem_of_getElem? (i := 205) (by decide +kernel), List.mem_of_getElem? (i := 206) (by decide +kernel)⟩
theorem lw_p1 : lw_okq (⟨"HalfCuts", "failed", "(I)I"⟩, 9) := ⟨⟨by decide +kernel, by decide +kernel⟩, List.mem_of_getElem? (i := 14) (by decide +kernel), List.mem_of_getElem? (i := 220) (by decide +kernel), List.mem_of_getElem? (i := 221) (by decide +kernel)⟩
theorem lw_p2 : lw_okq (⟨"HalfCuts$Text", "takes", "(I)Z"⟩, 3) := ⟨⟨by decide +kernel, by decide +kernel⟩, List.mem_of_getElem? (i := 76) (by decide +kernel), List.mem_of_getElem? (i := 236) (by decide +kernel), List.mem_of_getElem? (i := 237) (by decide +kernel)⟩
theorem lw_p3 : lw_okq (⟨"HalfCuts$Text", "isNext", "(I)Z"⟩, 3) := ⟨⟨by decide +kernel, by decide +kernel⟩, List.mem_of_getElem? (i := 76) (by decide +kernel), List.mem_of_getElem? (i := 240) (by decide +kernel), List.mem_of_getElem? (i := 241) (by decide +kernel)⟩
theorem lw_p4 : lw_okq (⟨"HalfCuts$Text", "readsCell", "(LHalfCuts$Halves;)Z"⟩, 3) := ⟨⟨by decide +kernel, by decide +kernel⟩, List.mem_of_getElem? (i := 76) (by decide +kernel), List.mem_of_getElem? (i := 244) (by decide +kernel), List.mem_of_getElem? (i := 245) (by decide +kernel)⟩
theorem lw_p5 : lw_okq (⟨"HalfCuts$Text", "digit", "(II)I"⟩, 3) := ⟨⟨by decide +kernel, by decide +kernel⟩, List.mem_of_getElem? (i := 76) (by decide +kernel), List.mem_of_getElem? (i := 248) (by decide +kernel), List.mem_of_getElem? (i := 249) (by decide +kernel)⟩
theorem lw_p6 : lw_okq (⟨"HalfCuts$Text", "readsSide", "(LHalfCuts$Halves;I)Z"⟩, 3) := ⟨⟨by decide +kernel, by decide +kernel⟩, List.mem_of_getElem? (i := 76) (by decide +kernel), List.mem_of_getElem? (i := 252) (by decide +kernel), List.mem_of_getElem? (i := 253) (by decide +kernel)⟩
theorem lw_p7 : lw_okq (⟨"HalfCuts$Text", "readsNet", "(LHalfCuts$Halves;)Z"⟩, 3) := ⟨⟨by decide +kernel, by decide +kernel⟩, List.mem_of_getElem? (i := 76) (by decide +kernel), List.mem_of_getElem? (i := 260) (by decide +kernel), List.mem_of_getElem? (i := 261) (by decide +kernel)⟩
theorem lw_p8 : lw_okq (⟨"HalfCuts", "isCell", "(I)Z"⟩, 9) := ⟨⟨by decide +kernel, by decide +kernel⟩, List.mem_of_getElem? (i := 14) (by decide +kernel), List.mem_of_getElem? (i := 279) (by decide +kernel), List.mem_of_getElem? (i := 280) (by decide +kernel)⟩
theorem lw_p9 : lw_okq (⟨"HalfCuts", "noCircuit", "()Z"⟩, 9) := ⟨⟨by decide +kernel, by decide +kernel⟩, List.mem_of_getElem? (i := 14) (by decide +kernel), List.mem_of_getElem? (i := 331) (by decide +kernel), List.mem_of_getElem? (i := 332) (by decide +kernel)⟩
theorem lw_p10 : lw_okq (⟨"HalfCuts", "firstWrong", "(LHalfCuts$Sheet;II)I"⟩, 9) := ⟨⟨by decide +kernel, by decide +kernel⟩, List.mem_of_getElem? (i := 14) (by decide +kernel), List.mem_of_getElem? (i := 422) (by decide +kernel), List.mem_of_getElem? (i := 423) (by decide +kernel)⟩
theorem lw_p11 : lw_okq (⟨"HalfCuts", "isDone", "(II)Z"⟩, 9) := ⟨⟨by decide +kernel, by decide +kernel⟩, List.mem_of_getElem? (i := 14) (by decide +kernel), List.mem_of_getElem? (i := 426) (by decide +kernel), List.mem_of_getElem? (i := 427) (by decide +kernel)⟩
theorem lw_p12 : lw_okq (⟨"HalfCuts", "afterDay", "(I)I"⟩, 9) := ⟨⟨by decide +kernel, by decide +kernel⟩, List.mem_of_getElem? (i := 14) (by decide +kernel), List.mem_of_getElem? (i := 430) (by decide +kernel), List.mem_of_getElem? (i := 431) (by decide +kernel)⟩
theorem lw_p13 : lw_okq (⟨"HalfCuts", "isOfKind", "(II)Z"⟩, 9) := ⟨⟨by decide +kernel, by decide +kernel⟩, List.mem_of_getElem? (i := 14) (by decide +kernel), List.mem_of_getElem? (i := 483) (by decide +kernel), List.mem_of_getElem? (i := 484) (by decide +kernel)⟩
theorem lw_p14 : lw_okq (⟨"HalfCuts", "doubleTold", "(I)I"⟩, 9) := ⟨⟨by decide +kernel, by decide +kernel⟩, List.mem_of_getElem? (i := 14) (by decide +kernel), List.mem_of_getElem? (i := 555) (by decide +kernel), List.mem_of_getElem? (i := 556) (by decide +kernel)⟩
theorem lw_p15 : lw_okq (⟨"HalfCuts", "leaveInTrace", "(I)V"⟩, 9) := ⟨⟨by decide +kernel, by decide +kernel⟩, List.mem_of_getElem? (i := 14) (by decide +kernel), List.mem_of_getElem? (i := 559) (by decide +kernel), List.mem_of_getElem? (i := 560) (by decide +kernel)⟩
def lw_privs_1 : List (MethodName × Nat) := [(⟨"HalfCuts", "refused", "(I)I"⟩, 9), (⟨"HalfCuts", "failed", "(I)I"⟩, 9), (⟨"HalfCuts$Text", "takes", "(I)Z"⟩, 3), (⟨"HalfCuts$Text", "isNext", "(I)Z"⟩, 3), (⟨"HalfCuts$Text", "readsCell", "(LHalfCuts$Halves;)Z"⟩, 3), (⟨"HalfCuts$Text", "digit", "(II)I"⟩, 3), (⟨"HalfCuts$Text", "readsSide", "(LHalfCuts$Halves;I)Z"⟩, 3), (⟨"HalfCuts$Text", "readsNet", "(LHalfCuts$Halves;)Z"⟩, 3), (⟨"HalfCuts", "isCell", "(I)Z"⟩, 9), (⟨"HalfCuts", "noCircuit", "()Z"⟩, 9), (⟨"HalfCuts", "firstWrong", "(LHalfCuts$Sheet;II)I"⟩, 9), (⟨"HalfCuts", "isDone", "(II)Z"⟩, 9), (⟨"HalfCuts", "afterDay", "(I)I"⟩, 9), (⟨"HalfCuts", "isOfKind", "(II)Z"⟩, 9), (⟨"HalfCuts", "doubleTold", "(I)I"⟩, 9), (⟨"HalfCuts", "leaveInTrace", "(I)V"⟩, 9)]
theorem lw_r1 : ∀ q ∈ lw_privs_1, lw_okq q := List.forall_mem_cons.mpr ⟨lw_p0, List.forall_mem_cons.mpr ⟨lw_p1, List.forall_mem_cons.mpr ⟨lw_p2, List.forall_mem_cons.mpr ⟨lw_p3, List.forall_mem_cons.mpr ⟨lw_p4, List.forall_mem_cons.mpr ⟨lw_p5, List.forall_mem_cons.mpr ⟨lw_p6, List.forall_mem_cons.mpr ⟨lw_p7, List.forall_mem_cons.mpr ⟨lw_p8, List.forall_mem_cons.mpr ⟨lw_p9, List.forall_mem_cons.mpr ⟨lw_p10, List.forall_mem_cons.mpr ⟨lw_p11, List.forall_mem_cons.mpr ⟨lw_p12, List.forall_mem_cons.mpr ⟨lw_p13, List.forall_mem_cons.mpr ⟨lw_p14, List.forall_mem_cons.mpr ⟨lw_p15, fun _ h => absurd h List.not_mem_nil⟩⟩⟩⟩⟩⟩⟩⟩⟩⟩⟩⟩⟩⟩⟩⟩
theorem lw_p16 : lw_okq (⟨"HalfCuts", "bulkyTold", "(I)I"⟩, 9) := ⟨⟨by decide +kernel, by decide +kernel⟩, List.mem_of_getElem? (i := 14) (by decide +kernel), List.mem_of_getElem? (i := 563) (by decide +kernel), List.mem_of_getElem? (i := 564) (by decide +kernel)⟩
theorem lw_p17 : lw_okq (⟨"HalfCuts", "plainTold", "(I)I"⟩, 9) := ⟨⟨by decide +kernel, by decide +kernel⟩, List.mem_of_getElem? (i := 14) (by decide +kernel), List.mem_of_getElem? (i := 567) (by decide +kernel), List.mem_of_getElem? (i := 568) (by decide +kernel)⟩
theorem lw_p18 : lw_okq (⟨"HalfCutsModel", "against", "(IIII)I"⟩, 32) := ⟨⟨by decide +kernel, by decide +kernel⟩, List.mem_of_getElem? (i := 591) (by decide +kernel), List.mem_of_getElem? (i := 708) (by decide +kernel), List.mem_of_getElem? (i := 709) (by decide +kernel)⟩
theorem lw_p19 : lw_okq (⟨"HalfCutsModel", "fails", "(I)I"⟩, 32) := ⟨⟨by decide +kernel, by decide +kernel⟩, List.mem_of_getElem? (i := 591) (by decide +kernel), List.mem_of_getElem? (i := 712) (by decide +kernel), List.mem_of_getElem? (i := 713) (by decide +kernel)⟩
theorem lw_p20 : lw_okq (⟨"HalfCutsModel", "readAll", "(I)Z"⟩, 32) := ⟨⟨by decide +kernel, by decide +kernel⟩, List.mem_of_getElem? (i := 591) (by decide +kernel), List.mem_of_getElem? (i := 716) (by decide +kernel), List.mem_of_getElem? (i := 717) (by decide +kernel)⟩
theorem lw_p21 : lw_okq (⟨"HalfCutsModel", "isSign", "(II)Z"⟩, 32) := ⟨⟨by decide +kernel, by decide +kernel⟩, List.mem_of_getElem? (i := 591) (by decide +kernel), List.mem_of_getElem? (i := 720) (by decide +kernel), List.mem_of_getElem? (i := 721) (by decide +kernel)⟩
theorem lw_p22 : lw_okq (⟨"HalfCutsModel", "readCell", "(I)Z"⟩, 32) := ⟨⟨by decide +kernel, by decide +kernel⟩, List.mem_of_getElem? (i := 591) (by decide +kernel), List.mem_of_getElem? (i := 724) (by decide +kernel), List.mem_of_getElem? (i := 725) (by decide +kernel)⟩
theorem lw_p23 : lw_okq (⟨"HalfCutsModel", "readNetNext", "(I)Z"⟩, 32) := ⟨⟨by decide +kernel, by decide +kernel⟩, List.mem_of_getElem? (i := 591) (by decide +kernel), List.mem_of_getElem? (i := 728) (by decide +kernel), List.mem_of_getElem? (i := 729) (by decide +kernel)⟩
theorem lw_p24 : lw_okq (⟨"HalfCutsModel", "isCell", "(I)Z"⟩, 32) := ⟨⟨by decide +kernel, by decide +kernel⟩, List.mem_of_getElem? (i := 591) (by decide +kernel), List.mem_of_getElem? (i := 742) (by decide +kernel), List.mem_of_getElem? (i := 743) (by decide +kernel)⟩
theorem lw_p25 : lw_okq (⟨"HalfCutsModel", "weightOf", "(I)I"⟩, 32) := ⟨⟨by decide +kernel, by decide +kernel⟩, List.mem_of_getElem? (i := 591) (by decide +kernel), List.mem_of_getElem? (i := 746) (by decide +kernel), List.mem_of_getElem? (i := 747) (by decide +kernel)⟩
theorem lw_p26 : lw_okq (⟨"HalfCutsModel", "netsOf", "(I)I"⟩, 32) := ⟨⟨by decide +kernel, by decide +kernel⟩, List.mem_of_getElem? (i := 591) (by decide +kernel), List.mem_of_getElem? (i := 750) (by decide +kernel), List.mem_of_getElem? (i := 751) (by decide +kernel)⟩
theorem lw_p27 : lw_okq (⟨"HalfCutsModel", "gainOf", "(II)I"⟩, 32) := ⟨⟨by decide +kernel, by decide +kernel⟩, List.mem_of_getElem? (i := 591) (by decide +kernel), List.mem_of_getElem? (i := 754) (by decide +kernel), List.mem_of_getElem? (i := 755) (by decide +kernel)⟩
theorem lw_p28 : lw_okq (⟨"HalfCutsModel", "cutsBy", "(I)I"⟩, 32) := ⟨⟨by decide +kernel, by decide +kernel⟩, List.mem_of_getElem? (i := 591) (by decide +kernel), List.mem_of_getElem? (i := 758) (by decide +kernel), List.mem_of_getElem? (i := 759) (by decide +kernel)⟩
theorem lw_p29 : lw_okq (⟨"HalfCutsModel", "isCut", "(II)Z"⟩, 32) := ⟨⟨by decide +kernel, by decide +kernel⟩, List.mem_of_getElem? (i := 591) (by decide +kernel), List.mem_of_getElem? (i := 762) (by decide +kernel), List.mem_of_getElem? (i := 763) (by decide +kernel)⟩
theorem lw_p30 : lw_okq (⟨"HalfCutsModel", "all", "()I"⟩, 32) := ⟨⟨by decide +kernel, by decide +kernel⟩, List.mem_of_getElem? (i := 591) (by decide +kernel), List.mem_of_getElem? (i := 766) (by decide +kernel), List.mem_of_getElem? (i := 767) (by decide +kernel)⟩
theorem lw_p31 : lw_okq (⟨"HalfCutsModel", "weightOfSet", "(I)I"⟩, 32) := ⟨⟨by decide +kernel, by decide +kernel⟩, List.mem_of_getElem? (i := 591) (by decide +kernel), List.mem_of_getElem? (i := 770) (by decide +kernel), List.mem_of_getElem? (i := 771) (by decide +kernel)⟩
def lw_privs_2 : List (MethodName × Nat) := [(⟨"HalfCuts", "bulkyTold", "(I)I"⟩, 9), (⟨"HalfCuts", "plainTold", "(I)I"⟩, 9), (⟨"HalfCutsModel", "against", "(IIII)I"⟩, 32), (⟨"HalfCutsModel", "fails", "(I)I"⟩, 32), (⟨"HalfCutsModel", "readAll", "(I)Z"⟩, 32), (⟨"HalfCutsModel", "isSign", "(II)Z"⟩, 32), (⟨"HalfCutsModel", "readCell", "(I)Z"⟩, 32), (⟨"HalfCutsModel", "readNetNext", "(I)Z"⟩, 32), (⟨"HalfCutsModel", "isCell", "(I)Z"⟩, 32), (⟨"HalfCutsModel", "weightOf", "(I)I"⟩, 32), (⟨"HalfCutsModel", "netsOf", "(I)I"⟩, 32), (⟨"HalfCutsModel", "gainOf", "(II)I"⟩, 32), (⟨"HalfCutsModel", "cutsBy", "(I)I"⟩, 32), (⟨"HalfCutsModel", "isCut", "(II)Z"⟩, 32), (⟨"HalfCutsModel", "all", "()I"⟩, 32), (⟨"HalfCutsModel", "weightOfSet", "(I)I"⟩, 32)]
theorem lw_r2 : ∀ q ∈ lw_privs_2, lw_okq q := List.forall_mem_cons.mpr ⟨lw_p16, List.forall_mem_cons.mpr ⟨lw_p17, List.forall_mem_cons.mpr ⟨lw_p18, List.forall_mem_cons.mpr ⟨lw_p19, List.forall_mem_cons.mpr ⟨lw_p20, List.forall_mem_cons.mpr ⟨lw_p21, List.forall_mem_cons.mpr ⟨lw_p22, List.forall_mem_cons.mpr ⟨lw_p23, List.forall_mem_cons.mpr ⟨lw_p24, List.forall_mem_cons.mpr ⟨lw_p25, List.forall_mem_cons.mpr ⟨lw_p26, List.forall_mem_cons.mpr ⟨lw_p27, List.forall_mem_cons.mpr ⟨lw_p28, List.forall_mem_cons.mpr ⟨lw_p29, List.forall_mem_cons.mpr ⟨lw_p30, List.forall_mem_cons.mpr ⟨lw_p31, fun _ h => absurd h List.not_mem_nil⟩⟩⟩⟩⟩⟩⟩⟩⟩⟩⟩⟩⟩⟩⟩⟩
theorem lw_p32 : lw_okq (⟨"HalfCutsModel", "shareOf", "(II)I"⟩, 32) := ⟨⟨by decide +kernel, by decide +kernel⟩, List.mem_of_getElem? (i := 591) (by decide +kernel), List.mem_of_getElem? (i := 787) (by decide +kernel), List.mem_of_getElem? (i := 788) (by decide +kernel)⟩
theorem lw_p33 : lw_okq (⟨"HalfCutsModel", "isWithin", "(II)Z"⟩, 32) := ⟨⟨by decide +kernel, by decide +kernel⟩, List.mem_of_getElem? (i := 591) (by decide +kernel), List.mem_of_getElem? (i := 791) (by decide +kernel), List.mem_of_getElem? (i := 792) (by decide +kernel)⟩
theorem lw_p34 : lw_okq (⟨"HalfCutsModel", "findPass", "(I)V"⟩, 32) := ⟨⟨by decide +kernel, by decide +kernel⟩, List.mem_of_getElem? (i := 591) (by decide +kernel), List.mem_of_getElem? (i := 812) (by decide +kernel), List.mem_of_getElem? (i := 813) (by decide +kernel)⟩
theorem lw_p35 : lw_okq (⟨"HalfCutsModel", "bestOf", "(III)I"⟩, 32) := ⟨⟨by decide +kernel, by decide +kernel⟩, List.mem_of_getElem? (i := 591) (by decide +kernel), List.mem_of_getElem? (i := 816) (by decide +kernel), List.mem_of_getElem? (i := 817) (by decide +kernel)⟩
theorem lw_p36 : lw_okq (⟨"HalfCutsModel", "isBetter", "(IIII)Z"⟩, 32) := ⟨⟨by decide +kernel, by decide +kernel⟩, List.mem_of_getElem? (i := 591) (by decide +kernel), List.mem_of_getElem? (i := 820) (by decide +kernel), List.mem_of_getElem? (i := 821) (by decide +kernel)⟩
theorem lw_p37 : lw_okq (⟨"HalfCutsModel", "goDay", "(II)I"⟩, 32) := ⟨⟨by decide +kernel, by decide +kernel⟩, List.mem_of_getElem? (i := 591) (by decide +kernel), List.mem_of_getElem? (i := 839) (by decide +kernel), List.mem_of_getElem? (i := 840) (by decide +kernel)⟩
theorem lw_p38 : lw_okq (⟨"HalfCutsModel", "does", "(II)Z"⟩, 32) := ⟨⟨by decide +kernel, by decide +kernel⟩, List.mem_of_getElem? (i := 591) (by decide +kernel), List.mem_of_getElem? (i := 843) (by decide +kernel), List.mem_of_getElem? (i := 844) (by decide +kernel)⟩
theorem lw_p39 : lw_okq (⟨"HalfCutsModel", "tellDay", "(I)I"⟩, 32) := ⟨⟨by decide +kernel, by decide +kernel⟩, List.mem_of_getElem? (i := 591) (by decide +kernel), List.mem_of_getElem? (i := 847) (by decide +kernel), List.mem_of_getElem? (i := 848) (by decide +kernel)⟩
theorem lw_p40 : lw_okq (⟨"HalfCutsModel", "areSo", "()Z"⟩, 32) := ⟨⟨by decide +kernel, by decide +kernel⟩, List.mem_of_getElem? (i := 591) (by decide +kernel), List.mem_of_getElem? (i := 887) (by decide +kernel), List.mem_of_getElem? (i := 888) (by decide +kernel)⟩
theorem lw_p41 : lw_okq (⟨"HalfCutsModel", "lost", "(I)J"⟩, 32) := ⟨⟨by decide +kernel, by decide +kernel⟩, List.mem_of_getElem? (i := 591) (by decide +kernel), List.mem_of_getElem? (i := 919) (by decide +kernel), List.mem_of_getElem? (i := 920) (by decide +kernel)⟩
theorem lw_p42 : lw_okq (⟨"HalfCutsModel", "begins", "(I)V"⟩, 32) := ⟨⟨by decide +kernel, by decide +kernel⟩, List.mem_of_getElem? (i := 591) (by decide +kernel), List.mem_of_getElem? (i := 931) (by decide +kernel), List.mem_of_getElem? (i := 932) (by decide +kernel)⟩
def lw_privs_3 : List (MethodName × Nat) := [(⟨"HalfCutsModel", "shareOf", "(II)I"⟩, 32), (⟨"HalfCutsModel", "isWithin", "(II)Z"⟩, 32), (⟨"HalfCutsModel", "findPass", "(I)V"⟩, 32), (⟨"HalfCutsModel", "bestOf", "(III)I"⟩, 32), (⟨"HalfCutsModel", "isBetter", "(IIII)Z"⟩, 32), (⟨"HalfCutsModel", "goDay", "(II)I"⟩, 32), (⟨"HalfCutsModel", "does", "(II)Z"⟩, 32), (⟨"HalfCutsModel", "tellDay", "(I)I"⟩, 32), (⟨"HalfCutsModel", "areSo", "()Z"⟩, 32), (⟨"HalfCutsModel", "lost", "(I)J"⟩, 32), (⟨"HalfCutsModel", "begins", "(I)V"⟩, 32)]
theorem lw_r3 : ∀ q ∈ lw_privs_3, lw_okq q := List.forall_mem_cons.mpr ⟨lw_p32, List.forall_mem_cons.mpr ⟨lw_p33, List.forall_mem_cons.mpr ⟨lw_p34, List.forall_mem_cons.mpr ⟨lw_p35, List.forall_mem_cons.mpr ⟨lw_p36, List.forall_mem_cons.mpr ⟨lw_p37, List.forall_mem_cons.mpr ⟨lw_p38, List.forall_mem_cons.mpr ⟨lw_p39, List.forall_mem_cons.mpr ⟨lw_p40, List.forall_mem_cons.mpr ⟨lw_p41, List.forall_mem_cons.mpr ⟨lw_p42, fun _ h => absurd h List.not_mem_nil⟩⟩⟩⟩⟩⟩⟩⟩⟩⟩⟩
def lw_privs : List (MethodName × Nat) := lw_privs_1 ++ (lw_privs_2 ++ (lw_privs_3))
def lw_tbl : List Cond := k2_sels lw_privs ++ tables_1
theorem lw_privs_ok : ∀ q ∈ lw_privs, lw_okq q := by
  show ∀ q ∈ lw_privs_1 ++ (lw_privs_2 ++ (lw_privs_3)), lw_okq q
  exact List.forall_mem_append.mpr ⟨lw_r1, List.forall_mem_append.mpr ⟨lw_r2, lw_r3⟩⟩
end
section
def RX0 : String := "HalfCuts$Halves"
def TX0 : u_T := fun k => match k with
  | 0 => ("HalfCuts$Halves", "cells", "I", false)
  | 1 => ("HalfCuts$Halves", "nets", "I", false)
  | 2 => ("HalfCuts$Halves", "right", "I", false)
  | 3 => ("HalfCuts$Halves", "fixed", "I", false)
  | 4 => ("HalfCuts$Halves", "bound", "I", false)
  | 5 => ("HalfCuts$Halves", "kind", "[I", true)
  | 6 => ("HalfCuts$Halves", "bulk", "[I", true)
  | 7 => ("HalfCuts$Halves", "weight", "[I", true)
  | _ => ("HalfCuts$Halves", "net", "[I", true)
def tyX0 : Nat → FieldType := fun k => match k with
  | 0 => .int
  | 1 => .int
  | 2 => .int
  | 3 => .int
  | 4 => .int
  | 5 => .array .int
  | 6 => .array .int
  | 7 => .array .int
  | _ => .array .int
theorem nmX0 : ∀ a, a < 9 → ∀ b, b < 9 → a ≠ b → (TX0 a).2.1 ≠ (TX0 b).2.1 := by decide +kernel
theorem tyX0_ok : ∀ k, k < 9 → parseFieldDescriptor (TX0 k).2.2.1 = some (tyX0 k) := by decide +kernel
abbrev cX0_init : ByteArray := prog_2_method_1_code
def yX0_init : MethodName := ⟨RX0, "<init>", "()V"⟩
abbrev cX0_clear : ByteArray := prog_2_method_2_code
def yX0_clear : MethodName := ⟨RX0, "clear", "()V"⟩
abbrev cX0_become : ByteArray := prog_2_method_3_code
def yX0_become : MethodName := ⟨RX0, "become", "(LHalfCuts$Halves;)V"⟩
abbrev cX0_all : ByteArray := prog_2_method_4_code
def yX0_all : MethodName := ⟨RX0, "all", "()I"⟩
abbrev cX0_left : ByteArray := prog_2_method_5_code
def yX0_left : MethodName := ⟨RX0, "left", "()I"⟩
abbrev cX0_sideOf : ByteArray := prog_2_method_6_code
def yX0_sideOf : MethodName := ⟨RX0, "sideOf", "(I)I"⟩
abbrev cX0_isFixed : ByteArray := prog_2_method_7_code
def yX0_isFixed : MethodName := ⟨RX0, "isFixed", "(I)Z"⟩
abbrev cX0_flip : ByteArray := prog_2_method_8_code
def yX0_flip : MethodName := ⟨RX0, "flip", "(I)V"⟩
abbrev cX0_set : ByteArray := prog_2_method_9_code
def yX0_set : MethodName := ⟨RX0, "set", "(III)V"⟩
abbrev cX0_weightOf : ByteArray := prog_2_method_10_code
def yX0_weightOf : MethodName := ⟨RX0, "weightOf", "(I)I"⟩
abbrev cX0_shareOf : ByteArray := prog_2_method_11_code
def yX0_shareOf : MethodName := ⟨RX0, "shareOf", "(I)I"⟩
abbrev cX0_isWithin : ByteArray := prog_2_method_12_code
def yX0_isWithin : MethodName := ⟨RX0, "isWithin", "(I)Z"⟩
abbrev cX0_netsOf : ByteArray := prog_2_method_13_code
def yX0_netsOf : MethodName := ⟨RX0, "netsOf", "(I)I"⟩
abbrev cX0_cutsBy : ByteArray := prog_2_method_14_code
def yX0_cutsBy : MethodName := ⟨RX0, "cutsBy", "(I)I"⟩
abbrev cX0_cuts : ByteArray := prog_2_method_15_code
def yX0_cuts : MethodName := ⟨RX0, "cuts", "()I"⟩
abbrev cX0_gain : ByteArray := prog_2_method_16_code
def yX0_gain : MethodName := ⟨RX0, "gain", "(I)I"⟩
abbrev cX0_keepsFixed : ByteArray := prog_2_method_17_code
def yX0_keepsFixed : MethodName := ⟨RX0, "keepsFixed", "(I)Z"⟩
abbrev cX0_isWithinAfterMove : ByteArray := prog_2_method_18_code
def yX0_isWithinAfterMove : MethodName := ⟨RX0, "isWithinAfterMove", "(I)Z"⟩
abbrev cX0_leastCut : ByteArray := prog_2_method_19_code
def yX0_leastCut : MethodName := ⟨RX0, "leastCut", "()I"⟩
def RX1 : String := "HalfCuts$Pass"
def TX1 : u_T := fun k => match k with
  | 0 => ("HalfCuts$Pass", "moved", "[I", true)
  | 1 => ("HalfCuts$Pass", "moves", "I", false)
  | _ => ("HalfCuts$Pass", "kept", "I", false)
def tyX1 : Nat → FieldType := fun k => match k with
  | 0 => .array .int
  | 1 => .int
  | _ => .int
theorem nmX1 : ∀ a, a < 3 → ∀ b, b < 3 → a ≠ b → (TX1 a).2.1 ≠ (TX1 b).2.1 := by decide +kernel
theorem tyX1_ok : ∀ k, k < 3 → parseFieldDescriptor (TX1 k).2.2.1 = some (tyX1 k) := by decide +kernel
abbrev cX1_init : ByteArray := prog_3_method_1_code
def yX1_init : MethodName := ⟨RX1, "<init>", "()V"⟩
abbrev cX1_run : ByteArray := prog_3_method_2_code
def yX1_run : MethodName := ⟨RX1, "run", "(LHalfCuts$Halves;I)V"⟩
abbrev cX1_movedAt : ByteArray := prog_3_method_3_code
def yX1_movedAt : MethodName := ⟨RX1, "movedAt", "(I)I"⟩
abbrev cX1_bestCell : ByteArray := prog_3_method_4_code
def yX1_bestCell : MethodName := ⟨RX1, "bestCell", "(LHalfCuts$Halves;II)I"⟩
abbrev cX1_isBetter : ByteArray := prog_3_method_5_code
def yX1_isBetter : MethodName := ⟨RX1, "isBetter", "(IIIII)Z"⟩
def RX2 : String := "HalfCuts$Rack"
def TX2 : u_T := fun k => match k with
  | 0 => ("HalfCuts$Rack", "stands", "Z", false)
  | 1 => ("HalfCuts$Rack", "kind", "I", false)
  | 2 => ("HalfCuts$Rack", "places", "I", false)
  | _ => ("HalfCuts$Rack", "held", "[I", true)
def tyX2 : Nat → FieldType := fun k => match k with
  | 0 => .boolean
  | 1 => .int
  | 2 => .int
  | _ => .array .int
theorem nmX2 : ∀ a, a < 4 → ∀ b, b < 4 → a ≠ b → (TX2 a).2.1 ≠ (TX2 b).2.1 := by decide +kernel
theorem tyX2_ok : ∀ k, k < 4 → parseFieldDescriptor (TX2 k).2.2.1 = some (tyX2 k) := by decide +kernel
abbrev cX2_init : ByteArray := prog_4_method_1_code
def yX2_init : MethodName := ⟨RX2, "<init>", "()V"⟩
abbrev cX2_renew : ByteArray := prog_4_method_2_code
def yX2_renew : MethodName := ⟨RX2, "renew", "(II)V"⟩
abbrev cX2_faultAt : ByteArray := prog_4_method_3_code
def yX2_faultAt : MethodName := ⟨RX2, "faultAt", "(I)I"⟩
def RX3 : String := "HalfCuts$Readings"
def TX3 : u_T := fun k => match k with
  | 0 => ("HalfCuts$Readings", "count", "I", false)
  | 1 => ("HalfCuts$Readings", "about", "[I", true)
  | _ => ("HalfCuts$Readings", "bits", "[I", true)
def tyX3 : Nat → FieldType := fun k => match k with
  | 0 => .int
  | 1 => .array .int
  | _ => .array .int
theorem nmX3 : ∀ a, a < 3 → ∀ b, b < 3 → a ≠ b → (TX3 a).2.1 ≠ (TX3 b).2.1 := by decide +kernel
theorem tyX3_ok : ∀ k, k < 3 → parseFieldDescriptor (TX3 k).2.2.1 = some (tyX3 k) := by decide +kernel
abbrev cX3_init : ByteArray := prog_5_method_1_code
def yX3_init : MethodName := ⟨RX3, "<init>", "()V"⟩
abbrev cX3_add : ByteArray := prog_5_method_2_code
def yX3_add : MethodName := ⟨RX3, "add", "(II)I"⟩
abbrev cX3_areSoBy : ByteArray := prog_5_method_3_code
def yX3_areSoBy : MethodName := ⟨RX3, "areSoBy", "(LHalfCuts$Halves;)Z"⟩
def RX4 : String := "HalfCuts$Sheet"
def TX4 : u_T := fun k => match k with
  | 0 => ("HalfCuts$Sheet", "lane", "I", false)
  | 1 => ("HalfCuts$Sheet", "size", "I", false)
  | _ => ("HalfCuts$Sheet", "row", "[I", true)
def tyX4 : Nat → FieldType := fun k => match k with
  | 0 => .int
  | 1 => .int
  | _ => .array .int
theorem nmX4 : ∀ a, a < 3 → ∀ b, b < 3 → a ≠ b → (TX4 a).2.1 ≠ (TX4 b).2.1 := by decide +kernel
theorem tyX4_ok : ∀ k, k < 3 → parseFieldDescriptor (TX4 k).2.2.1 = some (tyX4 k) := by decide +kernel
abbrev cX4_init : ByteArray := prog_6_method_1_code
def yX4_init : MethodName := ⟨RX4, "<init>", "()V"⟩
abbrev cX4_renew : ByteArray := prog_6_method_2_code
def yX4_renew : MethodName := ⟨RX4, "renew", "(II)V"⟩
abbrev cX4_faultAs : ByteArray := prog_6_method_3_code
def yX4_faultAs : MethodName := ⟨RX4, "faultAs", "(I)I"⟩
abbrev cX4_has : ByteArray := prog_6_method_4_code
def yX4_has : MethodName := ⟨RX4, "has", "(II)Z"⟩
def RX5 : String := "HalfCuts$Text"
def TX5 : u_T := fun k => match k with
  | 0 => ("HalfCuts$Text", "codes", "[I", true)
  | 1 => ("HalfCuts$Text", "count", "I", false)
  | _ => ("HalfCuts$Text", "at", "I", false)
def tyX5 : Nat → FieldType := fun k => match k with
  | 0 => .array .int
  | 1 => .int
  | _ => .int
theorem nmX5 : ∀ a, a < 3 → ∀ b, b < 3 → a ≠ b → (TX5 a).2.1 ≠ (TX5 b).2.1 := by decide +kernel
theorem tyX5_ok : ∀ k, k < 3 → parseFieldDescriptor (TX5 k).2.2.1 = some (tyX5 k) := by decide +kernel
abbrev cX5_init : ByteArray := prog_7_method_1_code
def yX5_init : MethodName := ⟨RX5, "<init>", "()V"⟩
abbrev cX5_isRead : ByteArray := prog_7_method_2_code
def yX5_isRead : MethodName := ⟨RX5, "isRead", "(LHalfCuts$Sheet;IILHalfCuts$Halves;)Z"⟩
abbrev cX5_isNext : ByteArray := prog_7_method_3_code
def yX5_isNext : MethodName := ⟨RX5, "isNext", "(I)Z"⟩
abbrev cX5_takes : ByteArray := prog_7_method_4_code
def yX5_takes : MethodName := ⟨RX5, "takes", "(I)Z"⟩
abbrev cX5_readsCell : ByteArray := prog_7_method_5_code
def yX5_readsCell : MethodName := ⟨RX5, "readsCell", "(LHalfCuts$Halves;)Z"⟩
abbrev cX5_readsSide : ByteArray := prog_7_method_6_code
def yX5_readsSide : MethodName := ⟨RX5, "readsSide", "(LHalfCuts$Halves;I)Z"⟩
abbrev cX5_readsNet : ByteArray := prog_7_method_7_code
def yX5_readsNet : MethodName := ⟨RX5, "readsNet", "(LHalfCuts$Halves;)Z"⟩
abbrev cX5_digit : ByteArray := prog_7_method_8_code
def yX5_digit : MethodName := ⟨RX5, "digit", "(II)I"⟩
def RX6 : String := "HalfCuts"
def TX6 : u_T := fun k => match k with
  | 0 => ("HalfCuts", "sheets", "[LHalfCuts$Sheet;", true)
  | 1 => ("HalfCuts", "now", "LHalfCuts$Halves;", true)
  | 2 => ("HalfCuts", "trial", "LHalfCuts$Halves;", true)
  | 3 => ("HalfCuts", "text", "LHalfCuts$Text;", true)
  | 4 => ("HalfCuts", "latestPass", "LHalfCuts$Pass;", true)
  | 5 => ("HalfCuts", "shelf", "LHalfCuts$Rack;", true)
  | 6 => ("HalfCuts", "seen", "LHalfCuts$Readings;", true)
  | 7 => ("HalfCuts", "traced", "I", false)
  | _ => ("HalfCuts", "latestFault", "I", false)
def tyX6 : Nat → FieldType := fun k => match k with
  | 0 => .array (.object "HalfCuts$Sheet")
  | 1 => .object "HalfCuts$Halves"
  | 2 => .object "HalfCuts$Halves"
  | 3 => .object "HalfCuts$Text"
  | 4 => .object "HalfCuts$Pass"
  | 5 => .object "HalfCuts$Rack"
  | 6 => .object "HalfCuts$Readings"
  | 7 => .int
  | _ => .int
theorem nmX6 : ∀ a, a < 9 → ∀ b, b < 9 → a ≠ b → (TX6 a).2.1 ≠ (TX6 b).2.1 := by decide +kernel
theorem tyX6_ok : ∀ k, k < 9 → parseFieldDescriptor (TX6 k).2.2.1 = some (tyX6 k) := by decide +kernel
abbrev cX6_init : ByteArray := prog_1_method_1_code
def yX6_init : MethodName := ⟨RX6, "<init>", "()V"⟩
abbrev cX6_circuit : ByteArray := prog_1_method_2_code
def yX6_circuit : MethodName := ⟨RX6, "circuit", "(IIII)I"⟩
abbrev cX6_ofCell : ByteArray := prog_1_method_3_code
def yX6_ofCell : MethodName := ⟨RX6, "ofCell", "(II)I"⟩
abbrev cX6_ofNet : ByteArray := prog_1_method_4_code
def yX6_ofNet : MethodName := ⟨RX6, "ofNet", "(II)I"⟩
abbrev cX6_ofSide : ByteArray := prog_1_method_5_code
def yX6_ofSide : MethodName := ⟨RX6, "ofSide", "(II)I"⟩
abbrev cX6_bulk : ByteArray := prog_1_method_6_code
def yX6_bulk : MethodName := ⟨RX6, "bulk", "(II)I"⟩
abbrev cX6_bound : ByteArray := prog_1_method_7_code
def yX6_bound : MethodName := ⟨RX6, "bound", "(I)I"⟩
abbrev cX6_move : ByteArray := prog_1_method_8_code
def yX6_move : MethodName := ⟨RX6, "move", "(I)I"⟩
abbrev cX6_pass : ByteArray := prog_1_method_9_code
def yX6_pass : MethodName := ⟨RX6, "pass", "(I)I"⟩
abbrev cX6_tries : ByteArray := prog_1_method_10_code
def yX6_tries : MethodName := ⟨RX6, "tries", "(II)I"⟩
abbrev cX6_settle : ByteArray := prog_1_method_11_code
def yX6_settle : MethodName := ⟨RX6, "settle", "(I)I"⟩
abbrev cX6_day : ByteArray := prog_1_method_12_code
def yX6_day : MethodName := ⟨RX6, "day", "(IIIII)I"⟩
abbrev cX6_least : ByteArray := prog_1_method_13_code
def yX6_least : MethodName := ⟨RX6, "least", "(I)I"⟩
abbrev cX6_apart : ByteArray := prog_1_method_14_code
def yX6_apart : MethodName := ⟨RX6, "apart", "(II)I"⟩
abbrev cX6_closest : ByteArray := prog_1_method_15_code
def yX6_closest : MethodName := ⟨RX6, "closest", "(I)I"⟩
abbrev cX6_rack : ByteArray := prog_1_method_16_code
def yX6_rack : MethodName := ⟨RX6, "rack", "(II)I"⟩
abbrev cX6_stow : ByteArray := prog_1_method_17_code
def yX6_stow : MethodName := ⟨RX6, "stow", "(II)I"⟩
abbrev cX6_stowed : ByteArray := prog_1_method_18_code
def yX6_stowed : MethodName := ⟨RX6, "stowed", "(I)I"⟩
abbrev cX6_reading : ByteArray := prog_1_method_19_code
def yX6_reading : MethodName := ⟨RX6, "reading", "(II)I"⟩
abbrev cX6_back : ByteArray := prog_1_method_20_code
def yX6_back : MethodName := ⟨RX6, "back", "(I)I"⟩
abbrev cX6_kinds : ByteArray := prog_1_method_21_code
def yX6_kinds : MethodName := ⟨RX6, "kinds", "(I)I"⟩
abbrev cX6_bulks : ByteArray := prog_1_method_22_code
def yX6_bulks : MethodName := ⟨RX6, "bulks", "(I)I"⟩
abbrev cX6_odds : ByteArray := prog_1_method_23_code
def yX6_odds : MethodName := ⟨RX6, "odds", "(II)J"⟩
abbrev cX6_sheet : ByteArray := prog_1_method_24_code
def yX6_sheet : MethodName := ⟨RX6, "sheet", "(III)I"⟩
abbrev cX6_lose : ByteArray := prog_1_method_25_code
def yX6_lose : MethodName := ⟨RX6, "lose", "(I)I"⟩
abbrev cX6_put : ByteArray := prog_1_method_26_code
def yX6_put : MethodName := ⟨RX6, "put", "(III)I"⟩
abbrev cX6_cell : ByteArray := prog_1_method_27_code
def yX6_cell : MethodName := ⟨RX6, "cell", "(III)J"⟩
abbrev cX6_copy : ByteArray := prog_1_method_28_code
def yX6_copy : MethodName := ⟨RX6, "copy", "(IIIII)I"⟩
abbrev cX6_tell : ByteArray := prog_1_method_29_code
def yX6_tell : MethodName := ⟨RX6, "tell", "(I)I"⟩
abbrev cX6_probe : ByteArray := prog_1_method_30_code
def yX6_probe : MethodName := ⟨RX6, "probe", "(I)I"⟩
abbrev cX6_as : ByteArray := prog_1_method_31_code
def yX6_as : MethodName := ⟨RX6, "as", "(II)I"⟩
abbrev cX6_trace : ByteArray := prog_1_method_32_code
def yX6_trace : MethodName := ⟨RX6, "trace", "()I"⟩
abbrev cX6_fault : ByteArray := prog_1_method_33_code
def yX6_fault : MethodName := ⟨RX6, "fault", "()I"⟩
abbrev cX6_many : ByteArray := prog_1_method_34_code
def yX6_many : MethodName := ⟨RX6, "many", "(I)I"⟩
abbrev cX6_refused : ByteArray := prog_1_method_35_code
def yX6_refused : MethodName := ⟨RX6, "refused", "(I)I"⟩
abbrev cX6_failed : ByteArray := prog_1_method_36_code
def yX6_failed : MethodName := ⟨RX6, "failed", "(I)I"⟩
abbrev cX6_noCircuit : ByteArray := prog_1_method_37_code
def yX6_noCircuit : MethodName := ⟨RX6, "noCircuit", "()Z"⟩
abbrev cX6_isCell : ByteArray := prog_1_method_38_code
def yX6_isCell : MethodName := ⟨RX6, "isCell", "(I)Z"⟩
abbrev cX6_isOfKind : ByteArray := prog_1_method_39_code
def yX6_isOfKind : MethodName := ⟨RX6, "isOfKind", "(II)Z"⟩
abbrev cX6_isSheet : ByteArray := prog_1_method_40_code
def yX6_isSheet : MethodName := ⟨RX6, "isSheet", "(I)Z"⟩
abbrev cX6_isLane : ByteArray := prog_1_method_41_code
def yX6_isLane : MethodName := ⟨RX6, "isLane", "(I)Z"⟩
abbrev cX6_isKind : ByteArray := prog_1_method_42_code
def yX6_isKind : MethodName := ⟨RX6, "isKind", "(I)Z"⟩
abbrev cX6_isBulk : ByteArray := prog_1_method_43_code
def yX6_isBulk : MethodName := ⟨RX6, "isBulk", "(I)Z"⟩
abbrev cX6_isManner : ByteArray := prog_1_method_44_code
def yX6_isManner : MethodName := ⟨RX6, "isManner", "(I)Z"⟩
abbrev cX6_isAsked : ByteArray := prog_1_method_45_code
def yX6_isAsked : MethodName := ⟨RX6, "isAsked", "(II)Z"⟩
abbrev cX6_cutToLane : ByteArray := prog_1_method_46_code
def yX6_cutToLane : MethodName := ⟨RX6, "cutToLane", "(II)I"⟩
abbrev cX6_isCutBy : ByteArray := prog_1_method_47_code
def yX6_isCutBy : MethodName := ⟨RX6, "isCutBy", "(II)Z"⟩
abbrev cX6_floatBits : ByteArray := prog_1_method_48_code
def yX6_floatBits : MethodName := ⟨RX6, "floatBits", "(II)I"⟩
abbrev cX6_areActs : ByteArray := prog_1_method_49_code
def yX6_areActs : MethodName := ⟨RX6, "areActs", "(LHalfCuts$Sheet;II)Z"⟩
abbrev cX6_isAct : ByteArray := prog_1_method_50_code
def yX6_isAct : MethodName := ⟨RX6, "isAct", "(II)Z"⟩
abbrev cX6_firstWrong : ByteArray := prog_1_method_51_code
def yX6_firstWrong : MethodName := ⟨RX6, "firstWrong", "(LHalfCuts$Sheet;II)I"⟩
abbrev cX6_isDone : ByteArray := prog_1_method_52_code
def yX6_isDone : MethodName := ⟨RX6, "isDone", "(II)Z"⟩
abbrev cX6_afterDay : ByteArray := prog_1_method_53_code
def yX6_afterDay : MethodName := ⟨RX6, "afterDay", "(I)I"⟩
abbrev cX6_leaveInTrace : ByteArray := prog_1_method_54_code
def yX6_leaveInTrace : MethodName := ⟨RX6, "leaveInTrace", "(I)V"⟩
abbrev cX6_plainTold : ByteArray := prog_1_method_55_code
def yX6_plainTold : MethodName := ⟨RX6, "plainTold", "(I)I"⟩
abbrev cX6_bulkyTold : ByteArray := prog_1_method_56_code
def yX6_bulkyTold : MethodName := ⟨RX6, "bulkyTold", "(I)I"⟩
abbrev cX6_doubleTold : ByteArray := prog_1_method_57_code
def yX6_doubleTold : MethodName := ⟨RX6, "doubleTold", "(I)I"⟩
def RX7 : String := "HalfCutsModel"
def TX7 : u_T := fun k => match k with
  | 0 => ("HalfCutsModel", "fault", "I", false)
  | 1 => ("HalfCutsModel", "trace", "I", false)
  | 2 => ("HalfCutsModel", "sorts", "[I", true)
  | 3 => ("HalfCutsModel", "sheetLong", "[I", true)
  | 4 => ("HalfCutsModel", "cells", "[I", true)
  | 5 => ("HalfCutsModel", "many", "I", false)
  | 6 => ("HalfCutsModel", "nets", "I", false)
  | 7 => ("HalfCutsModel", "right", "I", false)
  | 8 => ("HalfCutsModel", "fixed", "I", false)
  | 9 => ("HalfCutsModel", "bound", "I", false)
  | 10 => ("HalfCutsModel", "rackKind", "I", false)
  | 11 => ("HalfCutsModel", "rackLong", "I", false)
  | 12 => ("HalfCutsModel", "rack", "[I", true)
  | 13 => ("HalfCutsModel", "kind", "[I", true)
  | 14 => ("HalfCutsModel", "bulk", "[I", true)
  | 15 => ("HalfCutsModel", "net", "[I", true)
  | 16 => ("HalfCutsModel", "at", "I", false)
  | 17 => ("HalfCutsModel", "readMany", "I", false)
  | 18 => ("HalfCutsModel", "readNets", "I", false)
  | 19 => ("HalfCutsModel", "readRight", "I", false)
  | 20 => ("HalfCutsModel", "readFixed", "I", false)
  | 21 => ("HalfCutsModel", "readKind", "[I", true)
  | 22 => ("HalfCutsModel", "readBulk", "[I", true)
  | 23 => ("HalfCutsModel", "readNet", "[I", true)
  | 24 => ("HalfCutsModel", "moved", "[I", true)
  | 25 => ("HalfCutsModel", "moves", "I", false)
  | 26 => ("HalfCutsModel", "stay", "I", false)
  | 27 => ("HalfCutsModel", "rightStays", "I", false)
  | 28 => ("HalfCutsModel", "keptBulk", "[I", true)
  | 29 => ("HalfCutsModel", "readings", "I", false)
  | 30 => ("HalfCutsModel", "readOf", "[I", true)
  | _ => ("HalfCutsModel", "readBits", "[I", true)
def tyX7 : Nat → FieldType := fun k => match k with
  | 0 => .int
  | 1 => .int
  | 2 => .array .int
  | 3 => .array .int
  | 4 => .array .int
  | 5 => .int
  | 6 => .int
  | 7 => .int
  | 8 => .int
  | 9 => .int
  | 10 => .int
  | 11 => .int
  | 12 => .array .int
  | 13 => .array .int
  | 14 => .array .int
  | 15 => .array .int
  | 16 => .int
  | 17 => .int
  | 18 => .int
  | 19 => .int
  | 20 => .int
  | 21 => .array .int
  | 22 => .array .int
  | 23 => .array .int
  | 24 => .array .int
  | 25 => .int
  | 26 => .int
  | 27 => .int
  | 28 => .array .int
  | 29 => .int
  | 30 => .array .int
  | _ => .array .int
theorem nmX7 : ∀ a, a < 32 → ∀ b, b < 32 → a ≠ b → (TX7 a).2.1 ≠ (TX7 b).2.1 := by decide +kernel
theorem tyX7_ok : ∀ k, k < 32 → parseFieldDescriptor (TX7 k).2.2.1 = some (tyX7 k) := by decide +kernel
abbrev cX7_init : ByteArray := prog_9_method_1_code
def yX7_init : MethodName := ⟨RX7, "<init>", "()V"⟩
abbrev cX7_fails : ByteArray := prog_9_method_3_code
def yX7_fails : MethodName := ⟨RX7, "fails", "(I)I"⟩
abbrev cX7_lost : ByteArray := prog_9_method_4_code
def yX7_lost : MethodName := ⟨RX7, "lost", "(I)J"⟩
abbrev cX7_within : ByteArray := prog_9_method_5_code
def yX7_within : MethodName := ⟨RX7, "within", "(III)Z"⟩
abbrev cX7_isSheet : ByteArray := prog_9_method_6_code
def yX7_isSheet : MethodName := ⟨RX7, "isSheet", "(I)Z"⟩
abbrev cX7_isSort : ByteArray := prog_9_method_7_code
def yX7_isSort : MethodName := ⟨RX7, "isSort", "(I)Z"⟩
abbrev cX7_against : ByteArray := prog_9_method_8_code
def yX7_against : MethodName := ⟨RX7, "against", "(IIII)I"⟩
abbrev cX7_isCell : ByteArray := prog_9_method_9_code
def yX7_isCell : MethodName := ⟨RX7, "isCell", "(I)Z"⟩
abbrev cX7_isOf : ByteArray := prog_9_method_10_code
def yX7_isOf : MethodName := ⟨RX7, "isOf", "(II)Z"⟩
abbrev cX7_size : ByteArray := prog_9_method_11_code
def yX7_size : MethodName := ⟨RX7, "size", "(I)I"⟩
abbrev cX7_isSign : ByteArray := prog_9_method_12_code
def yX7_isSign : MethodName := ⟨RX7, "isSign", "(II)Z"⟩
abbrev cX7_circuit : ByteArray := prog_9_method_13_code
def yX7_circuit : MethodName := ⟨RX7, "circuit", "(IIII)I"⟩
abbrev cX7_readAll : ByteArray := prog_9_method_14_code
def yX7_readAll : MethodName := ⟨RX7, "readAll", "(I)Z"⟩
abbrev cX7_readCell : ByteArray := prog_9_method_15_code
def yX7_readCell : MethodName := ⟨RX7, "readCell", "(I)Z"⟩
abbrev cX7_readNetNext : ByteArray := prog_9_method_16_code
def yX7_readNetNext : MethodName := ⟨RX7, "readNetNext", "(I)Z"⟩
abbrev cX7_weightOf : ByteArray := prog_9_method_17_code
def yX7_weightOf : MethodName := ⟨RX7, "weightOf", "(I)I"⟩
abbrev cX7_weightOfSet : ByteArray := prog_9_method_18_code
def yX7_weightOfSet : MethodName := ⟨RX7, "weightOfSet", "(I)I"⟩
abbrev cX7_all : ByteArray := prog_9_method_19_code
def yX7_all : MethodName := ⟨RX7, "all", "()I"⟩
abbrev cX7_floatOf : ByteArray := prog_9_method_20_code
def yX7_floatOf : MethodName := ⟨RX7, "floatOf", "(II)I"⟩
abbrev cX7_shareOf : ByteArray := prog_9_method_21_code
def yX7_shareOf : MethodName := ⟨RX7, "shareOf", "(II)I"⟩
abbrev cX7_isWithin : ByteArray := prog_9_method_22_code
def yX7_isWithin : MethodName := ⟨RX7, "isWithin", "(II)Z"⟩
abbrev cX7_isCut : ByteArray := prog_9_method_23_code
def yX7_isCut : MethodName := ⟨RX7, "isCut", "(II)Z"⟩
abbrev cX7_cutsBy : ByteArray := prog_9_method_24_code
def yX7_cutsBy : MethodName := ⟨RX7, "cutsBy", "(I)I"⟩
abbrev cX7_gainOf : ByteArray := prog_9_method_25_code
def yX7_gainOf : MethodName := ⟨RX7, "gainOf", "(II)I"⟩
abbrev cX7_netsOf : ByteArray := prog_9_method_26_code
def yX7_netsOf : MethodName := ⟨RX7, "netsOf", "(I)I"⟩
abbrev cX7_ofCell : ByteArray := prog_9_method_27_code
def yX7_ofCell : MethodName := ⟨RX7, "ofCell", "(II)I"⟩
abbrev cX7_ofNet : ByteArray := prog_9_method_28_code
def yX7_ofNet : MethodName := ⟨RX7, "ofNet", "(II)I"⟩
abbrev cX7_ofSide : ByteArray := prog_9_method_29_code
def yX7_ofSide : MethodName := ⟨RX7, "ofSide", "(II)I"⟩
abbrev cX7_bulk : ByteArray := prog_9_method_30_code
def yX7_bulk : MethodName := ⟨RX7, "bulk", "(II)I"⟩
abbrev cX7_bound : ByteArray := prog_9_method_31_code
def yX7_bound : MethodName := ⟨RX7, "bound", "(I)I"⟩
abbrev cX7_move : ByteArray := prog_9_method_32_code
def yX7_move : MethodName := ⟨RX7, "move", "(I)I"⟩
abbrev cX7_isBetter : ByteArray := prog_9_method_33_code
def yX7_isBetter : MethodName := ⟨RX7, "isBetter", "(IIII)Z"⟩
abbrev cX7_bestOf : ByteArray := prog_9_method_34_code
def yX7_bestOf : MethodName := ⟨RX7, "bestOf", "(III)I"⟩
abbrev cX7_findPass : ByteArray := prog_9_method_35_code
def yX7_findPass : MethodName := ⟨RX7, "findPass", "(I)V"⟩
abbrev cX7_pass : ByteArray := prog_9_method_36_code
def yX7_pass : MethodName := ⟨RX7, "pass", "(I)I"⟩
abbrev cX7_tries : ByteArray := prog_9_method_37_code
def yX7_tries : MethodName := ⟨RX7, "tries", "(II)I"⟩
abbrev cX7_settle : ByteArray := prog_9_method_38_code
def yX7_settle : MethodName := ⟨RX7, "settle", "(I)I"⟩
abbrev cX7_does : ByteArray := prog_9_method_39_code
def yX7_does : MethodName := ⟨RX7, "does", "(II)Z"⟩
abbrev cX7_isPair : ByteArray := prog_9_method_40_code
def yX7_isPair : MethodName := ⟨RX7, "isPair", "(II)Z"⟩
abbrev cX7_goDay : ByteArray := prog_9_method_41_code
def yX7_goDay : MethodName := ⟨RX7, "goDay", "(II)I"⟩
abbrev cX7_day : ByteArray := prog_9_method_42_code
def yX7_day : MethodName := ⟨RX7, "day", "(IIIII)I"⟩
abbrev cX7_tellDay : ByteArray := prog_9_method_43_code
def yX7_tellDay : MethodName := ⟨RX7, "tellDay", "(I)I"⟩
abbrev cX7_least : ByteArray := prog_9_method_44_code
def yX7_least : MethodName := ⟨RX7, "least", "(I)I"⟩
abbrev cX7_apart : ByteArray := prog_9_method_45_code
def yX7_apart : MethodName := ⟨RX7, "apart", "(II)I"⟩
abbrev cX7_closest : ByteArray := prog_9_method_46_code
def yX7_closest : MethodName := ⟨RX7, "closest", "(I)I"⟩
abbrev cX7_rack : ByteArray := prog_9_method_47_code
def yX7_rack : MethodName := ⟨RX7, "rack", "(II)I"⟩
abbrev cX7_stow : ByteArray := prog_9_method_48_code
def yX7_stow : MethodName := ⟨RX7, "stow", "(II)I"⟩
abbrev cX7_stowed : ByteArray := prog_9_method_49_code
def yX7_stowed : MethodName := ⟨RX7, "stowed", "(I)I"⟩
abbrev cX7_reading : ByteArray := prog_9_method_50_code
def yX7_reading : MethodName := ⟨RX7, "reading", "(II)I"⟩
abbrev cX7_back : ByteArray := prog_9_method_51_code
def yX7_back : MethodName := ⟨RX7, "back", "(I)I"⟩
abbrev cX7_areSo : ByteArray := prog_9_method_52_code
def yX7_areSo : MethodName := ⟨RX7, "areSo", "()Z"⟩
abbrev cX7_kinds : ByteArray := prog_9_method_53_code
def yX7_kinds : MethodName := ⟨RX7, "kinds", "(I)I"⟩
abbrev cX7_bulks : ByteArray := prog_9_method_54_code
def yX7_bulks : MethodName := ⟨RX7, "bulks", "(I)I"⟩
abbrev cX7_inLeastTerms : ByteArray := prog_9_method_55_code
def yX7_inLeastTerms : MethodName := ⟨RX7, "inLeastTerms", "(JJI)J"⟩
abbrev cX7_odds : ByteArray := prog_9_method_56_code
def yX7_odds : MethodName := ⟨RX7, "odds", "(II)J"⟩
abbrev cX7_sheet : ByteArray := prog_9_method_57_code
def yX7_sheet : MethodName := ⟨RX7, "sheet", "(III)I"⟩
abbrev cX7_lose : ByteArray := prog_9_method_58_code
def yX7_lose : MethodName := ⟨RX7, "lose", "(I)I"⟩
abbrev cX7_put : ByteArray := prog_9_method_59_code
def yX7_put : MethodName := ⟨RX7, "put", "(III)I"⟩
abbrev cX7_cell : ByteArray := prog_9_method_60_code
def yX7_cell : MethodName := ⟨RX7, "cell", "(III)J"⟩
abbrev cX7_copy : ByteArray := prog_9_method_61_code
def yX7_copy : MethodName := ⟨RX7, "copy", "(IIIII)I"⟩
abbrev cX7_begins : ByteArray := prog_9_method_62_code
def yX7_begins : MethodName := ⟨RX7, "begins", "(I)V"⟩
abbrev cX7_tell : ByteArray := prog_9_method_63_code
def yX7_tell : MethodName := ⟨RX7, "tell", "(I)I"⟩
abbrev cX7_probe : ByteArray := prog_9_method_64_code
def yX7_probe : MethodName := ⟨RX7, "probe", "(I)I"⟩
abbrev cX7_as : ByteArray := prog_9_method_65_code
def yX7_as : MethodName := ⟨RX7, "as", "(II)I"⟩
abbrev cX7_trace : ByteArray := prog_9_method_66_code
def yX7_trace : MethodName := ⟨RX7, "trace", "()I"⟩
abbrev cX7_fault : ByteArray := prog_9_method_67_code
def yX7_fault : MethodName := ⟨RX7, "fault", "()I"⟩
abbrev cX7_many : ByteArray := prog_9_method_68_code
def yX7_many : MethodName := ⟨RX7, "many", "(I)I"⟩
def RJ6 : String := "java/lang/Integer"
def TJ6 : u_T := fun k => match k with
  | _ => ("", "", "", false)
def tyJ6 : Nat → FieldType := fun k => match k with
  | _ => .int
theorem nmJ6 : ∀ a, a < 0 → ∀ b, b < 0 → a ≠ b → (TJ6 a).2.1 ≠ (TJ6 b).2.1 := by decide +kernel
theorem tyJ6_ok : ∀ k, k < 0 → parseFieldDescriptor (TJ6 k).2.2.1 = some (tyJ6 k) := by decide +kernel
abbrev cJ6_bitCount_0f7a4 : ByteArray := prog_10_method_49_code
def yJ6_bitCount_0f7a4 : MethodName := ⟨RJ6, "bitCount", "(I)I"⟩
def RJ9 : String := "java/lang/Math"
def TJ9 : u_T := fun k => match k with
  | _ => ("", "", "", false)
def tyJ9 : Nat → FieldType := fun k => match k with
  | _ => .int
theorem nmJ9 : ∀ a, a < 0 → ∀ b, b < 0 → a ≠ b → (TJ9 a).2.1 ≠ (TJ9 b).2.1 := by decide +kernel
theorem tyJ9_ok : ∀ k, k < 0 → parseFieldDescriptor (TJ9 k).2.2.1 = some (tyJ9 k) := by decide +kernel
abbrev cJ9_min_7cf53 : ByteArray := prog_11_method_69_code
def yJ9_min_7cf53 : MethodName := ⟨RJ9, "min", "(II)I"⟩
def RJ10 : String := "java/lang/System"
def TJ10 : u_T := fun k => match k with
  | _ => ("", "", "", false)
def tyJ10 : Nat → FieldType := fun k => match k with
  | _ => .int
theorem nmJ10 : ∀ a, a < 0 → ∀ b, b < 0 → a ≠ b → (TJ10 a).2.1 ≠ (TJ10 b).2.1 := by decide +kernel
theorem tyJ10_ok : ∀ k, k < 0 → parseFieldDescriptor (TJ10 k).2.2.1 = some (tyJ10 k) := by decide +kernel
def RJ7 : String := "java/util/Arrays"
def TJ7 : u_T := fun k => match k with
  | _ => ("", "", "", false)
def tyJ7 : Nat → FieldType := fun k => match k with
  | _ => .int
theorem nmJ7 : ∀ a, a < 0 → ∀ b, b < 0 → a ≠ b → (TJ7 a).2.1 ≠ (TJ7 b).2.1 := by decide +kernel
theorem tyJ7_ok : ∀ k, k < 0 → parseFieldDescriptor (TJ7 k).2.2.1 = some (tyJ7 k) := by decide +kernel
abbrev cJ7_fill_53178 : ByteArray := prog_13_method_103_code
def yJ7_fill_53178 : MethodName := ⟨RJ7, "fill", "([II)V"⟩
def RL : String := "HalfCutsLaw"
abbrev cL_law : ByteArray := code
def yL_law : MethodName := ⟨RL, "law", "([I)Z"⟩
abbrev vwCl : List vw_C := [(RX0, TX0, 9), (RX1, TX1, 3), (RX2, TX2, 4), (RX3, TX3, 3), (RX4, TX4, 3), (RX5, TX5, 3), (RX6, TX6, 9), (RX7, TX7, 32)]
end
section
theorem dX0_init_0 : decode cX0_init 0 = .ok (.aload_n 0, 1) := by decide +kernel
theorem dX0_init_1 : decode cX0_init 1 = .ok (.invokespecial 3, 3) := by decide +kernel
theorem dX0_init_4 : decode cX0_init 4 = .ok (.aload_n 0, 1) := by decide +kernel
theorem dX0_init_5 : decode cX0_init 5 = .ok (.bipush 7, 2) := by decide +kernel
theorem dX0_init_7 : decode cX0_init 7 = .ok (.newarray .int, 2) := by decide +kernel
theorem dX0_init_9 : decode cX0_init 9 = .ok (.putfield 9, 3) := by decide +kernel
theorem dX0_init_12 : decode cX0_init 12 = .ok (.aload_n 0, 1) := by decide +kernel
theorem dX0_init_13 : decode cX0_init 13 = .ok (.bipush 7, 2) := by decide +kernel
theorem dX0_init_15 : decode cX0_init 15 = .ok (.newarray .int, 2) := by decide +kernel
theorem dX0_init_17 : decode cX0_init 17 = .ok (.putfield 15, 3) := by decide +kernel
theorem dX0_init_20 : decode cX0_init 20 = .ok (.aload_n 0, 1) := by decide +kernel
theorem dX0_init_21 : decode cX0_init 21 = .ok (.bipush 7, 2) := by decide +kernel
theorem dX0_init_23 : decode cX0_init 23 = .ok (.newarray .int, 2) := by decide +kernel
theorem dX0_init_25 : decode cX0_init 25 = .ok (.putfield 18, 3) := by decide +kernel
theorem dX0_init_28 : decode cX0_init 28 = .ok (.aload_n 0, 1) := by decide +kernel
theorem dX0_init_29 : decode cX0_init 29 = .ok (.bipush 6, 2) := by decide +kernel
theorem dX0_init_31 : decode cX0_init 31 = .ok (.newarray .int, 2) := by decide +kernel
theorem dX0_init_33 : decode cX0_init 33 = .ok (.putfield 21, 3) := by decide +kernel
theorem dX0_init_36 : decode cX0_init 36 = .ok (.return_, 1) := by decide +kernel
theorem dX0_clear_0 : decode cX0_clear 0 = .ok (.aload_n 0, 1) := by decide +kernel
theorem dX0_clear_1 : decode cX0_clear 1 = .ok (.iconst 0, 1) := by decide +kernel
theorem dX0_clear_2 : decode cX0_clear 2 = .ok (.putfield 24, 3) := by decide +kernel
theorem dX0_clear_5 : decode cX0_clear 5 = .ok (.aload_n 0, 1) := by decide +kernel
theorem dX0_clear_6 : decode cX0_clear 6 = .ok (.iconst 0, 1) := by decide +kernel
theorem dX0_clear_7 : decode cX0_clear 7 = .ok (.putfield 28, 3) := by decide +kernel
theorem dX0_clear_10 : decode cX0_clear 10 = .ok (.aload_n 0, 1) := by decide +kernel
theorem dX0_clear_11 : decode cX0_clear 11 = .ok (.iconst 0, 1) := by decide +kernel
theorem dX0_clear_12 : decode cX0_clear 12 = .ok (.putfield 31, 3) := by decide +kernel
theorem dX0_clear_15 : decode cX0_clear 15 = .ok (.aload_n 0, 1) := by decide +kernel
theorem dX0_clear_16 : decode cX0_clear 16 = .ok (.iconst 0, 1) := by decide +kernel
theorem dX0_clear_17 : decode cX0_clear 17 = .ok (.putfield 34, 3) := by decide +kernel
theorem dX0_clear_20 : decode cX0_clear 20 = .ok (.aload_n 0, 1) := by decide +kernel
theorem dX0_clear_21 : decode cX0_clear 21 = .ok (.ldc 37, 2) := by decide +kernel
theorem dX0_clear_23 : decode cX0_clear 23 = .ok (.putfield 38, 3) := by decide +kernel
theorem dX0_clear_26 : decode cX0_clear 26 = .ok (.return_, 1) := by decide +kernel
theorem dX0_become_0 : decode cX0_become 0 = .ok (.aload_n 0, 1) := by decide +kernel
theorem dX0_become_1 : decode cX0_become 1 = .ok (.aload_n 1, 1) := by decide +kernel
theorem dX0_become_2 : decode cX0_become 2 = .ok (.getfield 24, 3) := by decide +kernel
theorem dX0_become_5 : decode cX0_become 5 = .ok (.putfield 24, 3) := by decide +kernel
theorem dX0_become_8 : decode cX0_become 8 = .ok (.aload_n 0, 1) := by decide +kernel
theorem dX0_become_9 : decode cX0_become 9 = .ok (.aload_n 1, 1) := by decide +kernel
theorem dX0_become_10 : decode cX0_become 10 = .ok (.getfield 28, 3) := by decide +kernel
theorem dX0_become_13 : decode cX0_become 13 = .ok (.putfield 28, 3) := by decide +kernel
theorem dX0_become_16 : decode cX0_become 16 = .ok (.aload_n 0, 1) := by decide +kernel
theorem dX0_become_17 : decode cX0_become 17 = .ok (.aload_n 1, 1) := by decide +kernel
theorem dX0_become_18 : decode cX0_become 18 = .ok (.getfield 31, 3) := by decide +kernel
theorem dX0_become_21 : decode cX0_become 21 = .ok (.putfield 31, 3) := by decide +kernel
theorem dX0_become_24 : decode cX0_become 24 = .ok (.aload_n 0, 1) := by decide +kernel
theorem dX0_become_25 : decode cX0_become 25 = .ok (.aload_n 1, 1) := by decide +kernel
theorem dX0_become_26 : decode cX0_become 26 = .ok (.getfield 34, 3) := by decide +kernel
theorem dX0_become_29 : decode cX0_become 29 = .ok (.putfield 34, 3) := by decide +kernel
theorem dX0_become_32 : decode cX0_become 32 = .ok (.aload_n 0, 1) := by decide +kernel
theorem dX0_become_33 : decode cX0_become 33 = .ok (.aload_n 1, 1) := by decide +kernel
theorem dX0_become_34 : decode cX0_become 34 = .ok (.getfield 38, 3) := by decide +kernel
theorem dX0_become_37 : decode cX0_become 37 = .ok (.putfield 38, 3) := by decide +kernel
theorem dX0_become_40 : decode cX0_become 40 = .ok (.aload_n 1, 1) := by decide +kernel
theorem dX0_become_41 : decode cX0_become 41 = .ok (.getfield 9, 3) := by decide +kernel
theorem dX0_become_44 : decode cX0_become 44 = .ok (.iconst 0, 1) := by decide +kernel
theorem dX0_become_45 : decode cX0_become 45 = .ok (.aload_n 0, 1) := by decide +kernel
theorem dX0_become_46 : decode cX0_become 46 = .ok (.getfield 9, 3) := by decide +kernel
theorem dX0_become_49 : decode cX0_become 49 = .ok (.iconst 0, 1) := by decide +kernel
theorem dX0_become_50 : decode cX0_become 50 = .ok (.bipush 7, 2) := by decide +kernel
theorem dX0_become_52 : decode cX0_become 52 = .ok (.invokestatic 41, 3) := by decide +kernel
theorem dX0_become_55 : decode cX0_become 55 = .ok (.aload_n 1, 1) := by decide +kernel
theorem dX0_become_56 : decode cX0_become 56 = .ok (.getfield 15, 3) := by decide +kernel
theorem dX0_become_59 : decode cX0_become 59 = .ok (.iconst 0, 1) := by decide +kernel
theorem dX0_become_60 : decode cX0_become 60 = .ok (.aload_n 0, 1) := by decide +kernel
theorem dX0_become_61 : decode cX0_become 61 = .ok (.getfield 15, 3) := by decide +kernel
theorem dX0_become_64 : decode cX0_become 64 = .ok (.iconst 0, 1) := by decide +kernel
theorem dX0_become_65 : decode cX0_become 65 = .ok (.bipush 7, 2) := by decide +kernel
theorem dX0_become_67 : decode cX0_become 67 = .ok (.invokestatic 41, 3) := by decide +kernel
theorem dX0_become_70 : decode cX0_become 70 = .ok (.aload_n 1, 1) := by decide +kernel
theorem dX0_become_71 : decode cX0_become 71 = .ok (.getfield 18, 3) := by decide +kernel
theorem dX0_become_74 : decode cX0_become 74 = .ok (.iconst 0, 1) := by decide +kernel
theorem dX0_become_75 : decode cX0_become 75 = .ok (.aload_n 0, 1) := by decide +kernel
theorem dX0_become_76 : decode cX0_become 76 = .ok (.getfield 18, 3) := by decide +kernel
theorem dX0_become_79 : decode cX0_become 79 = .ok (.iconst 0, 1) := by decide +kernel
theorem dX0_become_80 : decode cX0_become 80 = .ok (.bipush 7, 2) := by decide +kernel
theorem dX0_become_82 : decode cX0_become 82 = .ok (.invokestatic 41, 3) := by decide +kernel
theorem dX0_become_85 : decode cX0_become 85 = .ok (.aload_n 1, 1) := by decide +kernel
theorem dX0_become_86 : decode cX0_become 86 = .ok (.getfield 21, 3) := by decide +kernel
theorem dX0_become_89 : decode cX0_become 89 = .ok (.iconst 0, 1) := by decide +kernel
theorem dX0_become_90 : decode cX0_become 90 = .ok (.aload_n 0, 1) := by decide +kernel
theorem dX0_become_91 : decode cX0_become 91 = .ok (.getfield 21, 3) := by decide +kernel
theorem dX0_become_94 : decode cX0_become 94 = .ok (.iconst 0, 1) := by decide +kernel
theorem dX0_become_95 : decode cX0_become 95 = .ok (.bipush 6, 2) := by decide +kernel
theorem dX0_become_97 : decode cX0_become 97 = .ok (.invokestatic 41, 3) := by decide +kernel
theorem dX0_become_100 : decode cX0_become 100 = .ok (.return_, 1) := by decide +kernel
theorem dX0_all_0 : decode cX0_all 0 = .ok (.iconst 1, 1) := by decide +kernel
theorem dX0_all_1 : decode cX0_all 1 = .ok (.aload_n 0, 1) := by decide +kernel
theorem dX0_all_2 : decode cX0_all 2 = .ok (.getfield 24, 3) := by decide +kernel
theorem dX0_all_5 : decode cX0_all 5 = .ok (.ishl, 1) := by decide +kernel
theorem dX0_all_6 : decode cX0_all 6 = .ok (.iconst 1, 1) := by decide +kernel
theorem dX0_all_7 : decode cX0_all 7 = .ok (.isub, 1) := by decide +kernel
theorem dX0_all_8 : decode cX0_all 8 = .ok (.ireturn, 1) := by decide +kernel
theorem dX0_left_0 : decode cX0_left 0 = .ok (.aload_n 0, 1) := by decide +kernel
theorem dX0_left_1 : decode cX0_left 1 = .ok (.invokevirtual 47, 3) := by decide +kernel
theorem dX0_left_4 : decode cX0_left 4 = .ok (.aload_n 0, 1) := by decide +kernel
theorem dX0_left_5 : decode cX0_left 5 = .ok (.getfield 31, 3) := by decide +kernel
theorem dX0_left_8 : decode cX0_left 8 = .ok (.iconst (-1), 1) := by decide +kernel
theorem dX0_left_9 : decode cX0_left 9 = .ok (.ixor, 1) := by decide +kernel
theorem dX0_left_10 : decode cX0_left 10 = .ok (.iand, 1) := by decide +kernel
theorem dX0_left_11 : decode cX0_left 11 = .ok (.ireturn, 1) := by decide +kernel
theorem dX0_sideOf_0 : decode cX0_sideOf 0 = .ok (.aload_n 0, 1) := by decide +kernel
theorem dX0_sideOf_1 : decode cX0_sideOf 1 = .ok (.getfield 31, 3) := by decide +kernel
theorem dX0_sideOf_4 : decode cX0_sideOf 4 = .ok (.iload_n 1, 1) := by decide +kernel
theorem dX0_sideOf_5 : decode cX0_sideOf 5 = .ok (.ishr, 1) := by decide +kernel
theorem dX0_sideOf_6 : decode cX0_sideOf 6 = .ok (.iconst 1, 1) := by decide +kernel
theorem dX0_sideOf_7 : decode cX0_sideOf 7 = .ok (.iand, 1) := by decide +kernel
theorem dX0_sideOf_8 : decode cX0_sideOf 8 = .ok (.ireturn, 1) := by decide +kernel
theorem dX0_isFixed_0 : decode cX0_isFixed 0 = .ok (.aload_n 0, 1) := by decide +kernel
theorem dX0_isFixed_1 : decode cX0_isFixed 1 = .ok (.getfield 34, 3) := by decide +kernel
theorem dX0_isFixed_4 : decode cX0_isFixed 4 = .ok (.iload_n 1, 1) := by decide +kernel
theorem dX0_isFixed_5 : decode cX0_isFixed 5 = .ok (.ishr, 1) := by decide +kernel
theorem dX0_isFixed_6 : decode cX0_isFixed 6 = .ok (.iconst 1, 1) := by decide +kernel
theorem dX0_isFixed_7 : decode cX0_isFixed 7 = .ok (.iand, 1) := by decide +kernel
theorem dX0_isFixed_8 : decode cX0_isFixed 8 = .ok (.iconst 1, 1) := by decide +kernel
theorem dX0_isFixed_9 : decode cX0_isFixed 9 = .ok (.if_icmp .ne 7, 3) := by decide +kernel
theorem dX0_isFixed_12 : decode cX0_isFixed 12 = .ok (.iconst 1, 1) := by decide +kernel
theorem dX0_isFixed_13 : decode cX0_isFixed 13 = .ok (.goto 4, 3) := by decide +kernel
theorem dX0_isFixed_16 : decode cX0_isFixed 16 = .ok (.iconst 0, 1) := by decide +kernel
theorem dX0_isFixed_17 : decode cX0_isFixed 17 = .ok (.ireturn, 1) := by decide +kernel
theorem dX0_flip_0 : decode cX0_flip 0 = .ok (.aload_n 0, 1) := by decide +kernel
theorem dX0_flip_1 : decode cX0_flip 1 = .ok (.dup, 1) := by decide +kernel
theorem dX0_flip_2 : decode cX0_flip 2 = .ok (.getfield 31, 3) := by decide +kernel
theorem dX0_flip_5 : decode cX0_flip 5 = .ok (.iconst 1, 1) := by decide +kernel
theorem dX0_flip_6 : decode cX0_flip 6 = .ok (.iload_n 1, 1) := by decide +kernel
theorem dX0_flip_7 : decode cX0_flip 7 = .ok (.ishl, 1) := by decide +kernel
theorem dX0_flip_8 : decode cX0_flip 8 = .ok (.ixor, 1) := by decide +kernel
theorem dX0_flip_9 : decode cX0_flip 9 = .ok (.putfield 31, 3) := by decide +kernel
theorem dX0_flip_12 : decode cX0_flip 12 = .ok (.return_, 1) := by decide +kernel
theorem dX0_set_0 : decode cX0_set 0 = .ok (.aload_n 0, 1) := by decide +kernel
theorem dX0_set_1 : decode cX0_set 1 = .ok (.getfield 9, 3) := by decide +kernel
theorem dX0_set_4 : decode cX0_set 4 = .ok (.iload_n 1, 1) := by decide +kernel
theorem dX0_set_5 : decode cX0_set 5 = .ok (.iload_n 2, 1) := by decide +kernel
theorem dX0_set_6 : decode cX0_set 6 = .ok (.iastore, 1) := by decide +kernel
theorem dX0_set_7 : decode cX0_set 7 = .ok (.aload_n 0, 1) := by decide +kernel
theorem dX0_set_8 : decode cX0_set 8 = .ok (.getfield 15, 3) := by decide +kernel
theorem dX0_set_11 : decode cX0_set 11 = .ok (.iload_n 1, 1) := by decide +kernel
theorem dX0_set_12 : decode cX0_set 12 = .ok (.iload_n 3, 1) := by decide +kernel
theorem dX0_set_13 : decode cX0_set 13 = .ok (.iastore, 1) := by decide +kernel
theorem dX0_set_14 : decode cX0_set 14 = .ok (.iload_n 2, 1) := by decide +kernel
theorem dX0_set_15 : decode cX0_set 15 = .ok (.lookupswitch 49 #[(1, 25), (2, 37)], 25) := by decide +kernel
theorem dX0_set_40 : decode cX0_set 40 = .ok (.aload_n 0, 1) := by decide +kernel
theorem dX0_set_41 : decode cX0_set 41 = .ok (.getfield 18, 3) := by decide +kernel
theorem dX0_set_44 : decode cX0_set 44 = .ok (.iload_n 1, 1) := by decide +kernel
theorem dX0_set_45 : decode cX0_set 45 = .ok (.iload_n 3, 1) := by decide +kernel
theorem dX0_set_46 : decode cX0_set 46 = .ok (.iconst 1, 1) := by decide +kernel
theorem dX0_set_47 : decode cX0_set 47 = .ok (.iadd, 1) := by decide +kernel
theorem dX0_set_48 : decode cX0_set 48 = .ok (.iastore, 1) := by decide +kernel
theorem dX0_set_49 : decode cX0_set 49 = .ok (.goto 22, 3) := by decide +kernel
theorem dX0_set_52 : decode cX0_set 52 = .ok (.aload_n 0, 1) := by decide +kernel
theorem dX0_set_53 : decode cX0_set 53 = .ok (.getfield 18, 3) := by decide +kernel
theorem dX0_set_56 : decode cX0_set 56 = .ok (.iload_n 1, 1) := by decide +kernel
theorem dX0_set_57 : decode cX0_set 57 = .ok (.iconst 2, 1) := by decide +kernel
theorem dX0_set_58 : decode cX0_set 58 = .ok (.iload_n 3, 1) := by decide +kernel
theorem dX0_set_59 : decode cX0_set 59 = .ok (.imul, 1) := by decide +kernel
theorem dX0_set_60 : decode cX0_set 60 = .ok (.iastore, 1) := by decide +kernel
theorem dX0_set_61 : decode cX0_set 61 = .ok (.goto 10, 3) := by decide +kernel
theorem dX0_set_64 : decode cX0_set 64 = .ok (.aload_n 0, 1) := by decide +kernel
theorem dX0_set_65 : decode cX0_set 65 = .ok (.getfield 18, 3) := by decide +kernel
theorem dX0_set_68 : decode cX0_set 68 = .ok (.iload_n 1, 1) := by decide +kernel
theorem dX0_set_69 : decode cX0_set 69 = .ok (.iload_n 3, 1) := by decide +kernel
theorem dX0_set_70 : decode cX0_set 70 = .ok (.iastore, 1) := by decide +kernel
theorem dX0_set_71 : decode cX0_set 71 = .ok (.return_, 1) := by decide +kernel
theorem dX0_weightOf_0 : decode cX0_weightOf 0 = .ok (.iconst 0, 1) := by decide +kernel
theorem dX0_weightOf_1 : decode cX0_weightOf 1 = .ok (.istore_n 2, 1) := by decide +kernel
theorem dX0_weightOf_2 : decode cX0_weightOf 2 = .ok (.iconst 0, 1) := by decide +kernel
theorem dX0_weightOf_3 : decode cX0_weightOf 3 = .ok (.istore_n 3, 1) := by decide +kernel
theorem dX0_weightOf_4 : decode cX0_weightOf 4 = .ok (.iload_n 3, 1) := by decide +kernel
theorem dX0_weightOf_5 : decode cX0_weightOf 5 = .ok (.aload_n 0, 1) := by decide +kernel
theorem dX0_weightOf_6 : decode cX0_weightOf 6 = .ok (.getfield 24, 3) := by decide +kernel
theorem dX0_weightOf_9 : decode cX0_weightOf 9 = .ok (.if_icmp .ge 27, 3) := by decide +kernel
theorem dX0_weightOf_12 : decode cX0_weightOf 12 = .ok (.iload_n 1, 1) := by decide +kernel
theorem dX0_weightOf_13 : decode cX0_weightOf 13 = .ok (.iload_n 3, 1) := by decide +kernel
theorem dX0_weightOf_14 : decode cX0_weightOf 14 = .ok (.ishr, 1) := by decide +kernel
theorem dX0_weightOf_15 : decode cX0_weightOf 15 = .ok (.iconst 1, 1) := by decide +kernel
theorem dX0_weightOf_16 : decode cX0_weightOf 16 = .ok (.iand, 1) := by decide +kernel
theorem dX0_weightOf_17 : decode cX0_weightOf 17 = .ok (.iconst 1, 1) := by decide +kernel
theorem dX0_weightOf_18 : decode cX0_weightOf 18 = .ok (.if_icmp .ne 12, 3) := by decide +kernel
theorem dX0_weightOf_21 : decode cX0_weightOf 21 = .ok (.iload_n 2, 1) := by decide +kernel
theorem dX0_weightOf_22 : decode cX0_weightOf 22 = .ok (.aload_n 0, 1) := by decide +kernel
theorem dX0_weightOf_23 : decode cX0_weightOf 23 = .ok (.getfield 18, 3) := by decide +kernel
theorem dX0_weightOf_26 : decode cX0_weightOf 26 = .ok (.iload_n 3, 1) := by decide +kernel
theorem dX0_weightOf_27 : decode cX0_weightOf 27 = .ok (.iaload, 1) := by decide +kernel
theorem dX0_weightOf_28 : decode cX0_weightOf 28 = .ok (.iadd, 1) := by decide +kernel
theorem dX0_weightOf_29 : decode cX0_weightOf 29 = .ok (.istore_n 2, 1) := by decide +kernel
theorem dX0_weightOf_30 : decode cX0_weightOf 30 = .ok (.iinc 3 1, 3) := by decide +kernel
theorem dX0_weightOf_33 : decode cX0_weightOf 33 = .ok (.goto (-29), 3) := by decide +kernel
theorem dX0_weightOf_36 : decode cX0_weightOf 36 = .ok (.iload_n 2, 1) := by decide +kernel
theorem dX0_weightOf_37 : decode cX0_weightOf 37 = .ok (.ireturn, 1) := by decide +kernel
theorem dX0_shareOf_0 : decode cX0_shareOf 0 = .ok (.aload_n 0, 1) := by decide +kernel
theorem dX0_shareOf_1 : decode cX0_shareOf 1 = .ok (.iload_n 1, 1) := by decide +kernel
theorem dX0_shareOf_2 : decode cX0_shareOf 2 = .ok (.invokevirtual 51, 3) := by decide +kernel
theorem dX0_shareOf_5 : decode cX0_shareOf 5 = .ok (.aload_n 0, 1) := by decide +kernel
theorem dX0_shareOf_6 : decode cX0_shareOf 6 = .ok (.aload_n 0, 1) := by decide +kernel
theorem dX0_shareOf_7 : decode cX0_shareOf 7 = .ok (.invokevirtual 47, 3) := by decide +kernel
theorem dX0_shareOf_10 : decode cX0_shareOf 10 = .ok (.invokevirtual 51, 3) := by decide +kernel
theorem dX0_shareOf_13 : decode cX0_shareOf 13 = .ok (.invokestatic 55, 3) := by decide +kernel
theorem dX0_shareOf_16 : decode cX0_shareOf 16 = .ok (.ireturn, 1) := by decide +kernel
theorem dX0_isWithin_0 : decode cX0_isWithin 0 = .ok (.aload_n 0, 1) := by decide +kernel
theorem dX0_isWithin_1 : decode cX0_isWithin 1 = .ok (.iload_n 1, 1) := by decide +kernel
theorem dX0_isWithin_2 : decode cX0_isWithin 2 = .ok (.invokevirtual 59, 3) := by decide +kernel
theorem dX0_isWithin_5 : decode cX0_isWithin 5 = .ok (.aload_n 0, 1) := by decide +kernel
theorem dX0_isWithin_6 : decode cX0_isWithin 6 = .ok (.getfield 38, 3) := by decide +kernel
theorem dX0_isWithin_9 : decode cX0_isWithin 9 = .ok (.if_icmp .gt 7, 3) := by decide +kernel
theorem dX0_isWithin_12 : decode cX0_isWithin 12 = .ok (.iconst 1, 1) := by decide +kernel
theorem dX0_isWithin_13 : decode cX0_isWithin 13 = .ok (.goto 4, 3) := by decide +kernel
theorem dX0_isWithin_16 : decode cX0_isWithin 16 = .ok (.iconst 0, 1) := by decide +kernel
theorem dX0_isWithin_17 : decode cX0_isWithin 17 = .ok (.ireturn, 1) := by decide +kernel
theorem dX0_netsOf_0 : decode cX0_netsOf 0 = .ok (.iconst 0, 1) := by decide +kernel
theorem dX0_netsOf_1 : decode cX0_netsOf 1 = .ok (.istore_n 2, 1) := by decide +kernel
theorem dX0_netsOf_2 : decode cX0_netsOf 2 = .ok (.iconst 0, 1) := by decide +kernel
theorem dX0_netsOf_3 : decode cX0_netsOf 3 = .ok (.istore_n 3, 1) := by decide +kernel
theorem dX0_netsOf_4 : decode cX0_netsOf 4 = .ok (.iload_n 3, 1) := by decide +kernel
theorem dX0_netsOf_5 : decode cX0_netsOf 5 = .ok (.aload_n 0, 1) := by decide +kernel
theorem dX0_netsOf_6 : decode cX0_netsOf 6 = .ok (.getfield 28, 3) := by decide +kernel
theorem dX0_netsOf_9 : decode cX0_netsOf 9 = .ok (.if_icmp .ge 29, 3) := by decide +kernel
theorem dX0_netsOf_12 : decode cX0_netsOf 12 = .ok (.aload_n 0, 1) := by decide +kernel
theorem dX0_netsOf_13 : decode cX0_netsOf 13 = .ok (.getfield 21, 3) := by decide +kernel
theorem dX0_netsOf_16 : decode cX0_netsOf 16 = .ok (.iload_n 3, 1) := by decide +kernel
theorem dX0_netsOf_17 : decode cX0_netsOf 17 = .ok (.iaload, 1) := by decide +kernel
theorem dX0_netsOf_18 : decode cX0_netsOf 18 = .ok (.iload_n 1, 1) := by decide +kernel
theorem dX0_netsOf_19 : decode cX0_netsOf 19 = .ok (.ishr, 1) := by decide +kernel
theorem dX0_netsOf_20 : decode cX0_netsOf 20 = .ok (.iconst 1, 1) := by decide +kernel
theorem dX0_netsOf_21 : decode cX0_netsOf 21 = .ok (.iand, 1) := by decide +kernel
theorem dX0_netsOf_22 : decode cX0_netsOf 22 = .ok (.iconst 1, 1) := by decide +kernel
theorem dX0_netsOf_23 : decode cX0_netsOf 23 = .ok (.if_icmp .ne 9, 3) := by decide +kernel
theorem dX0_netsOf_26 : decode cX0_netsOf 26 = .ok (.iload_n 2, 1) := by decide +kernel
theorem dX0_netsOf_27 : decode cX0_netsOf 27 = .ok (.iconst 1, 1) := by decide +kernel
theorem dX0_netsOf_28 : decode cX0_netsOf 28 = .ok (.iload_n 3, 1) := by decide +kernel
theorem dX0_netsOf_29 : decode cX0_netsOf 29 = .ok (.ishl, 1) := by decide +kernel
theorem dX0_netsOf_30 : decode cX0_netsOf 30 = .ok (.ior, 1) := by decide +kernel
theorem dX0_netsOf_31 : decode cX0_netsOf 31 = .ok (.istore_n 2, 1) := by decide +kernel
theorem dX0_netsOf_32 : decode cX0_netsOf 32 = .ok (.iinc 3 1, 3) := by decide +kernel
theorem dX0_netsOf_35 : decode cX0_netsOf 35 = .ok (.goto (-31), 3) := by decide +kernel
theorem dX0_netsOf_38 : decode cX0_netsOf 38 = .ok (.iload_n 2, 1) := by decide +kernel
theorem dX0_netsOf_39 : decode cX0_netsOf 39 = .ok (.ireturn, 1) := by decide +kernel
theorem dX0_cutsBy_0 : decode cX0_cutsBy 0 = .ok (.iconst 0, 1) := by decide +kernel
theorem dX0_cutsBy_1 : decode cX0_cutsBy 1 = .ok (.istore_n 2, 1) := by decide +kernel
theorem dX0_cutsBy_2 : decode cX0_cutsBy 2 = .ok (.iconst 0, 1) := by decide +kernel
theorem dX0_cutsBy_3 : decode cX0_cutsBy 3 = .ok (.istore_n 3, 1) := by decide +kernel
theorem dX0_cutsBy_4 : decode cX0_cutsBy 4 = .ok (.iload_n 3, 1) := by decide +kernel
theorem dX0_cutsBy_5 : decode cX0_cutsBy 5 = .ok (.aload_n 0, 1) := by decide +kernel
theorem dX0_cutsBy_6 : decode cX0_cutsBy 6 = .ok (.getfield 28, 3) := by decide +kernel
theorem dX0_cutsBy_9 : decode cX0_cutsBy 9 = .ok (.if_icmp .ge 25, 3) := by decide +kernel
theorem dX0_cutsBy_12 : decode cX0_cutsBy 12 = .ok (.aload_n 0, 1) := by decide +kernel
theorem dX0_cutsBy_13 : decode cX0_cutsBy 13 = .ok (.getfield 21, 3) := by decide +kernel
theorem dX0_cutsBy_16 : decode cX0_cutsBy 16 = .ok (.iload_n 3, 1) := by decide +kernel
theorem dX0_cutsBy_17 : decode cX0_cutsBy 17 = .ok (.iaload, 1) := by decide +kernel
theorem dX0_cutsBy_18 : decode cX0_cutsBy 18 = .ok (.iload_n 1, 1) := by decide +kernel
theorem dX0_cutsBy_19 : decode cX0_cutsBy 19 = .ok (.invokestatic 62, 3) := by decide +kernel
theorem dX0_cutsBy_22 : decode cX0_cutsBy 22 = .ok (.ifCond .eq 6, 3) := by decide +kernel
theorem dX0_cutsBy_25 : decode cX0_cutsBy 25 = .ok (.iinc 2 1, 3) := by decide +kernel
theorem dX0_cutsBy_28 : decode cX0_cutsBy 28 = .ok (.iinc 3 1, 3) := by decide +kernel
theorem dX0_cutsBy_31 : decode cX0_cutsBy 31 = .ok (.goto (-27), 3) := by decide +kernel
theorem dX0_cutsBy_34 : decode cX0_cutsBy 34 = .ok (.iload_n 2, 1) := by decide +kernel
theorem dX0_cutsBy_35 : decode cX0_cutsBy 35 = .ok (.ireturn, 1) := by decide +kernel
theorem dX0_cuts_0 : decode cX0_cuts 0 = .ok (.aload_n 0, 1) := by decide +kernel
theorem dX0_cuts_1 : decode cX0_cuts 1 = .ok (.aload_n 0, 1) := by decide +kernel
theorem dX0_cuts_2 : decode cX0_cuts 2 = .ok (.getfield 31, 3) := by decide +kernel
theorem dX0_cuts_5 : decode cX0_cuts 5 = .ok (.invokevirtual 66, 3) := by decide +kernel
theorem dX0_cuts_8 : decode cX0_cuts 8 = .ok (.ireturn, 1) := by decide +kernel
theorem dX0_gain_0 : decode cX0_gain 0 = .ok (.aload_n 0, 1) := by decide +kernel
theorem dX0_gain_1 : decode cX0_gain 1 = .ok (.aload_n 0, 1) := by decide +kernel
theorem dX0_gain_2 : decode cX0_gain 2 = .ok (.getfield 31, 3) := by decide +kernel
theorem dX0_gain_5 : decode cX0_gain 5 = .ok (.invokevirtual 66, 3) := by decide +kernel
theorem dX0_gain_8 : decode cX0_gain 8 = .ok (.aload_n 0, 1) := by decide +kernel
theorem dX0_gain_9 : decode cX0_gain 9 = .ok (.aload_n 0, 1) := by decide +kernel
theorem dX0_gain_10 : decode cX0_gain 10 = .ok (.getfield 31, 3) := by decide +kernel
theorem dX0_gain_13 : decode cX0_gain 13 = .ok (.iconst 1, 1) := by decide +kernel
theorem dX0_gain_14 : decode cX0_gain 14 = .ok (.iload_n 1, 1) := by decide +kernel
theorem dX0_gain_15 : decode cX0_gain 15 = .ok (.ishl, 1) := by decide +kernel
theorem dX0_gain_16 : decode cX0_gain 16 = .ok (.ixor, 1) := by decide +kernel
theorem dX0_gain_17 : decode cX0_gain 17 = .ok (.invokevirtual 66, 3) := by decide +kernel
theorem dX0_gain_20 : decode cX0_gain 20 = .ok (.isub, 1) := by decide +kernel
theorem dX0_gain_21 : decode cX0_gain 21 = .ok (.ireturn, 1) := by decide +kernel
theorem dX0_keepsFixed_0 : decode cX0_keepsFixed 0 = .ok (.iload_n 1, 1) := by decide +kernel
theorem dX0_keepsFixed_1 : decode cX0_keepsFixed 1 = .ok (.aload_n 0, 1) := by decide +kernel
theorem dX0_keepsFixed_2 : decode cX0_keepsFixed 2 = .ok (.getfield 34, 3) := by decide +kernel
theorem dX0_keepsFixed_5 : decode cX0_keepsFixed 5 = .ok (.iand, 1) := by decide +kernel
theorem dX0_keepsFixed_6 : decode cX0_keepsFixed 6 = .ok (.aload_n 0, 1) := by decide +kernel
theorem dX0_keepsFixed_7 : decode cX0_keepsFixed 7 = .ok (.getfield 31, 3) := by decide +kernel
theorem dX0_keepsFixed_10 : decode cX0_keepsFixed 10 = .ok (.aload_n 0, 1) := by decide +kernel
theorem dX0_keepsFixed_11 : decode cX0_keepsFixed 11 = .ok (.getfield 34, 3) := by decide +kernel
theorem dX0_keepsFixed_14 : decode cX0_keepsFixed 14 = .ok (.iand, 1) := by decide +kernel
theorem dX0_keepsFixed_15 : decode cX0_keepsFixed 15 = .ok (.if_icmp .ne 7, 3) := by decide +kernel
theorem dX0_keepsFixed_18 : decode cX0_keepsFixed 18 = .ok (.iconst 1, 1) := by decide +kernel
theorem dX0_keepsFixed_19 : decode cX0_keepsFixed 19 = .ok (.goto 4, 3) := by decide +kernel
theorem dX0_keepsFixed_22 : decode cX0_keepsFixed 22 = .ok (.iconst 0, 1) := by decide +kernel
theorem dX0_keepsFixed_23 : decode cX0_keepsFixed 23 = .ok (.ireturn, 1) := by decide +kernel
theorem dX0_isWithinAfterMove_0 : decode cX0_isWithinAfterMove 0 = .ok (.aload_n 0, 1) := by decide +kernel
theorem dX0_isWithinAfterMove_1 : decode cX0_isWithinAfterMove 1 = .ok (.iload_n 1, 1) := by decide +kernel
theorem dX0_isWithinAfterMove_2 : decode cX0_isWithinAfterMove 2 = .ok (.invokevirtual 69, 3) := by decide +kernel
theorem dX0_isWithinAfterMove_5 : decode cX0_isWithinAfterMove 5 = .ok (.ifCond .ne 10, 3) := by decide +kernel
theorem dX0_isWithinAfterMove_8 : decode cX0_isWithinAfterMove 8 = .ok (.aload_n 0, 1) := by decide +kernel
theorem dX0_isWithinAfterMove_9 : decode cX0_isWithinAfterMove 9 = .ok (.getfield 31, 3) := by decide +kernel
theorem dX0_isWithinAfterMove_12 : decode cX0_isWithinAfterMove 12 = .ok (.goto 7, 3) := by decide +kernel
theorem dX0_isWithinAfterMove_15 : decode cX0_isWithinAfterMove 15 = .ok (.aload_n 0, 1) := by decide +kernel
theorem dX0_isWithinAfterMove_16 : decode cX0_isWithinAfterMove 16 = .ok (.invokevirtual 72, 3) := by decide +kernel
theorem dX0_isWithinAfterMove_19 : decode cX0_isWithinAfterMove 19 = .ok (.istore_n 2, 1) := by decide +kernel
theorem dX0_isWithinAfterMove_20 : decode cX0_isWithinAfterMove 20 = .ok (.aload_n 0, 1) := by decide +kernel
theorem dX0_isWithinAfterMove_21 : decode cX0_isWithinAfterMove 21 = .ok (.iload_n 2, 1) := by decide +kernel
theorem dX0_isWithinAfterMove_22 : decode cX0_isWithinAfterMove 22 = .ok (.iconst 1, 1) := by decide +kernel
theorem dX0_isWithinAfterMove_23 : decode cX0_isWithinAfterMove 23 = .ok (.iload_n 1, 1) := by decide +kernel
theorem dX0_isWithinAfterMove_24 : decode cX0_isWithinAfterMove 24 = .ok (.ishl, 1) := by decide +kernel
theorem dX0_isWithinAfterMove_25 : decode cX0_isWithinAfterMove 25 = .ok (.ior, 1) := by decide +kernel
theorem dX0_isWithinAfterMove_26 : decode cX0_isWithinAfterMove 26 = .ok (.invokevirtual 59, 3) := by decide +kernel
theorem dX0_isWithinAfterMove_29 : decode cX0_isWithinAfterMove 29 = .ok (.aload_n 0, 1) := by decide +kernel
theorem dX0_isWithinAfterMove_30 : decode cX0_isWithinAfterMove 30 = .ok (.getfield 38, 3) := by decide +kernel
theorem dX0_isWithinAfterMove_33 : decode cX0_isWithinAfterMove 33 = .ok (.if_icmp .gt 7, 3) := by decide +kernel
theorem dX0_isWithinAfterMove_36 : decode cX0_isWithinAfterMove 36 = .ok (.iconst 1, 1) := by decide +kernel
theorem dX0_isWithinAfterMove_37 : decode cX0_isWithinAfterMove 37 = .ok (.goto 4, 3) := by decide +kernel
theorem dX0_isWithinAfterMove_40 : decode cX0_isWithinAfterMove 40 = .ok (.iconst 0, 1) := by decide +kernel
theorem dX0_isWithinAfterMove_41 : decode cX0_isWithinAfterMove 41 = .ok (.ireturn, 1) := by decide +kernel
theorem dX0_leastCut_0 : decode cX0_leastCut 0 = .ok (.bipush (-9), 2) := by decide +kernel
theorem dX0_leastCut_2 : decode cX0_leastCut 2 = .ok (.istore_n 1, 1) := by decide +kernel
theorem dX0_leastCut_3 : decode cX0_leastCut 3 = .ok (.bipush 7, 2) := by decide +kernel
theorem dX0_leastCut_5 : decode cX0_leastCut 5 = .ok (.istore_n 2, 1) := by decide +kernel
theorem dX0_leastCut_6 : decode cX0_leastCut 6 = .ok (.iconst 0, 1) := by decide +kernel
theorem dX0_leastCut_7 : decode cX0_leastCut 7 = .ok (.istore_n 3, 1) := by decide +kernel
theorem dX0_leastCut_8 : decode cX0_leastCut 8 = .ok (.iload_n 3, 1) := by decide +kernel
theorem dX0_leastCut_9 : decode cX0_leastCut 9 = .ok (.aload_n 0, 1) := by decide +kernel
theorem dX0_leastCut_10 : decode cX0_leastCut 10 = .ok (.invokevirtual 47, 3) := by decide +kernel
theorem dX0_leastCut_13 : decode cX0_leastCut 13 = .ok (.if_icmp .gt 57, 3) := by decide +kernel
theorem dX0_leastCut_16 : decode cX0_leastCut 16 = .ok (.aload_n 0, 1) := by decide +kernel
theorem dX0_leastCut_17 : decode cX0_leastCut 17 = .ok (.iload_n 3, 1) := by decide +kernel
theorem dX0_leastCut_18 : decode cX0_leastCut 18 = .ok (.invokevirtual 75, 3) := by decide +kernel
theorem dX0_leastCut_21 : decode cX0_leastCut 21 = .ok (.ifCond .eq 43, 3) := by decide +kernel
theorem dX0_leastCut_24 : decode cX0_leastCut 24 = .ok (.aload_n 0, 1) := by decide +kernel
theorem dX0_leastCut_25 : decode cX0_leastCut 25 = .ok (.iload_n 3, 1) := by decide +kernel
theorem dX0_leastCut_26 : decode cX0_leastCut 26 = .ok (.invokevirtual 66, 3) := by decide +kernel
theorem dX0_leastCut_29 : decode cX0_leastCut 29 = .ok (.iload_n 2, 1) := by decide +kernel
theorem dX0_leastCut_30 : decode cX0_leastCut 30 = .ok (.if_icmp .ge 34, 3) := by decide +kernel
theorem dX0_leastCut_33 : decode cX0_leastCut 33 = .ok (.aload_n 0, 1) := by decide +kernel
theorem dX0_leastCut_34 : decode cX0_leastCut 34 = .ok (.iload_n 3, 1) := by decide +kernel
theorem dX0_leastCut_35 : decode cX0_leastCut 35 = .ok (.invokevirtual 79, 3) := by decide +kernel
theorem dX0_leastCut_38 : decode cX0_leastCut 38 = .ok (.ifCond .eq 26, 3) := by decide +kernel
theorem dX0_leastCut_41 : decode cX0_leastCut 41 = .ok (.aload_n 0, 1) := by decide +kernel
theorem dX0_leastCut_42 : decode cX0_leastCut 42 = .ok (.aload_n 0, 1) := by decide +kernel
theorem dX0_leastCut_43 : decode cX0_leastCut 43 = .ok (.invokevirtual 47, 3) := by decide +kernel
theorem dX0_leastCut_46 : decode cX0_leastCut 46 = .ok (.iload_n 3, 1) := by decide +kernel
theorem dX0_leastCut_47 : decode cX0_leastCut 47 = .ok (.iconst (-1), 1) := by decide +kernel
theorem dX0_leastCut_48 : decode cX0_leastCut 48 = .ok (.ixor, 1) := by decide +kernel
theorem dX0_leastCut_49 : decode cX0_leastCut 49 = .ok (.iand, 1) := by decide +kernel
theorem dX0_leastCut_50 : decode cX0_leastCut 50 = .ok (.invokevirtual 79, 3) := by decide +kernel
theorem dX0_leastCut_53 : decode cX0_leastCut 53 = .ok (.ifCond .eq 11, 3) := by decide +kernel
theorem dX0_leastCut_56 : decode cX0_leastCut 56 = .ok (.iload_n 3, 1) := by decide +kernel
theorem dX0_leastCut_57 : decode cX0_leastCut 57 = .ok (.istore_n 1, 1) := by decide +kernel
theorem dX0_leastCut_58 : decode cX0_leastCut 58 = .ok (.aload_n 0, 1) := by decide +kernel
theorem dX0_leastCut_59 : decode cX0_leastCut 59 = .ok (.iload_n 3, 1) := by decide +kernel
theorem dX0_leastCut_60 : decode cX0_leastCut 60 = .ok (.invokevirtual 66, 3) := by decide +kernel
theorem dX0_leastCut_63 : decode cX0_leastCut 63 = .ok (.istore_n 2, 1) := by decide +kernel
theorem dX0_leastCut_64 : decode cX0_leastCut 64 = .ok (.iinc 3 1, 3) := by decide +kernel
theorem dX0_leastCut_67 : decode cX0_leastCut 67 = .ok (.goto (-59), 3) := by decide +kernel
theorem dX0_leastCut_70 : decode cX0_leastCut 70 = .ok (.iload_n 1, 1) := by decide +kernel
theorem dX0_leastCut_71 : decode cX0_leastCut 71 = .ok (.ireturn, 1) := by decide +kernel
theorem dX1_init_0 : decode cX1_init 0 = .ok (.aload_n 0, 1) := by decide +kernel
theorem dX1_init_1 : decode cX1_init 1 = .ok (.invokespecial 3, 3) := by decide +kernel
theorem dX1_init_4 : decode cX1_init 4 = .ok (.aload_n 0, 1) := by decide +kernel
theorem dX1_init_5 : decode cX1_init 5 = .ok (.bipush 7, 2) := by decide +kernel
theorem dX1_init_7 : decode cX1_init 7 = .ok (.newarray .int, 2) := by decide +kernel
theorem dX1_init_9 : decode cX1_init 9 = .ok (.putfield 9, 3) := by decide +kernel
theorem dX1_init_12 : decode cX1_init 12 = .ok (.return_, 1) := by decide +kernel
theorem dX1_run_0 : decode cX1_run 0 = .ok (.aload_n 0, 1) := by decide +kernel
theorem dX1_run_1 : decode cX1_run 1 = .ok (.iconst 0, 1) := by decide +kernel
theorem dX1_run_2 : decode cX1_run 2 = .ok (.putfield 15, 3) := by decide +kernel
theorem dX1_run_5 : decode cX1_run 5 = .ok (.aload_n 0, 1) := by decide +kernel
theorem dX1_run_6 : decode cX1_run 6 = .ok (.iconst 0, 1) := by decide +kernel
theorem dX1_run_7 : decode cX1_run 7 = .ok (.putfield 19, 3) := by decide +kernel
theorem dX1_run_10 : decode cX1_run 10 = .ok (.aload_n 1, 1) := by decide +kernel
theorem dX1_run_11 : decode cX1_run 11 = .ok (.getfield 22, 3) := by decide +kernel
theorem dX1_run_14 : decode cX1_run 14 = .ok (.istore_n 3, 1) := by decide +kernel
theorem dX1_run_15 : decode cX1_run 15 = .ok (.aload_n 1, 1) := by decide +kernel
theorem dX1_run_16 : decode cX1_run 16 = .ok (.invokevirtual 27, 3) := by decide +kernel
theorem dX1_run_19 : decode cX1_run 19 = .ok (.istore 4, 2) := by decide +kernel
theorem dX1_run_21 : decode cX1_run 21 = .ok (.aload_n 1, 1) := by decide +kernel
theorem dX1_run_22 : decode cX1_run 22 = .ok (.getfield 31, 3) := by decide +kernel
theorem dX1_run_25 : decode cX1_run 25 = .ok (.istore 5, 2) := by decide +kernel
theorem dX1_run_27 : decode cX1_run 27 = .ok (.iconst 0, 1) := by decide +kernel
theorem dX1_run_28 : decode cX1_run 28 = .ok (.istore 6, 2) := by decide +kernel
theorem dX1_run_30 : decode cX1_run 30 = .ok (.iload 6, 2) := by decide +kernel
theorem dX1_run_32 : decode cX1_run 32 = .ok (.aload_n 1, 1) := by decide +kernel
theorem dX1_run_33 : decode cX1_run 33 = .ok (.getfield 34, 3) := by decide +kernel
theorem dX1_run_36 : decode cX1_run 36 = .ok (.if_icmp .ge 90, 3) := by decide +kernel
theorem dX1_run_39 : decode cX1_run 39 = .ok (.aload_n 1, 1) := by decide +kernel
theorem dX1_run_40 : decode cX1_run 40 = .ok (.iload_n 2, 1) := by decide +kernel
theorem dX1_run_41 : decode cX1_run 41 = .ok (.iload_n 3, 1) := by decide +kernel
theorem dX1_run_42 : decode cX1_run 42 = .ok (.invokestatic 37, 3) := by decide +kernel
theorem dX1_run_45 : decode cX1_run 45 = .ok (.istore 7, 2) := by decide +kernel
theorem dX1_run_47 : decode cX1_run 47 = .ok (.iload 7, 2) := by decide +kernel
theorem dX1_run_49 : decode cX1_run 49 = .ok (.bipush (-9), 2) := by decide +kernel
theorem dX1_run_51 : decode cX1_run 51 = .ok (.if_icmp .ne 6, 3) := by decide +kernel
theorem dX1_run_54 : decode cX1_run 54 = .ok (.goto 72, 3) := by decide +kernel
theorem dX1_run_57 : decode cX1_run 57 = .ok (.aload_n 1, 1) := by decide +kernel
theorem dX1_run_58 : decode cX1_run 58 = .ok (.iload 7, 2) := by decide +kernel
theorem dX1_run_60 : decode cX1_run 60 = .ok (.invokevirtual 41, 3) := by decide +kernel
theorem dX1_run_63 : decode cX1_run 63 = .ok (.iload_n 3, 1) := by decide +kernel
theorem dX1_run_64 : decode cX1_run 64 = .ok (.iconst 1, 1) := by decide +kernel
theorem dX1_run_65 : decode cX1_run 65 = .ok (.iload 7, 2) := by decide +kernel
theorem dX1_run_67 : decode cX1_run 67 = .ok (.ishl, 1) := by decide +kernel
theorem dX1_run_68 : decode cX1_run 68 = .ok (.ior, 1) := by decide +kernel
theorem dX1_run_69 : decode cX1_run 69 = .ok (.istore_n 3, 1) := by decide +kernel
theorem dX1_run_70 : decode cX1_run 70 = .ok (.aload_n 0, 1) := by decide +kernel
theorem dX1_run_71 : decode cX1_run 71 = .ok (.getfield 9, 3) := by decide +kernel
theorem dX1_run_74 : decode cX1_run 74 = .ok (.aload_n 0, 1) := by decide +kernel
theorem dX1_run_75 : decode cX1_run 75 = .ok (.getfield 15, 3) := by decide +kernel
theorem dX1_run_78 : decode cX1_run 78 = .ok (.iload 7, 2) := by decide +kernel
theorem dX1_run_80 : decode cX1_run 80 = .ok (.iastore, 1) := by decide +kernel
theorem dX1_run_81 : decode cX1_run 81 = .ok (.aload_n 0, 1) := by decide +kernel
theorem dX1_run_82 : decode cX1_run 82 = .ok (.dup, 1) := by decide +kernel
theorem dX1_run_83 : decode cX1_run 83 = .ok (.getfield 15, 3) := by decide +kernel
theorem dX1_run_86 : decode cX1_run 86 = .ok (.iconst 1, 1) := by decide +kernel
theorem dX1_run_87 : decode cX1_run 87 = .ok (.iadd, 1) := by decide +kernel
theorem dX1_run_88 : decode cX1_run 88 = .ok (.putfield 15, 3) := by decide +kernel
theorem dX1_run_91 : decode cX1_run 91 = .ok (.aload_n 1, 1) := by decide +kernel
theorem dX1_run_92 : decode cX1_run 92 = .ok (.invokevirtual 27, 3) := by decide +kernel
theorem dX1_run_95 : decode cX1_run 95 = .ok (.iload 4, 2) := by decide +kernel
theorem dX1_run_97 : decode cX1_run 97 = .ok (.if_icmp .ge 23, 3) := by decide +kernel
theorem dX1_run_100 : decode cX1_run 100 = .ok (.aload_n 1, 1) := by decide +kernel
theorem dX1_run_101 : decode cX1_run 101 = .ok (.invokevirtual 27, 3) := by decide +kernel
theorem dX1_run_104 : decode cX1_run 104 = .ok (.istore 4, 2) := by decide +kernel
theorem dX1_run_106 : decode cX1_run 106 = .ok (.aload_n 1, 1) := by decide +kernel
theorem dX1_run_107 : decode cX1_run 107 = .ok (.getfield 31, 3) := by decide +kernel
theorem dX1_run_110 : decode cX1_run 110 = .ok (.istore 5, 2) := by decide +kernel
theorem dX1_run_112 : decode cX1_run 112 = .ok (.aload_n 0, 1) := by decide +kernel
theorem dX1_run_113 : decode cX1_run 113 = .ok (.aload_n 0, 1) := by decide +kernel
theorem dX1_run_114 : decode cX1_run 114 = .ok (.getfield 15, 3) := by decide +kernel
theorem dX1_run_117 : decode cX1_run 117 = .ok (.putfield 19, 3) := by decide +kernel
theorem dX1_run_120 : decode cX1_run 120 = .ok (.iinc 6 1, 3) := by decide +kernel
theorem dX1_run_123 : decode cX1_run 123 = .ok (.goto (-93), 3) := by decide +kernel
theorem dX1_run_126 : decode cX1_run 126 = .ok (.aload_n 1, 1) := by decide +kernel
theorem dX1_run_127 : decode cX1_run 127 = .ok (.iload 5, 2) := by decide +kernel
theorem dX1_run_129 : decode cX1_run 129 = .ok (.putfield 31, 3) := by decide +kernel
theorem dX1_run_132 : decode cX1_run 132 = .ok (.return_, 1) := by decide +kernel
theorem dX1_movedAt_0 : decode cX1_movedAt 0 = .ok (.iload_n 1, 1) := by decide +kernel
theorem dX1_movedAt_1 : decode cX1_movedAt 1 = .ok (.ifCond .lt 20, 3) := by decide +kernel
theorem dX1_movedAt_4 : decode cX1_movedAt 4 = .ok (.iload_n 1, 1) := by decide +kernel
theorem dX1_movedAt_5 : decode cX1_movedAt 5 = .ok (.aload_n 0, 1) := by decide +kernel
theorem dX1_movedAt_6 : decode cX1_movedAt 6 = .ok (.getfield 15, 3) := by decide +kernel
theorem dX1_movedAt_9 : decode cX1_movedAt 9 = .ok (.if_icmp .ge 12, 3) := by decide +kernel
theorem dX1_movedAt_12 : decode cX1_movedAt 12 = .ok (.aload_n 0, 1) := by decide +kernel
theorem dX1_movedAt_13 : decode cX1_movedAt 13 = .ok (.getfield 9, 3) := by decide +kernel
theorem dX1_movedAt_16 : decode cX1_movedAt 16 = .ok (.iload_n 1, 1) := by decide +kernel
theorem dX1_movedAt_17 : decode cX1_movedAt 17 = .ok (.iaload, 1) := by decide +kernel
theorem dX1_movedAt_18 : decode cX1_movedAt 18 = .ok (.goto 5, 3) := by decide +kernel
theorem dX1_movedAt_21 : decode cX1_movedAt 21 = .ok (.bipush (-9), 2) := by decide +kernel
theorem dX1_movedAt_23 : decode cX1_movedAt 23 = .ok (.ireturn, 1) := by decide +kernel
theorem dX1_bestCell_0 : decode cX1_bestCell 0 = .ok (.bipush (-9), 2) := by decide +kernel
theorem dX1_bestCell_2 : decode cX1_bestCell 2 = .ok (.istore_n 3, 1) := by decide +kernel
theorem dX1_bestCell_3 : decode cX1_bestCell 3 = .ok (.iconst 0, 1) := by decide +kernel
theorem dX1_bestCell_4 : decode cX1_bestCell 4 = .ok (.istore 4, 2) := by decide +kernel
theorem dX1_bestCell_6 : decode cX1_bestCell 6 = .ok (.iconst 0, 1) := by decide +kernel
theorem dX1_bestCell_7 : decode cX1_bestCell 7 = .ok (.istore 5, 2) := by decide +kernel
theorem dX1_bestCell_9 : decode cX1_bestCell 9 = .ok (.iload 5, 2) := by decide +kernel
theorem dX1_bestCell_11 : decode cX1_bestCell 11 = .ok (.aload_n 0, 1) := by decide +kernel
theorem dX1_bestCell_12 : decode cX1_bestCell 12 = .ok (.getfield 34, 3) := by decide +kernel
theorem dX1_bestCell_15 : decode cX1_bestCell 15 = .ok (.if_icmp .ge 76, 3) := by decide +kernel
theorem dX1_bestCell_18 : decode cX1_bestCell 18 = .ok (.iload_n 2, 1) := by decide +kernel
theorem dX1_bestCell_19 : decode cX1_bestCell 19 = .ok (.iload 5, 2) := by decide +kernel
theorem dX1_bestCell_21 : decode cX1_bestCell 21 = .ok (.ishr, 1) := by decide +kernel
theorem dX1_bestCell_22 : decode cX1_bestCell 22 = .ok (.iconst 1, 1) := by decide +kernel
theorem dX1_bestCell_23 : decode cX1_bestCell 23 = .ok (.iand, 1) := by decide +kernel
theorem dX1_bestCell_24 : decode cX1_bestCell 24 = .ok (.iconst 1, 1) := by decide +kernel
theorem dX1_bestCell_25 : decode cX1_bestCell 25 = .ok (.if_icmp .eq 60, 3) := by decide +kernel
theorem dX1_bestCell_28 : decode cX1_bestCell 28 = .ok (.aload_n 0, 1) := by decide +kernel
theorem dX1_bestCell_29 : decode cX1_bestCell 29 = .ok (.iload 5, 2) := by decide +kernel
theorem dX1_bestCell_31 : decode cX1_bestCell 31 = .ok (.invokevirtual 45, 3) := by decide +kernel
theorem dX1_bestCell_34 : decode cX1_bestCell 34 = .ok (.ifCond .ne 6, 3) := by decide +kernel
theorem dX1_bestCell_37 : decode cX1_bestCell 37 = .ok (.goto 48, 3) := by decide +kernel
theorem dX1_bestCell_40 : decode cX1_bestCell 40 = .ok (.aload_n 0, 1) := by decide +kernel
theorem dX1_bestCell_41 : decode cX1_bestCell 41 = .ok (.iload 5, 2) := by decide +kernel
theorem dX1_bestCell_43 : decode cX1_bestCell 43 = .ok (.invokevirtual 49, 3) := by decide +kernel
theorem dX1_bestCell_46 : decode cX1_bestCell 46 = .ok (.istore 6, 2) := by decide +kernel
theorem dX1_bestCell_48 : decode cX1_bestCell 48 = .ok (.iload_n 3, 1) := by decide +kernel
theorem dX1_bestCell_49 : decode cX1_bestCell 49 = .ok (.bipush (-9), 2) := by decide +kernel
theorem dX1_bestCell_51 : decode cX1_bestCell 51 = .ok (.if_icmp .eq 27, 3) := by decide +kernel
theorem dX1_bestCell_54 : decode cX1_bestCell 54 = .ok (.iload_n 1, 1) := by decide +kernel
theorem dX1_bestCell_55 : decode cX1_bestCell 55 = .ok (.iload 6, 2) := by decide +kernel
theorem dX1_bestCell_57 : decode cX1_bestCell 57 = .ok (.aload_n 0, 1) := by decide +kernel
theorem dX1_bestCell_58 : decode cX1_bestCell 58 = .ok (.getfield 53, 3) := by decide +kernel
theorem dX1_bestCell_61 : decode cX1_bestCell 61 = .ok (.iload 5, 2) := by decide +kernel
theorem dX1_bestCell_63 : decode cX1_bestCell 63 = .ok (.iaload, 1) := by decide +kernel
theorem dX1_bestCell_64 : decode cX1_bestCell 64 = .ok (.iload 4, 2) := by decide +kernel
theorem dX1_bestCell_66 : decode cX1_bestCell 66 = .ok (.aload_n 0, 1) := by decide +kernel
theorem dX1_bestCell_67 : decode cX1_bestCell 67 = .ok (.getfield 53, 3) := by decide +kernel
theorem dX1_bestCell_70 : decode cX1_bestCell 70 = .ok (.iload_n 3, 1) := by decide +kernel
theorem dX1_bestCell_71 : decode cX1_bestCell 71 = .ok (.iaload, 1) := by decide +kernel
theorem dX1_bestCell_72 : decode cX1_bestCell 72 = .ok (.invokestatic 56, 3) := by decide +kernel
theorem dX1_bestCell_75 : decode cX1_bestCell 75 = .ok (.ifCond .eq 10, 3) := by decide +kernel
theorem dX1_bestCell_78 : decode cX1_bestCell 78 = .ok (.iload 5, 2) := by decide +kernel
theorem dX1_bestCell_80 : decode cX1_bestCell 80 = .ok (.istore_n 3, 1) := by decide +kernel
theorem dX1_bestCell_81 : decode cX1_bestCell 81 = .ok (.iload 6, 2) := by decide +kernel
theorem dX1_bestCell_83 : decode cX1_bestCell 83 = .ok (.istore 4, 2) := by decide +kernel
theorem dX1_bestCell_85 : decode cX1_bestCell 85 = .ok (.iinc 5 1, 3) := by decide +kernel
theorem dX1_bestCell_88 : decode cX1_bestCell 88 = .ok (.goto (-79), 3) := by decide +kernel
theorem dX1_bestCell_91 : decode cX1_bestCell 91 = .ok (.iload_n 3, 1) := by decide +kernel
theorem dX1_bestCell_92 : decode cX1_bestCell 92 = .ok (.ireturn, 1) := by decide +kernel
theorem dX1_isBetter_0 : decode cX1_isBetter 0 = .ok (.iload_n 0, 1) := by decide +kernel
theorem dX1_isBetter_1 : decode cX1_isBetter 1 = .ok (.iconst 2, 1) := by decide +kernel
theorem dX1_isBetter_2 : decode cX1_isBetter 2 = .ok (.if_icmp .ne 19, 3) := by decide +kernel
theorem dX1_isBetter_5 : decode cX1_isBetter 5 = .ok (.iload_n 1, 1) := by decide +kernel
theorem dX1_isBetter_6 : decode cX1_isBetter 6 = .ok (.iload 4, 2) := by decide +kernel
theorem dX1_isBetter_8 : decode cX1_isBetter 8 = .ok (.imul, 1) := by decide +kernel
theorem dX1_isBetter_9 : decode cX1_isBetter 9 = .ok (.iload_n 3, 1) := by decide +kernel
theorem dX1_isBetter_10 : decode cX1_isBetter 10 = .ok (.iload_n 2, 1) := by decide +kernel
theorem dX1_isBetter_11 : decode cX1_isBetter 11 = .ok (.imul, 1) := by decide +kernel
theorem dX1_isBetter_12 : decode cX1_isBetter 12 = .ok (.if_icmp .le 7, 3) := by decide +kernel
theorem dX1_isBetter_15 : decode cX1_isBetter 15 = .ok (.iconst 1, 1) := by decide +kernel
theorem dX1_isBetter_16 : decode cX1_isBetter 16 = .ok (.goto 4, 3) := by decide +kernel
theorem dX1_isBetter_19 : decode cX1_isBetter 19 = .ok (.iconst 0, 1) := by decide +kernel
theorem dX1_isBetter_20 : decode cX1_isBetter 20 = .ok (.ireturn, 1) := by decide +kernel
theorem dX1_isBetter_21 : decode cX1_isBetter 21 = .ok (.iload_n 1, 1) := by decide +kernel
theorem dX1_isBetter_22 : decode cX1_isBetter 22 = .ok (.iload_n 3, 1) := by decide +kernel
theorem dX1_isBetter_23 : decode cX1_isBetter 23 = .ok (.if_icmp .eq 14, 3) := by decide +kernel
theorem dX1_isBetter_26 : decode cX1_isBetter 26 = .ok (.iload_n 1, 1) := by decide +kernel
theorem dX1_isBetter_27 : decode cX1_isBetter 27 = .ok (.iload_n 3, 1) := by decide +kernel
theorem dX1_isBetter_28 : decode cX1_isBetter 28 = .ok (.if_icmp .le 7, 3) := by decide +kernel
theorem dX1_isBetter_31 : decode cX1_isBetter 31 = .ok (.iconst 1, 1) := by decide +kernel
theorem dX1_isBetter_32 : decode cX1_isBetter 32 = .ok (.goto 4, 3) := by decide +kernel
theorem dX1_isBetter_35 : decode cX1_isBetter 35 = .ok (.iconst 0, 1) := by decide +kernel
theorem dX1_isBetter_36 : decode cX1_isBetter 36 = .ok (.ireturn, 1) := by decide +kernel
theorem dX1_isBetter_37 : decode cX1_isBetter 37 = .ok (.iload_n 0, 1) := by decide +kernel
theorem dX1_isBetter_38 : decode cX1_isBetter 38 = .ok (.iconst 1, 1) := by decide +kernel
theorem dX1_isBetter_39 : decode cX1_isBetter 39 = .ok (.if_icmp .ne 13, 3) := by decide +kernel
theorem dX1_isBetter_42 : decode cX1_isBetter 42 = .ok (.iload_n 2, 1) := by decide +kernel
theorem dX1_isBetter_43 : decode cX1_isBetter 43 = .ok (.iload 4, 2) := by decide +kernel
theorem dX1_isBetter_45 : decode cX1_isBetter 45 = .ok (.if_icmp .le 7, 3) := by decide +kernel
theorem dX1_isBetter_48 : decode cX1_isBetter 48 = .ok (.iconst 1, 1) := by decide +kernel
theorem dX1_isBetter_49 : decode cX1_isBetter 49 = .ok (.goto 4, 3) := by decide +kernel
theorem dX1_isBetter_52 : decode cX1_isBetter 52 = .ok (.iconst 0, 1) := by decide +kernel
theorem dX1_isBetter_53 : decode cX1_isBetter 53 = .ok (.ireturn, 1) := by decide +kernel
theorem dX2_init_0 : decode cX2_init 0 = .ok (.aload_n 0, 1) := by decide +kernel
theorem dX2_init_1 : decode cX2_init 1 = .ok (.invokespecial 3, 3) := by decide +kernel
theorem dX2_init_4 : decode cX2_init 4 = .ok (.aload_n 0, 1) := by decide +kernel
theorem dX2_init_5 : decode cX2_init 5 = .ok (.bipush 9, 2) := by decide +kernel
theorem dX2_init_7 : decode cX2_init 7 = .ok (.newarray .int, 2) := by decide +kernel
theorem dX2_init_9 : decode cX2_init 9 = .ok (.putfield 9, 3) := by decide +kernel
theorem dX2_init_12 : decode cX2_init 12 = .ok (.return_, 1) := by decide +kernel
theorem dX2_renew_0 : decode cX2_renew 0 = .ok (.aload_n 0, 1) := by decide +kernel
theorem dX2_renew_1 : decode cX2_renew 1 = .ok (.iconst 1, 1) := by decide +kernel
theorem dX2_renew_2 : decode cX2_renew 2 = .ok (.putfield 15, 3) := by decide +kernel
theorem dX2_renew_5 : decode cX2_renew 5 = .ok (.aload_n 0, 1) := by decide +kernel
theorem dX2_renew_6 : decode cX2_renew 6 = .ok (.iload_n 1, 1) := by decide +kernel
theorem dX2_renew_7 : decode cX2_renew 7 = .ok (.putfield 19, 3) := by decide +kernel
theorem dX2_renew_10 : decode cX2_renew 10 = .ok (.aload_n 0, 1) := by decide +kernel
theorem dX2_renew_11 : decode cX2_renew 11 = .ok (.iload_n 2, 1) := by decide +kernel
theorem dX2_renew_12 : decode cX2_renew 12 = .ok (.putfield 23, 3) := by decide +kernel
theorem dX2_renew_15 : decode cX2_renew 15 = .ok (.aload_n 0, 1) := by decide +kernel
theorem dX2_renew_16 : decode cX2_renew 16 = .ok (.getfield 9, 3) := by decide +kernel
theorem dX2_renew_19 : decode cX2_renew 19 = .ok (.bipush (-9), 2) := by decide +kernel
theorem dX2_renew_21 : decode cX2_renew 21 = .ok (.invokestatic 26, 3) := by decide +kernel
theorem dX2_renew_24 : decode cX2_renew 24 = .ok (.return_, 1) := by decide +kernel
theorem dX2_faultAt_0 : decode cX2_faultAt 0 = .ok (.aload_n 0, 1) := by decide +kernel
theorem dX2_faultAt_1 : decode cX2_faultAt 1 = .ok (.getfield 15, 3) := by decide +kernel
theorem dX2_faultAt_4 : decode cX2_faultAt 4 = .ok (.ifCond .ne 5, 3) := by decide +kernel
theorem dX2_faultAt_7 : decode cX2_faultAt 7 = .ok (.iconst 1, 1) := by decide +kernel
theorem dX2_faultAt_8 : decode cX2_faultAt 8 = .ok (.ireturn, 1) := by decide +kernel
theorem dX2_faultAt_9 : decode cX2_faultAt 9 = .ok (.iload_n 1, 1) := by decide +kernel
theorem dX2_faultAt_10 : decode cX2_faultAt 10 = .ok (.ifCond .lt 15, 3) := by decide +kernel
theorem dX2_faultAt_13 : decode cX2_faultAt 13 = .ok (.iload_n 1, 1) := by decide +kernel
theorem dX2_faultAt_14 : decode cX2_faultAt 14 = .ok (.aload_n 0, 1) := by decide +kernel
theorem dX2_faultAt_15 : decode cX2_faultAt 15 = .ok (.getfield 23, 3) := by decide +kernel
theorem dX2_faultAt_18 : decode cX2_faultAt 18 = .ok (.if_icmp .ge 7, 3) := by decide +kernel
theorem dX2_faultAt_21 : decode cX2_faultAt 21 = .ok (.iconst 0, 1) := by decide +kernel
theorem dX2_faultAt_22 : decode cX2_faultAt 22 = .ok (.goto 4, 3) := by decide +kernel
theorem dX2_faultAt_25 : decode cX2_faultAt 25 = .ok (.iconst 3, 1) := by decide +kernel
theorem dX2_faultAt_26 : decode cX2_faultAt 26 = .ok (.ireturn, 1) := by decide +kernel
theorem dX3_init_0 : decode cX3_init 0 = .ok (.aload_n 0, 1) := by decide +kernel
theorem dX3_init_1 : decode cX3_init 1 = .ok (.invokespecial 3, 3) := by decide +kernel
theorem dX3_init_4 : decode cX3_init 4 = .ok (.aload_n 0, 1) := by decide +kernel
theorem dX3_init_5 : decode cX3_init 5 = .ok (.bipush 8, 2) := by decide +kernel
theorem dX3_init_7 : decode cX3_init 7 = .ok (.newarray .int, 2) := by decide +kernel
theorem dX3_init_9 : decode cX3_init 9 = .ok (.putfield 9, 3) := by decide +kernel
theorem dX3_init_12 : decode cX3_init 12 = .ok (.aload_n 0, 1) := by decide +kernel
theorem dX3_init_13 : decode cX3_init 13 = .ok (.bipush 8, 2) := by decide +kernel
theorem dX3_init_15 : decode cX3_init 15 = .ok (.newarray .int, 2) := by decide +kernel
theorem dX3_init_17 : decode cX3_init 17 = .ok (.putfield 15, 3) := by decide +kernel
theorem dX3_init_20 : decode cX3_init 20 = .ok (.return_, 1) := by decide +kernel
theorem dX3_add_0 : decode cX3_add 0 = .ok (.aload_n 0, 1) := by decide +kernel
theorem dX3_add_1 : decode cX3_add 1 = .ok (.getfield 18, 3) := by decide +kernel
theorem dX3_add_4 : decode cX3_add 4 = .ok (.istore_n 3, 1) := by decide +kernel
theorem dX3_add_5 : decode cX3_add 5 = .ok (.aload_n 0, 1) := by decide +kernel
theorem dX3_add_6 : decode cX3_add 6 = .ok (.getfield 9, 3) := by decide +kernel
theorem dX3_add_9 : decode cX3_add 9 = .ok (.iload_n 3, 1) := by decide +kernel
theorem dX3_add_10 : decode cX3_add 10 = .ok (.iload_n 1, 1) := by decide +kernel
theorem dX3_add_11 : decode cX3_add 11 = .ok (.iastore, 1) := by decide +kernel
theorem dX3_add_12 : decode cX3_add 12 = .ok (.aload_n 0, 1) := by decide +kernel
theorem dX3_add_13 : decode cX3_add 13 = .ok (.getfield 15, 3) := by decide +kernel
theorem dX3_add_16 : decode cX3_add 16 = .ok (.iload_n 3, 1) := by decide +kernel
theorem dX3_add_17 : decode cX3_add 17 = .ok (.iload_n 2, 1) := by decide +kernel
theorem dX3_add_18 : decode cX3_add 18 = .ok (.iastore, 1) := by decide +kernel
theorem dX3_add_19 : decode cX3_add 19 = .ok (.aload_n 0, 1) := by decide +kernel
theorem dX3_add_20 : decode cX3_add 20 = .ok (.dup, 1) := by decide +kernel
theorem dX3_add_21 : decode cX3_add 21 = .ok (.getfield 18, 3) := by decide +kernel
theorem dX3_add_24 : decode cX3_add 24 = .ok (.iconst 1, 1) := by decide +kernel
theorem dX3_add_25 : decode cX3_add 25 = .ok (.iadd, 1) := by decide +kernel
theorem dX3_add_26 : decode cX3_add 26 = .ok (.putfield 18, 3) := by decide +kernel
theorem dX3_add_29 : decode cX3_add 29 = .ok (.iload_n 3, 1) := by decide +kernel
theorem dX3_add_30 : decode cX3_add 30 = .ok (.ireturn, 1) := by decide +kernel
theorem dX3_areSoBy_0 : decode cX3_areSoBy 0 = .ok (.iconst 0, 1) := by decide +kernel
theorem dX3_areSoBy_1 : decode cX3_areSoBy 1 = .ok (.istore_n 2, 1) := by decide +kernel
theorem dX3_areSoBy_2 : decode cX3_areSoBy 2 = .ok (.iload_n 2, 1) := by decide +kernel
theorem dX3_areSoBy_3 : decode cX3_areSoBy 3 = .ok (.aload_n 0, 1) := by decide +kernel
theorem dX3_areSoBy_4 : decode cX3_areSoBy 4 = .ok (.getfield 18, 3) := by decide +kernel
theorem dX3_areSoBy_7 : decode cX3_areSoBy 7 = .ok (.if_icmp .ge 32, 3) := by decide +kernel
theorem dX3_areSoBy_10 : decode cX3_areSoBy 10 = .ok (.aload_n 1, 1) := by decide +kernel
theorem dX3_areSoBy_11 : decode cX3_areSoBy 11 = .ok (.iconst 1, 1) := by decide +kernel
theorem dX3_areSoBy_12 : decode cX3_areSoBy 12 = .ok (.aload_n 0, 1) := by decide +kernel
theorem dX3_areSoBy_13 : decode cX3_areSoBy 13 = .ok (.getfield 9, 3) := by decide +kernel
theorem dX3_areSoBy_16 : decode cX3_areSoBy 16 = .ok (.iload_n 2, 1) := by decide +kernel
theorem dX3_areSoBy_17 : decode cX3_areSoBy 17 = .ok (.iaload, 1) := by decide +kernel
theorem dX3_areSoBy_18 : decode cX3_areSoBy 18 = .ok (.ishl, 1) := by decide +kernel
theorem dX3_areSoBy_19 : decode cX3_areSoBy 19 = .ok (.invokevirtual 22, 3) := by decide +kernel
theorem dX3_areSoBy_22 : decode cX3_areSoBy 22 = .ok (.aload_n 0, 1) := by decide +kernel
theorem dX3_areSoBy_23 : decode cX3_areSoBy 23 = .ok (.getfield 15, 3) := by decide +kernel
theorem dX3_areSoBy_26 : decode cX3_areSoBy 26 = .ok (.iload_n 2, 1) := by decide +kernel
theorem dX3_areSoBy_27 : decode cX3_areSoBy 27 = .ok (.iaload, 1) := by decide +kernel
theorem dX3_areSoBy_28 : decode cX3_areSoBy 28 = .ok (.if_icmp .eq 5, 3) := by decide +kernel
theorem dX3_areSoBy_31 : decode cX3_areSoBy 31 = .ok (.iconst 0, 1) := by decide +kernel
theorem dX3_areSoBy_32 : decode cX3_areSoBy 32 = .ok (.ireturn, 1) := by decide +kernel
theorem dX3_areSoBy_33 : decode cX3_areSoBy 33 = .ok (.iinc 2 1, 3) := by decide +kernel
theorem dX3_areSoBy_36 : decode cX3_areSoBy 36 = .ok (.goto (-34), 3) := by decide +kernel
theorem dX3_areSoBy_39 : decode cX3_areSoBy 39 = .ok (.iconst 1, 1) := by decide +kernel
theorem dX3_areSoBy_40 : decode cX3_areSoBy 40 = .ok (.ireturn, 1) := by decide +kernel
theorem dX4_init_0 : decode cX4_init 0 = .ok (.aload_n 0, 1) := by decide +kernel
theorem dX4_init_1 : decode cX4_init 1 = .ok (.invokespecial 3, 3) := by decide +kernel
theorem dX4_init_4 : decode cX4_init 4 = .ok (.aload_n 0, 1) := by decide +kernel
theorem dX4_init_5 : decode cX4_init 5 = .ok (.iconst (-1), 1) := by decide +kernel
theorem dX4_init_6 : decode cX4_init 6 = .ok (.putfield 9, 3) := by decide +kernel
theorem dX4_init_9 : decode cX4_init 9 = .ok (.aload_n 0, 1) := by decide +kernel
theorem dX4_init_10 : decode cX4_init 10 = .ok (.bipush 60, 2) := by decide +kernel
theorem dX4_init_12 : decode cX4_init 12 = .ok (.newarray .int, 2) := by decide +kernel
theorem dX4_init_14 : decode cX4_init 14 = .ok (.putfield 15, 3) := by decide +kernel
theorem dX4_init_17 : decode cX4_init 17 = .ok (.return_, 1) := by decide +kernel
theorem dX4_renew_0 : decode cX4_renew 0 = .ok (.aload_n 0, 1) := by decide +kernel
theorem dX4_renew_1 : decode cX4_renew 1 = .ok (.iload_n 1, 1) := by decide +kernel
theorem dX4_renew_2 : decode cX4_renew 2 = .ok (.putfield 9, 3) := by decide +kernel
theorem dX4_renew_5 : decode cX4_renew 5 = .ok (.aload_n 0, 1) := by decide +kernel
theorem dX4_renew_6 : decode cX4_renew 6 = .ok (.iload_n 2, 1) := by decide +kernel
theorem dX4_renew_7 : decode cX4_renew 7 = .ok (.putfield 19, 3) := by decide +kernel
theorem dX4_renew_10 : decode cX4_renew 10 = .ok (.aload_n 0, 1) := by decide +kernel
theorem dX4_renew_11 : decode cX4_renew 11 = .ok (.getfield 15, 3) := by decide +kernel
theorem dX4_renew_14 : decode cX4_renew 14 = .ok (.iconst 0, 1) := by decide +kernel
theorem dX4_renew_15 : decode cX4_renew 15 = .ok (.invokestatic 22, 3) := by decide +kernel
theorem dX4_renew_18 : decode cX4_renew 18 = .ok (.return_, 1) := by decide +kernel
theorem dX4_faultAs_0 : decode cX4_faultAs 0 = .ok (.aload_n 0, 1) := by decide +kernel
theorem dX4_faultAs_1 : decode cX4_faultAs 1 = .ok (.getfield 9, 3) := by decide +kernel
theorem dX4_faultAs_4 : decode cX4_faultAs 4 = .ok (.iconst (-1), 1) := by decide +kernel
theorem dX4_faultAs_5 : decode cX4_faultAs 5 = .ok (.if_icmp .ne 5, 3) := by decide +kernel
theorem dX4_faultAs_8 : decode cX4_faultAs 8 = .ok (.iconst 1, 1) := by decide +kernel
theorem dX4_faultAs_9 : decode cX4_faultAs 9 = .ok (.ireturn, 1) := by decide +kernel
theorem dX4_faultAs_10 : decode cX4_faultAs 10 = .ok (.aload_n 0, 1) := by decide +kernel
theorem dX4_faultAs_11 : decode cX4_faultAs 11 = .ok (.getfield 9, 3) := by decide +kernel
theorem dX4_faultAs_14 : decode cX4_faultAs 14 = .ok (.iload_n 1, 1) := by decide +kernel
theorem dX4_faultAs_15 : decode cX4_faultAs 15 = .ok (.if_icmp .ne 7, 3) := by decide +kernel
theorem dX4_faultAs_18 : decode cX4_faultAs 18 = .ok (.iconst 0, 1) := by decide +kernel
theorem dX4_faultAs_19 : decode cX4_faultAs 19 = .ok (.goto 4, 3) := by decide +kernel
theorem dX4_faultAs_22 : decode cX4_faultAs 22 = .ok (.iconst 2, 1) := by decide +kernel
theorem dX4_faultAs_23 : decode cX4_faultAs 23 = .ok (.ireturn, 1) := by decide +kernel
theorem dX4_has_0 : decode cX4_has 0 = .ok (.iload_n 1, 1) := by decide +kernel
theorem dX4_has_1 : decode cX4_has 1 = .ok (.ifCond .lt 29, 3) := by decide +kernel
theorem dX4_has_4 : decode cX4_has 4 = .ok (.iload_n 1, 1) := by decide +kernel
theorem dX4_has_5 : decode cX4_has 5 = .ok (.aload_n 0, 1) := by decide +kernel
theorem dX4_has_6 : decode cX4_has 6 = .ok (.getfield 19, 3) := by decide +kernel
theorem dX4_has_9 : decode cX4_has 9 = .ok (.if_icmp .gt 21, 3) := by decide +kernel
theorem dX4_has_12 : decode cX4_has 12 = .ok (.iload_n 2, 1) := by decide +kernel
theorem dX4_has_13 : decode cX4_has 13 = .ok (.ifCond .lt 17, 3) := by decide +kernel
theorem dX4_has_16 : decode cX4_has 16 = .ok (.iload_n 2, 1) := by decide +kernel
theorem dX4_has_17 : decode cX4_has 17 = .ok (.aload_n 0, 1) := by decide +kernel
theorem dX4_has_18 : decode cX4_has 18 = .ok (.getfield 19, 3) := by decide +kernel
theorem dX4_has_21 : decode cX4_has 21 = .ok (.iload_n 1, 1) := by decide +kernel
theorem dX4_has_22 : decode cX4_has 22 = .ok (.isub, 1) := by decide +kernel
theorem dX4_has_23 : decode cX4_has 23 = .ok (.if_icmp .gt 7, 3) := by decide +kernel
theorem dX4_has_26 : decode cX4_has 26 = .ok (.iconst 1, 1) := by decide +kernel
theorem dX4_has_27 : decode cX4_has 27 = .ok (.goto 4, 3) := by decide +kernel
theorem dX4_has_30 : decode cX4_has 30 = .ok (.iconst 0, 1) := by decide +kernel
theorem dX4_has_31 : decode cX4_has 31 = .ok (.ireturn, 1) := by decide +kernel
theorem dX5_init_0 : decode cX5_init 0 = .ok (.aload_n 0, 1) := by decide +kernel
theorem dX5_init_1 : decode cX5_init 1 = .ok (.invokespecial 3, 3) := by decide +kernel
theorem dX5_init_4 : decode cX5_init 4 = .ok (.aload_n 0, 1) := by decide +kernel
theorem dX5_init_5 : decode cX5_init 5 = .ok (.bipush 60, 2) := by decide +kernel
theorem dX5_init_7 : decode cX5_init 7 = .ok (.newarray .int, 2) := by decide +kernel
theorem dX5_init_9 : decode cX5_init 9 = .ok (.putfield 9, 3) := by decide +kernel
theorem dX5_init_12 : decode cX5_init 12 = .ok (.return_, 1) := by decide +kernel
theorem dX5_isRead_0 : decode cX5_isRead 0 = .ok (.aload_n 1, 1) := by decide +kernel
theorem dX5_isRead_1 : decode cX5_isRead 1 = .ok (.getfield 15, 3) := by decide +kernel
theorem dX5_isRead_4 : decode cX5_isRead 4 = .ok (.iload_n 2, 1) := by decide +kernel
theorem dX5_isRead_5 : decode cX5_isRead 5 = .ok (.aload_n 0, 1) := by decide +kernel
theorem dX5_isRead_6 : decode cX5_isRead 6 = .ok (.getfield 9, 3) := by decide +kernel
theorem dX5_isRead_9 : decode cX5_isRead 9 = .ok (.iconst 0, 1) := by decide +kernel
theorem dX5_isRead_10 : decode cX5_isRead 10 = .ok (.iload_n 3, 1) := by decide +kernel
theorem dX5_isRead_11 : decode cX5_isRead 11 = .ok (.invokestatic 20, 3) := by decide +kernel
theorem dX5_isRead_14 : decode cX5_isRead 14 = .ok (.aload_n 0, 1) := by decide +kernel
theorem dX5_isRead_15 : decode cX5_isRead 15 = .ok (.iload_n 3, 1) := by decide +kernel
theorem dX5_isRead_16 : decode cX5_isRead 16 = .ok (.putfield 26, 3) := by decide +kernel
theorem dX5_isRead_19 : decode cX5_isRead 19 = .ok (.aload_n 0, 1) := by decide +kernel
theorem dX5_isRead_20 : decode cX5_isRead 20 = .ok (.iconst 0, 1) := by decide +kernel
theorem dX5_isRead_21 : decode cX5_isRead 21 = .ok (.putfield 30, 3) := by decide +kernel
theorem dX5_isRead_24 : decode cX5_isRead 24 = .ok (.aload 4, 2) := by decide +kernel
theorem dX5_isRead_26 : decode cX5_isRead 26 = .ok (.invokevirtual 33, 3) := by decide +kernel
theorem dX5_isRead_29 : decode cX5_isRead 29 = .ok (.aload_n 0, 1) := by decide +kernel
theorem dX5_isRead_30 : decode cX5_isRead 30 = .ok (.bipush 104, 2) := by decide +kernel
theorem dX5_isRead_32 : decode cX5_isRead 32 = .ok (.invokevirtual 38, 3) := by decide +kernel
theorem dX5_isRead_35 : decode cX5_isRead 35 = .ok (.ifCond .eq 21, 3) := by decide +kernel
theorem dX5_isRead_38 : decode cX5_isRead 38 = .ok (.aload_n 0, 1) := by decide +kernel
theorem dX5_isRead_39 : decode cX5_isRead 39 = .ok (.bipush 59, 2) := by decide +kernel
theorem dX5_isRead_41 : decode cX5_isRead 41 = .ok (.invokevirtual 38, 3) := by decide +kernel
theorem dX5_isRead_44 : decode cX5_isRead 44 = .ok (.ifCond .eq 12, 3) := by decide +kernel
theorem dX5_isRead_47 : decode cX5_isRead 47 = .ok (.aload_n 0, 1) := by decide +kernel
theorem dX5_isRead_48 : decode cX5_isRead 48 = .ok (.aload 4, 2) := by decide +kernel
theorem dX5_isRead_50 : decode cX5_isRead 50 = .ok (.invokevirtual 42, 3) := by decide +kernel
theorem dX5_isRead_53 : decode cX5_isRead 53 = .ok (.ifCond .ne 5, 3) := by decide +kernel
theorem dX5_isRead_56 : decode cX5_isRead 56 = .ok (.iconst 0, 1) := by decide +kernel
theorem dX5_isRead_57 : decode cX5_isRead 57 = .ok (.ireturn, 1) := by decide +kernel
theorem dX5_isRead_58 : decode cX5_isRead 58 = .ok (.iconst 1, 1) := by decide +kernel
theorem dX5_isRead_59 : decode cX5_isRead 59 = .ok (.istore 5, 2) := by decide +kernel
theorem dX5_isRead_61 : decode cX5_isRead 61 = .ok (.iload 5, 2) := by decide +kernel
theorem dX5_isRead_63 : decode cX5_isRead 63 = .ok (.bipush 7, 2) := by decide +kernel
theorem dX5_isRead_65 : decode cX5_isRead 65 = .ok (.if_icmp .ge 29, 3) := by decide +kernel
theorem dX5_isRead_68 : decode cX5_isRead 68 = .ok (.aload_n 0, 1) := by decide +kernel
theorem dX5_isRead_69 : decode cX5_isRead 69 = .ok (.bipush 59, 2) := by decide +kernel
theorem dX5_isRead_71 : decode cX5_isRead 71 = .ok (.invokevirtual 38, 3) := by decide +kernel
theorem dX5_isRead_74 : decode cX5_isRead 74 = .ok (.ifCond .eq 20, 3) := by decide +kernel
theorem dX5_isRead_77 : decode cX5_isRead 77 = .ok (.aload_n 0, 1) := by decide +kernel
theorem dX5_isRead_78 : decode cX5_isRead 78 = .ok (.aload 4, 2) := by decide +kernel
theorem dX5_isRead_80 : decode cX5_isRead 80 = .ok (.invokevirtual 42, 3) := by decide +kernel
theorem dX5_isRead_83 : decode cX5_isRead 83 = .ok (.ifCond .ne 5, 3) := by decide +kernel
theorem dX5_isRead_86 : decode cX5_isRead 86 = .ok (.iconst 0, 1) := by decide +kernel
theorem dX5_isRead_87 : decode cX5_isRead 87 = .ok (.ireturn, 1) := by decide +kernel
theorem dX5_isRead_88 : decode cX5_isRead 88 = .ok (.iinc 5 1, 3) := by decide +kernel
theorem dX5_isRead_91 : decode cX5_isRead 91 = .ok (.goto (-30), 3) := by decide +kernel
theorem dX5_isRead_94 : decode cX5_isRead 94 = .ok (.iconst 0, 1) := by decide +kernel
theorem dX5_isRead_95 : decode cX5_isRead 95 = .ok (.istore 5, 2) := by decide +kernel
theorem dX5_isRead_97 : decode cX5_isRead 97 = .ok (.iload 5, 2) := by decide +kernel
theorem dX5_isRead_99 : decode cX5_isRead 99 = .ok (.bipush 6, 2) := by decide +kernel
theorem dX5_isRead_101 : decode cX5_isRead 101 = .ok (.if_icmp .ge 29, 3) := by decide +kernel
theorem dX5_isRead_104 : decode cX5_isRead 104 = .ok (.aload_n 0, 1) := by decide +kernel
theorem dX5_isRead_105 : decode cX5_isRead 105 = .ok (.bipush 44, 2) := by decide +kernel
theorem dX5_isRead_107 : decode cX5_isRead 107 = .ok (.invokevirtual 38, 3) := by decide +kernel
theorem dX5_isRead_110 : decode cX5_isRead 110 = .ok (.ifCond .eq 20, 3) := by decide +kernel
theorem dX5_isRead_113 : decode cX5_isRead 113 = .ok (.aload_n 0, 1) := by decide +kernel
theorem dX5_isRead_114 : decode cX5_isRead 114 = .ok (.aload 4, 2) := by decide +kernel
theorem dX5_isRead_116 : decode cX5_isRead 116 = .ok (.invokevirtual 46, 3) := by decide +kernel
theorem dX5_isRead_119 : decode cX5_isRead 119 = .ok (.ifCond .ne 5, 3) := by decide +kernel
theorem dX5_isRead_122 : decode cX5_isRead 122 = .ok (.iconst 0, 1) := by decide +kernel
theorem dX5_isRead_123 : decode cX5_isRead 123 = .ok (.ireturn, 1) := by decide +kernel
theorem dX5_isRead_124 : decode cX5_isRead 124 = .ok (.iinc 5 1, 3) := by decide +kernel
theorem dX5_isRead_127 : decode cX5_isRead 127 = .ok (.goto (-30), 3) := by decide +kernel
theorem dX5_isRead_130 : decode cX5_isRead 130 = .ok (.aload_n 0, 1) := by decide +kernel
theorem dX5_isRead_131 : decode cX5_isRead 131 = .ok (.getfield 30, 3) := by decide +kernel
theorem dX5_isRead_134 : decode cX5_isRead 134 = .ok (.aload_n 0, 1) := by decide +kernel
theorem dX5_isRead_135 : decode cX5_isRead 135 = .ok (.getfield 26, 3) := by decide +kernel
theorem dX5_isRead_138 : decode cX5_isRead 138 = .ok (.if_icmp .ne 7, 3) := by decide +kernel
theorem dX5_isRead_141 : decode cX5_isRead 141 = .ok (.iconst 1, 1) := by decide +kernel
theorem dX5_isRead_142 : decode cX5_isRead 142 = .ok (.goto 4, 3) := by decide +kernel
theorem dX5_isRead_145 : decode cX5_isRead 145 = .ok (.iconst 0, 1) := by decide +kernel
theorem dX5_isRead_146 : decode cX5_isRead 146 = .ok (.ireturn, 1) := by decide +kernel
theorem dX5_isNext_0 : decode cX5_isNext 0 = .ok (.aload_n 0, 1) := by decide +kernel
theorem dX5_isNext_1 : decode cX5_isNext 1 = .ok (.getfield 30, 3) := by decide +kernel
theorem dX5_isNext_4 : decode cX5_isNext 4 = .ok (.aload_n 0, 1) := by decide +kernel
theorem dX5_isNext_5 : decode cX5_isNext 5 = .ok (.getfield 26, 3) := by decide +kernel
theorem dX5_isNext_8 : decode cX5_isNext 8 = .ok (.if_icmp .ge 20, 3) := by decide +kernel
theorem dX5_isNext_11 : decode cX5_isNext 11 = .ok (.aload_n 0, 1) := by decide +kernel
theorem dX5_isNext_12 : decode cX5_isNext 12 = .ok (.getfield 9, 3) := by decide +kernel
theorem dX5_isNext_15 : decode cX5_isNext 15 = .ok (.aload_n 0, 1) := by decide +kernel
theorem dX5_isNext_16 : decode cX5_isNext 16 = .ok (.getfield 30, 3) := by decide +kernel
theorem dX5_isNext_19 : decode cX5_isNext 19 = .ok (.iaload, 1) := by decide +kernel
theorem dX5_isNext_20 : decode cX5_isNext 20 = .ok (.iload_n 1, 1) := by decide +kernel
theorem dX5_isNext_21 : decode cX5_isNext 21 = .ok (.if_icmp .ne 7, 3) := by decide +kernel
theorem dX5_isNext_24 : decode cX5_isNext 24 = .ok (.iconst 1, 1) := by decide +kernel
theorem dX5_isNext_25 : decode cX5_isNext 25 = .ok (.goto 4, 3) := by decide +kernel
theorem dX5_isNext_28 : decode cX5_isNext 28 = .ok (.iconst 0, 1) := by decide +kernel
theorem dX5_isNext_29 : decode cX5_isNext 29 = .ok (.ireturn, 1) := by decide +kernel
theorem dX5_takes_0 : decode cX5_takes 0 = .ok (.aload_n 0, 1) := by decide +kernel
theorem dX5_takes_1 : decode cX5_takes 1 = .ok (.iload_n 1, 1) := by decide +kernel
theorem dX5_takes_2 : decode cX5_takes 2 = .ok (.invokevirtual 49, 3) := by decide +kernel
theorem dX5_takes_5 : decode cX5_takes 5 = .ok (.ifCond .ne 5, 3) := by decide +kernel
theorem dX5_takes_8 : decode cX5_takes 8 = .ok (.iconst 0, 1) := by decide +kernel
theorem dX5_takes_9 : decode cX5_takes 9 = .ok (.ireturn, 1) := by decide +kernel
theorem dX5_takes_10 : decode cX5_takes 10 = .ok (.aload_n 0, 1) := by decide +kernel
theorem dX5_takes_11 : decode cX5_takes 11 = .ok (.dup, 1) := by decide +kernel
theorem dX5_takes_12 : decode cX5_takes 12 = .ok (.getfield 30, 3) := by decide +kernel
theorem dX5_takes_15 : decode cX5_takes 15 = .ok (.iconst 1, 1) := by decide +kernel
theorem dX5_takes_16 : decode cX5_takes 16 = .ok (.iadd, 1) := by decide +kernel
theorem dX5_takes_17 : decode cX5_takes 17 = .ok (.putfield 30, 3) := by decide +kernel
theorem dX5_takes_20 : decode cX5_takes 20 = .ok (.iconst 1, 1) := by decide +kernel
theorem dX5_takes_21 : decode cX5_takes 21 = .ok (.ireturn, 1) := by decide +kernel
theorem dX5_readsCell_0 : decode cX5_readsCell 0 = .ok (.aload_n 1, 1) := by decide +kernel
theorem dX5_readsCell_1 : decode cX5_readsCell 1 = .ok (.getfield 52, 3) := by decide +kernel
theorem dX5_readsCell_4 : decode cX5_readsCell 4 = .ok (.istore_n 2, 1) := by decide +kernel
theorem dX5_readsCell_5 : decode cX5_readsCell 5 = .ok (.aload_n 0, 1) := by decide +kernel
theorem dX5_readsCell_6 : decode cX5_readsCell 6 = .ok (.bipush 112, 2) := by decide +kernel
theorem dX5_readsCell_8 : decode cX5_readsCell 8 = .ok (.invokevirtual 38, 3) := by decide +kernel
theorem dX5_readsCell_11 : decode cX5_readsCell 11 = .ok (.ifCond .eq 7, 3) := by decide +kernel
theorem dX5_readsCell_14 : decode cX5_readsCell 14 = .ok (.iconst 0, 1) := by decide +kernel
theorem dX5_readsCell_15 : decode cX5_readsCell 15 = .ok (.goto 31, 3) := by decide +kernel
theorem dX5_readsCell_18 : decode cX5_readsCell 18 = .ok (.aload_n 0, 1) := by decide +kernel
theorem dX5_readsCell_19 : decode cX5_readsCell 19 = .ok (.bipush 98, 2) := by decide +kernel
theorem dX5_readsCell_21 : decode cX5_readsCell 21 = .ok (.invokevirtual 38, 3) := by decide +kernel
theorem dX5_readsCell_24 : decode cX5_readsCell 24 = .ok (.ifCond .eq 7, 3) := by decide +kernel
theorem dX5_readsCell_27 : decode cX5_readsCell 27 = .ok (.iconst 1, 1) := by decide +kernel
theorem dX5_readsCell_28 : decode cX5_readsCell 28 = .ok (.goto 18, 3) := by decide +kernel
theorem dX5_readsCell_31 : decode cX5_readsCell 31 = .ok (.aload_n 0, 1) := by decide +kernel
theorem dX5_readsCell_32 : decode cX5_readsCell 32 = .ok (.bipush 100, 2) := by decide +kernel
theorem dX5_readsCell_34 : decode cX5_readsCell 34 = .ok (.invokevirtual 38, 3) := by decide +kernel
theorem dX5_readsCell_37 : decode cX5_readsCell 37 = .ok (.ifCond .eq 7, 3) := by decide +kernel
theorem dX5_readsCell_40 : decode cX5_readsCell 40 = .ok (.iconst 2, 1) := by decide +kernel
theorem dX5_readsCell_41 : decode cX5_readsCell 41 = .ok (.goto 5, 3) := by decide +kernel
theorem dX5_readsCell_44 : decode cX5_readsCell 44 = .ok (.bipush (-9), 2) := by decide +kernel
theorem dX5_readsCell_46 : decode cX5_readsCell 46 = .ok (.istore_n 3, 1) := by decide +kernel
theorem dX5_readsCell_47 : decode cX5_readsCell 47 = .ok (.iload_n 3, 1) := by decide +kernel
theorem dX5_readsCell_48 : decode cX5_readsCell 48 = .ok (.bipush (-9), 2) := by decide +kernel
theorem dX5_readsCell_50 : decode cX5_readsCell 50 = .ok (.if_icmp .ne 5, 3) := by decide +kernel
theorem dX5_readsCell_53 : decode cX5_readsCell 53 = .ok (.iconst 0, 1) := by decide +kernel
theorem dX5_readsCell_54 : decode cX5_readsCell 54 = .ok (.ireturn, 1) := by decide +kernel
theorem dX5_readsCell_55 : decode cX5_readsCell 55 = .ok (.aload_n 0, 1) := by decide +kernel
theorem dX5_readsCell_56 : decode cX5_readsCell 56 = .ok (.iconst 1, 1) := by decide +kernel
theorem dX5_readsCell_57 : decode cX5_readsCell 57 = .ok (.bipush 9, 2) := by decide +kernel
theorem dX5_readsCell_59 : decode cX5_readsCell 59 = .ok (.invokevirtual 55, 3) := by decide +kernel
theorem dX5_readsCell_62 : decode cX5_readsCell 62 = .ok (.istore 4, 2) := by decide +kernel
theorem dX5_readsCell_64 : decode cX5_readsCell 64 = .ok (.iload 4, 2) := by decide +kernel
theorem dX5_readsCell_66 : decode cX5_readsCell 66 = .ok (.bipush (-9), 2) := by decide +kernel
theorem dX5_readsCell_68 : decode cX5_readsCell 68 = .ok (.if_icmp .eq 12, 3) := by decide +kernel
theorem dX5_readsCell_71 : decode cX5_readsCell 71 = .ok (.aload_n 0, 1) := by decide +kernel
theorem dX5_readsCell_72 : decode cX5_readsCell 72 = .ok (.aload_n 1, 1) := by decide +kernel
theorem dX5_readsCell_73 : decode cX5_readsCell 73 = .ok (.iload_n 2, 1) := by decide +kernel
theorem dX5_readsCell_74 : decode cX5_readsCell 74 = .ok (.invokevirtual 59, 3) := by decide +kernel
theorem dX5_readsCell_77 : decode cX5_readsCell 77 = .ok (.ifCond .ne 5, 3) := by decide +kernel
theorem dX5_readsCell_80 : decode cX5_readsCell 80 = .ok (.iconst 0, 1) := by decide +kernel
theorem dX5_readsCell_81 : decode cX5_readsCell 81 = .ok (.ireturn, 1) := by decide +kernel
theorem dX5_readsCell_82 : decode cX5_readsCell 82 = .ok (.aload_n 1, 1) := by decide +kernel
theorem dX5_readsCell_83 : decode cX5_readsCell 83 = .ok (.iload_n 2, 1) := by decide +kernel
theorem dX5_readsCell_84 : decode cX5_readsCell 84 = .ok (.iload_n 3, 1) := by decide +kernel
theorem dX5_readsCell_85 : decode cX5_readsCell 85 = .ok (.iload 4, 2) := by decide +kernel
theorem dX5_readsCell_87 : decode cX5_readsCell 87 = .ok (.invokevirtual 63, 3) := by decide +kernel
theorem dX5_readsCell_90 : decode cX5_readsCell 90 = .ok (.aload_n 1, 1) := by decide +kernel
theorem dX5_readsCell_91 : decode cX5_readsCell 91 = .ok (.iload_n 2, 1) := by decide +kernel
theorem dX5_readsCell_92 : decode cX5_readsCell 92 = .ok (.iconst 1, 1) := by decide +kernel
theorem dX5_readsCell_93 : decode cX5_readsCell 93 = .ok (.iadd, 1) := by decide +kernel
theorem dX5_readsCell_94 : decode cX5_readsCell 94 = .ok (.putfield 52, 3) := by decide +kernel
theorem dX5_readsCell_97 : decode cX5_readsCell 97 = .ok (.iconst 1, 1) := by decide +kernel
theorem dX5_readsCell_98 : decode cX5_readsCell 98 = .ok (.ireturn, 1) := by decide +kernel
theorem dX5_readsSide_0 : decode cX5_readsSide 0 = .ok (.aload_n 0, 1) := by decide +kernel
theorem dX5_readsSide_1 : decode cX5_readsSide 1 = .ok (.bipush 114, 2) := by decide +kernel
theorem dX5_readsSide_3 : decode cX5_readsSide 3 = .ok (.invokevirtual 49, 3) := by decide +kernel
theorem dX5_readsSide_6 : decode cX5_readsSide 6 = .ok (.ifCond .ne 12, 3) := by decide +kernel
theorem dX5_readsSide_9 : decode cX5_readsSide 9 = .ok (.aload_n 0, 1) := by decide +kernel
theorem dX5_readsSide_10 : decode cX5_readsSide 10 = .ok (.bipush 82, 2) := by decide +kernel
theorem dX5_readsSide_12 : decode cX5_readsSide 12 = .ok (.invokevirtual 49, 3) := by decide +kernel
theorem dX5_readsSide_15 : decode cX5_readsSide 15 = .ok (.ifCond .eq 7, 3) := by decide +kernel
theorem dX5_readsSide_18 : decode cX5_readsSide 18 = .ok (.iconst 1, 1) := by decide +kernel
theorem dX5_readsSide_19 : decode cX5_readsSide 19 = .ok (.goto 4, 3) := by decide +kernel
theorem dX5_readsSide_22 : decode cX5_readsSide 22 = .ok (.iconst 0, 1) := by decide +kernel
theorem dX5_readsSide_23 : decode cX5_readsSide 23 = .ok (.istore_n 3, 1) := by decide +kernel
theorem dX5_readsSide_24 : decode cX5_readsSide 24 = .ok (.aload_n 0, 1) := by decide +kernel
theorem dX5_readsSide_25 : decode cX5_readsSide 25 = .ok (.bipush 76, 2) := by decide +kernel
theorem dX5_readsSide_27 : decode cX5_readsSide 27 = .ok (.invokevirtual 49, 3) := by decide +kernel
theorem dX5_readsSide_30 : decode cX5_readsSide 30 = .ok (.ifCond .ne 12, 3) := by decide +kernel
theorem dX5_readsSide_33 : decode cX5_readsSide 33 = .ok (.aload_n 0, 1) := by decide +kernel
theorem dX5_readsSide_34 : decode cX5_readsSide 34 = .ok (.bipush 82, 2) := by decide +kernel
theorem dX5_readsSide_36 : decode cX5_readsSide 36 = .ok (.invokevirtual 49, 3) := by decide +kernel
theorem dX5_readsSide_39 : decode cX5_readsSide 39 = .ok (.ifCond .eq 7, 3) := by decide +kernel
theorem dX5_readsSide_42 : decode cX5_readsSide 42 = .ok (.iconst 1, 1) := by decide +kernel
theorem dX5_readsSide_43 : decode cX5_readsSide 43 = .ok (.goto 4, 3) := by decide +kernel
theorem dX5_readsSide_46 : decode cX5_readsSide 46 = .ok (.iconst 0, 1) := by decide +kernel
theorem dX5_readsSide_47 : decode cX5_readsSide 47 = .ok (.istore 4, 2) := by decide +kernel
theorem dX5_readsSide_49 : decode cX5_readsSide 49 = .ok (.iload_n 3, 1) := by decide +kernel
theorem dX5_readsSide_50 : decode cX5_readsSide 50 = .ok (.ifCond .ne 19, 3) := by decide +kernel
theorem dX5_readsSide_53 : decode cX5_readsSide 53 = .ok (.iload 4, 2) := by decide +kernel
theorem dX5_readsSide_55 : decode cX5_readsSide 55 = .ok (.ifCond .ne 14, 3) := by decide +kernel
theorem dX5_readsSide_58 : decode cX5_readsSide 58 = .ok (.aload_n 0, 1) := by decide +kernel
theorem dX5_readsSide_59 : decode cX5_readsSide 59 = .ok (.bipush 108, 2) := by decide +kernel
theorem dX5_readsSide_61 : decode cX5_readsSide 61 = .ok (.invokevirtual 49, 3) := by decide +kernel
theorem dX5_readsSide_64 : decode cX5_readsSide 64 = .ok (.ifCond .ne 5, 3) := by decide +kernel
theorem dX5_readsSide_67 : decode cX5_readsSide 67 = .ok (.iconst 0, 1) := by decide +kernel
theorem dX5_readsSide_68 : decode cX5_readsSide 68 = .ok (.ireturn, 1) := by decide +kernel
theorem dX5_readsSide_69 : decode cX5_readsSide 69 = .ok (.aload_n 0, 1) := by decide +kernel
theorem dX5_readsSide_70 : decode cX5_readsSide 70 = .ok (.dup, 1) := by decide +kernel
theorem dX5_readsSide_71 : decode cX5_readsSide 71 = .ok (.getfield 30, 3) := by decide +kernel
theorem dX5_readsSide_74 : decode cX5_readsSide 74 = .ok (.iconst 1, 1) := by decide +kernel
theorem dX5_readsSide_75 : decode cX5_readsSide 75 = .ok (.iadd, 1) := by decide +kernel
theorem dX5_readsSide_76 : decode cX5_readsSide 76 = .ok (.putfield 30, 3) := by decide +kernel
theorem dX5_readsSide_79 : decode cX5_readsSide 79 = .ok (.aload_n 1, 1) := by decide +kernel
theorem dX5_readsSide_80 : decode cX5_readsSide 80 = .ok (.dup, 1) := by decide +kernel
theorem dX5_readsSide_81 : decode cX5_readsSide 81 = .ok (.getfield 67, 3) := by decide +kernel
theorem dX5_readsSide_84 : decode cX5_readsSide 84 = .ok (.iload_n 3, 1) := by decide +kernel
theorem dX5_readsSide_85 : decode cX5_readsSide 85 = .ok (.ifCond .eq 9, 3) := by decide +kernel
theorem dX5_readsSide_88 : decode cX5_readsSide 88 = .ok (.iconst 1, 1) := by decide +kernel
theorem dX5_readsSide_89 : decode cX5_readsSide 89 = .ok (.iload_n 2, 1) := by decide +kernel
theorem dX5_readsSide_90 : decode cX5_readsSide 90 = .ok (.ishl, 1) := by decide +kernel
theorem dX5_readsSide_91 : decode cX5_readsSide 91 = .ok (.goto 4, 3) := by decide +kernel
theorem dX5_readsSide_94 : decode cX5_readsSide 94 = .ok (.iconst 0, 1) := by decide +kernel
theorem dX5_readsSide_95 : decode cX5_readsSide 95 = .ok (.ior, 1) := by decide +kernel
theorem dX5_readsSide_96 : decode cX5_readsSide 96 = .ok (.putfield 67, 3) := by decide +kernel
theorem dX5_readsSide_99 : decode cX5_readsSide 99 = .ok (.aload_n 1, 1) := by decide +kernel
theorem dX5_readsSide_100 : decode cX5_readsSide 100 = .ok (.dup, 1) := by decide +kernel
theorem dX5_readsSide_101 : decode cX5_readsSide 101 = .ok (.getfield 70, 3) := by decide +kernel
theorem dX5_readsSide_104 : decode cX5_readsSide 104 = .ok (.iload 4, 2) := by decide +kernel
theorem dX5_readsSide_106 : decode cX5_readsSide 106 = .ok (.ifCond .eq 9, 3) := by decide +kernel
theorem dX5_readsSide_109 : decode cX5_readsSide 109 = .ok (.iconst 1, 1) := by decide +kernel
theorem dX5_readsSide_110 : decode cX5_readsSide 110 = .ok (.iload_n 2, 1) := by decide +kernel
theorem dX5_readsSide_111 : decode cX5_readsSide 111 = .ok (.ishl, 1) := by decide +kernel
theorem dX5_readsSide_112 : decode cX5_readsSide 112 = .ok (.goto 4, 3) := by decide +kernel
theorem dX5_readsSide_115 : decode cX5_readsSide 115 = .ok (.iconst 0, 1) := by decide +kernel
theorem dX5_readsSide_116 : decode cX5_readsSide 116 = .ok (.ior, 1) := by decide +kernel
theorem dX5_readsSide_117 : decode cX5_readsSide 117 = .ok (.putfield 70, 3) := by decide +kernel
theorem dX5_readsSide_120 : decode cX5_readsSide 120 = .ok (.iconst 1, 1) := by decide +kernel
theorem dX5_readsSide_121 : decode cX5_readsSide 121 = .ok (.ireturn, 1) := by decide +kernel
theorem dX5_readsNet_0 : decode cX5_readsNet 0 = .ok (.iconst 0, 1) := by decide +kernel
theorem dX5_readsNet_1 : decode cX5_readsNet 1 = .ok (.istore_n 2, 1) := by decide +kernel
theorem dX5_readsNet_2 : decode cX5_readsNet 2 = .ok (.iconst 0, 1) := by decide +kernel
theorem dX5_readsNet_3 : decode cX5_readsNet 3 = .ok (.istore_n 3, 1) := by decide +kernel
theorem dX5_readsNet_4 : decode cX5_readsNet 4 = .ok (.iload_n 3, 1) := by decide +kernel
theorem dX5_readsNet_5 : decode cX5_readsNet 5 = .ok (.iconst 4, 1) := by decide +kernel
theorem dX5_readsNet_6 : decode cX5_readsNet 6 = .ok (.if_icmp .ge 62, 3) := by decide +kernel
theorem dX5_readsNet_9 : decode cX5_readsNet 9 = .ok (.aload_n 0, 1) := by decide +kernel
theorem dX5_readsNet_10 : decode cX5_readsNet 10 = .ok (.iconst 0, 1) := by decide +kernel
theorem dX5_readsNet_11 : decode cX5_readsNet 11 = .ok (.aload_n 1, 1) := by decide +kernel
theorem dX5_readsNet_12 : decode cX5_readsNet 12 = .ok (.getfield 52, 3) := by decide +kernel
theorem dX5_readsNet_15 : decode cX5_readsNet 15 = .ok (.iconst 1, 1) := by decide +kernel
theorem dX5_readsNet_16 : decode cX5_readsNet 16 = .ok (.isub, 1) := by decide +kernel
theorem dX5_readsNet_17 : decode cX5_readsNet 17 = .ok (.invokevirtual 55, 3) := by decide +kernel
theorem dX5_readsNet_20 : decode cX5_readsNet 20 = .ok (.istore 4, 2) := by decide +kernel
theorem dX5_readsNet_22 : decode cX5_readsNet 22 = .ok (.iload 4, 2) := by decide +kernel
theorem dX5_readsNet_24 : decode cX5_readsNet 24 = .ok (.bipush (-9), 2) := by decide +kernel
theorem dX5_readsNet_26 : decode cX5_readsNet 26 = .ok (.if_icmp .ne 6, 3) := by decide +kernel
theorem dX5_readsNet_29 : decode cX5_readsNet 29 = .ok (.goto 39, 3) := by decide +kernel
theorem dX5_readsNet_32 : decode cX5_readsNet 32 = .ok (.iload_n 2, 1) := by decide +kernel
theorem dX5_readsNet_33 : decode cX5_readsNet 33 = .ok (.iload 4, 2) := by decide +kernel
theorem dX5_readsNet_35 : decode cX5_readsNet 35 = .ok (.ishr, 1) := by decide +kernel
theorem dX5_readsNet_36 : decode cX5_readsNet 36 = .ok (.iconst 1, 1) := by decide +kernel
theorem dX5_readsNet_37 : decode cX5_readsNet 37 = .ok (.iand, 1) := by decide +kernel
theorem dX5_readsNet_38 : decode cX5_readsNet 38 = .ok (.iconst 1, 1) := by decide +kernel
theorem dX5_readsNet_39 : decode cX5_readsNet 39 = .ok (.if_icmp .ne 16, 3) := by decide +kernel
theorem dX5_readsNet_42 : decode cX5_readsNet 42 = .ok (.aload_n 0, 1) := by decide +kernel
theorem dX5_readsNet_43 : decode cX5_readsNet 43 = .ok (.dup, 1) := by decide +kernel
theorem dX5_readsNet_44 : decode cX5_readsNet 44 = .ok (.getfield 30, 3) := by decide +kernel
theorem dX5_readsNet_47 : decode cX5_readsNet 47 = .ok (.iconst 1, 1) := by decide +kernel
theorem dX5_readsNet_48 : decode cX5_readsNet 48 = .ok (.isub, 1) := by decide +kernel
theorem dX5_readsNet_49 : decode cX5_readsNet 49 = .ok (.putfield 30, 3) := by decide +kernel
theorem dX5_readsNet_52 : decode cX5_readsNet 52 = .ok (.goto 16, 3) := by decide +kernel
theorem dX5_readsNet_55 : decode cX5_readsNet 55 = .ok (.iload_n 2, 1) := by decide +kernel
theorem dX5_readsNet_56 : decode cX5_readsNet 56 = .ok (.iconst 1, 1) := by decide +kernel
theorem dX5_readsNet_57 : decode cX5_readsNet 57 = .ok (.iload 4, 2) := by decide +kernel
theorem dX5_readsNet_59 : decode cX5_readsNet 59 = .ok (.ishl, 1) := by decide +kernel
theorem dX5_readsNet_60 : decode cX5_readsNet 60 = .ok (.ior, 1) := by decide +kernel
theorem dX5_readsNet_61 : decode cX5_readsNet 61 = .ok (.istore_n 2, 1) := by decide +kernel
theorem dX5_readsNet_62 : decode cX5_readsNet 62 = .ok (.iinc 3 1, 3) := by decide +kernel
theorem dX5_readsNet_65 : decode cX5_readsNet 65 = .ok (.goto (-61), 3) := by decide +kernel
theorem dX5_readsNet_68 : decode cX5_readsNet 68 = .ok (.iload_n 2, 1) := by decide +kernel
theorem dX5_readsNet_69 : decode cX5_readsNet 69 = .ok (.invokestatic 73, 3) := by decide +kernel
theorem dX5_readsNet_72 : decode cX5_readsNet 72 = .ok (.iconst 2, 1) := by decide +kernel
theorem dX5_readsNet_73 : decode cX5_readsNet 73 = .ok (.if_icmp .ge 5, 3) := by decide +kernel
theorem dX5_readsNet_76 : decode cX5_readsNet 76 = .ok (.iconst 0, 1) := by decide +kernel
theorem dX5_readsNet_77 : decode cX5_readsNet 77 = .ok (.ireturn, 1) := by decide +kernel
theorem dX5_readsNet_78 : decode cX5_readsNet 78 = .ok (.aload_n 1, 1) := by decide +kernel
theorem dX5_readsNet_79 : decode cX5_readsNet 79 = .ok (.getfield 79, 3) := by decide +kernel
theorem dX5_readsNet_82 : decode cX5_readsNet 82 = .ok (.aload_n 1, 1) := by decide +kernel
theorem dX5_readsNet_83 : decode cX5_readsNet 83 = .ok (.getfield 82, 3) := by decide +kernel
theorem dX5_readsNet_86 : decode cX5_readsNet 86 = .ok (.iload_n 2, 1) := by decide +kernel
theorem dX5_readsNet_87 : decode cX5_readsNet 87 = .ok (.iastore, 1) := by decide +kernel
theorem dX5_readsNet_88 : decode cX5_readsNet 88 = .ok (.aload_n 1, 1) := by decide +kernel
theorem dX5_readsNet_89 : decode cX5_readsNet 89 = .ok (.dup, 1) := by decide +kernel
theorem dX5_readsNet_90 : decode cX5_readsNet 90 = .ok (.getfield 82, 3) := by decide +kernel
theorem dX5_readsNet_93 : decode cX5_readsNet 93 = .ok (.iconst 1, 1) := by decide +kernel
theorem dX5_readsNet_94 : decode cX5_readsNet 94 = .ok (.iadd, 1) := by decide +kernel
theorem dX5_readsNet_95 : decode cX5_readsNet 95 = .ok (.putfield 82, 3) := by decide +kernel
theorem dX5_readsNet_98 : decode cX5_readsNet 98 = .ok (.iconst 1, 1) := by decide +kernel
theorem dX5_readsNet_99 : decode cX5_readsNet 99 = .ok (.ireturn, 1) := by decide +kernel
theorem dX5_digit_0 : decode cX5_digit 0 = .ok (.aload_n 0, 1) := by decide +kernel
theorem dX5_digit_1 : decode cX5_digit 1 = .ok (.getfield 30, 3) := by decide +kernel
theorem dX5_digit_4 : decode cX5_digit 4 = .ok (.aload_n 0, 1) := by decide +kernel
theorem dX5_digit_5 : decode cX5_digit 5 = .ok (.getfield 26, 3) := by decide +kernel
theorem dX5_digit_8 : decode cX5_digit 8 = .ok (.if_icmp .lt 6, 3) := by decide +kernel
theorem dX5_digit_11 : decode cX5_digit 11 = .ok (.bipush (-9), 2) := by decide +kernel
theorem dX5_digit_13 : decode cX5_digit 13 = .ok (.ireturn, 1) := by decide +kernel
theorem dX5_digit_14 : decode cX5_digit 14 = .ok (.aload_n 0, 1) := by decide +kernel
theorem dX5_digit_15 : decode cX5_digit 15 = .ok (.getfield 9, 3) := by decide +kernel
theorem dX5_digit_18 : decode cX5_digit 18 = .ok (.aload_n 0, 1) := by decide +kernel
theorem dX5_digit_19 : decode cX5_digit 19 = .ok (.getfield 30, 3) := by decide +kernel
theorem dX5_digit_22 : decode cX5_digit 22 = .ok (.iaload, 1) := by decide +kernel
theorem dX5_digit_23 : decode cX5_digit 23 = .ok (.istore_n 3, 1) := by decide +kernel
theorem dX5_digit_24 : decode cX5_digit 24 = .ok (.iload_n 3, 1) := by decide +kernel
theorem dX5_digit_25 : decode cX5_digit 25 = .ok (.bipush 48, 2) := by decide +kernel
theorem dX5_digit_27 : decode cX5_digit 27 = .ok (.iload_n 1, 1) := by decide +kernel
theorem dX5_digit_28 : decode cX5_digit 28 = .ok (.iadd, 1) := by decide +kernel
theorem dX5_digit_29 : decode cX5_digit 29 = .ok (.if_icmp .lt 11, 3) := by decide +kernel
theorem dX5_digit_32 : decode cX5_digit 32 = .ok (.iload_n 3, 1) := by decide +kernel
theorem dX5_digit_33 : decode cX5_digit 33 = .ok (.bipush 48, 2) := by decide +kernel
theorem dX5_digit_35 : decode cX5_digit 35 = .ok (.iload_n 2, 1) := by decide +kernel
theorem dX5_digit_36 : decode cX5_digit 36 = .ok (.iadd, 1) := by decide +kernel
theorem dX5_digit_37 : decode cX5_digit 37 = .ok (.if_icmp .le 6, 3) := by decide +kernel
theorem dX5_digit_40 : decode cX5_digit 40 = .ok (.bipush (-9), 2) := by decide +kernel
theorem dX5_digit_42 : decode cX5_digit 42 = .ok (.ireturn, 1) := by decide +kernel
theorem dX5_digit_43 : decode cX5_digit 43 = .ok (.aload_n 0, 1) := by decide +kernel
theorem dX5_digit_44 : decode cX5_digit 44 = .ok (.dup, 1) := by decide +kernel
theorem dX5_digit_45 : decode cX5_digit 45 = .ok (.getfield 30, 3) := by decide +kernel
theorem dX5_digit_48 : decode cX5_digit 48 = .ok (.iconst 1, 1) := by decide +kernel
theorem dX5_digit_49 : decode cX5_digit 49 = .ok (.iadd, 1) := by decide +kernel
theorem dX5_digit_50 : decode cX5_digit 50 = .ok (.putfield 30, 3) := by decide +kernel
theorem dX5_digit_53 : decode cX5_digit 53 = .ok (.iload_n 3, 1) := by decide +kernel
theorem dX5_digit_54 : decode cX5_digit 54 = .ok (.bipush 48, 2) := by decide +kernel
theorem dX5_digit_56 : decode cX5_digit 56 = .ok (.isub, 1) := by decide +kernel
theorem dX5_digit_57 : decode cX5_digit 57 = .ok (.ireturn, 1) := by decide +kernel
theorem dX6_init_0 : decode cX6_init 0 = .ok (.aload_n 0, 1) := by decide +kernel
theorem dX6_init_1 : decode cX6_init 1 = .ok (.invokespecial 3, 3) := by decide +kernel
theorem dX6_init_4 : decode cX6_init 4 = .ok (.aload_n 0, 1) := by decide +kernel
theorem dX6_init_5 : decode cX6_init 5 = .ok (.iconst 4, 1) := by decide +kernel
theorem dX6_init_6 : decode cX6_init 6 = .ok (.anewarray 11, 3) := by decide +kernel
theorem dX6_init_9 : decode cX6_init 9 = .ok (.putfield 13, 3) := by decide +kernel
theorem dX6_init_12 : decode cX6_init 12 = .ok (.aload_n 0, 1) := by decide +kernel
theorem dX6_init_13 : decode cX6_init 13 = .ok (.new 17, 3) := by decide +kernel
theorem dX6_init_16 : decode cX6_init 16 = .ok (.dup, 1) := by decide +kernel
theorem dX6_init_17 : decode cX6_init 17 = .ok (.invokespecial 19, 3) := by decide +kernel
theorem dX6_init_20 : decode cX6_init 20 = .ok (.putfield 20, 3) := by decide +kernel
theorem dX6_init_23 : decode cX6_init 23 = .ok (.aload_n 0, 1) := by decide +kernel
theorem dX6_init_24 : decode cX6_init 24 = .ok (.new 17, 3) := by decide +kernel
theorem dX6_init_27 : decode cX6_init 27 = .ok (.dup, 1) := by decide +kernel
theorem dX6_init_28 : decode cX6_init 28 = .ok (.invokespecial 19, 3) := by decide +kernel
theorem dX6_init_31 : decode cX6_init 31 = .ok (.putfield 24, 3) := by decide +kernel
theorem dX6_init_34 : decode cX6_init 34 = .ok (.aload_n 0, 1) := by decide +kernel
theorem dX6_init_35 : decode cX6_init 35 = .ok (.new 27, 3) := by decide +kernel
theorem dX6_init_38 : decode cX6_init 38 = .ok (.dup, 1) := by decide +kernel
theorem dX6_init_39 : decode cX6_init 39 = .ok (.invokespecial 29, 3) := by decide +kernel
theorem dX6_init_42 : decode cX6_init 42 = .ok (.putfield 30, 3) := by decide +kernel
theorem dX6_init_45 : decode cX6_init 45 = .ok (.aload_n 0, 1) := by decide +kernel
theorem dX6_init_46 : decode cX6_init 46 = .ok (.new 34, 3) := by decide +kernel
theorem dX6_init_49 : decode cX6_init 49 = .ok (.dup, 1) := by decide +kernel
theorem dX6_init_50 : decode cX6_init 50 = .ok (.invokespecial 36, 3) := by decide +kernel
theorem dX6_init_53 : decode cX6_init 53 = .ok (.putfield 37, 3) := by decide +kernel
theorem dX6_init_56 : decode cX6_init 56 = .ok (.aload_n 0, 1) := by decide +kernel
theorem dX6_init_57 : decode cX6_init 57 = .ok (.new 41, 3) := by decide +kernel
theorem dX6_init_60 : decode cX6_init 60 = .ok (.dup, 1) := by decide +kernel
theorem dX6_init_61 : decode cX6_init 61 = .ok (.invokespecial 43, 3) := by decide +kernel
theorem dX6_init_64 : decode cX6_init 64 = .ok (.putfield 44, 3) := by decide +kernel
theorem dX6_init_67 : decode cX6_init 67 = .ok (.aload_n 0, 1) := by decide +kernel
theorem dX6_init_68 : decode cX6_init 68 = .ok (.new 48, 3) := by decide +kernel
theorem dX6_init_71 : decode cX6_init 71 = .ok (.dup, 1) := by decide +kernel
theorem dX6_init_72 : decode cX6_init 72 = .ok (.invokespecial 50, 3) := by decide +kernel
theorem dX6_init_75 : decode cX6_init 75 = .ok (.putfield 51, 3) := by decide +kernel
theorem dX6_init_78 : decode cX6_init 78 = .ok (.iconst 0, 1) := by decide +kernel
theorem dX6_init_79 : decode cX6_init 79 = .ok (.istore_n 1, 1) := by decide +kernel
theorem dX6_init_80 : decode cX6_init 80 = .ok (.iload_n 1, 1) := by decide +kernel
theorem dX6_init_81 : decode cX6_init 81 = .ok (.iconst 4, 1) := by decide +kernel
theorem dX6_init_82 : decode cX6_init 82 = .ok (.if_icmp .ge 22, 3) := by decide +kernel
theorem dX6_init_85 : decode cX6_init 85 = .ok (.aload_n 0, 1) := by decide +kernel
theorem dX6_init_86 : decode cX6_init 86 = .ok (.getfield 13, 3) := by decide +kernel
theorem dX6_init_89 : decode cX6_init 89 = .ok (.iload_n 1, 1) := by decide +kernel
theorem dX6_init_90 : decode cX6_init 90 = .ok (.new 11, 3) := by decide +kernel
theorem dX6_init_93 : decode cX6_init 93 = .ok (.dup, 1) := by decide +kernel
theorem dX6_init_94 : decode cX6_init 94 = .ok (.invokespecial 55, 3) := by decide +kernel
theorem dX6_init_97 : decode cX6_init 97 = .ok (.aastore, 1) := by decide +kernel
theorem dX6_init_98 : decode cX6_init 98 = .ok (.iinc 1 1, 3) := by decide +kernel
theorem dX6_init_101 : decode cX6_init 101 = .ok (.goto (-21), 3) := by decide +kernel
theorem dX6_init_104 : decode cX6_init 104 = .ok (.return_, 1) := by decide +kernel
theorem dX6_circuit_0 : decode cX6_circuit 0 = .ok (.iload_n 1, 1) := by decide +kernel
theorem dX6_circuit_1 : decode cX6_circuit 1 = .ok (.invokestatic 56, 3) := by decide +kernel
theorem dX6_circuit_4 : decode cX6_circuit 4 = .ok (.ifCond .ne 9, 3) := by decide +kernel
theorem dX6_circuit_7 : decode cX6_circuit 7 = .ok (.aload_n 0, 1) := by decide +kernel
theorem dX6_circuit_8 : decode cX6_circuit 8 = .ok (.iconst (-1), 1) := by decide +kernel
theorem dX6_circuit_9 : decode cX6_circuit 9 = .ok (.invokevirtual 60, 3) := by decide +kernel
theorem dX6_circuit_12 : decode cX6_circuit 12 = .ok (.ireturn, 1) := by decide +kernel
theorem dX6_circuit_13 : decode cX6_circuit 13 = .ok (.iload_n 2, 1) := by decide +kernel
theorem dX6_circuit_14 : decode cX6_circuit 14 = .ok (.invokestatic 64, 3) := by decide +kernel
theorem dX6_circuit_17 : decode cX6_circuit 17 = .ok (.ifCond .ne 10, 3) := by decide +kernel
theorem dX6_circuit_20 : decode cX6_circuit 20 = .ok (.aload_n 0, 1) := by decide +kernel
theorem dX6_circuit_21 : decode cX6_circuit 21 = .ok (.bipush (-2), 2) := by decide +kernel
theorem dX6_circuit_23 : decode cX6_circuit 23 = .ok (.invokevirtual 60, 3) := by decide +kernel
theorem dX6_circuit_26 : decode cX6_circuit 26 = .ok (.ireturn, 1) := by decide +kernel
theorem dX6_circuit_27 : decode cX6_circuit 27 = .ok (.aload_n 0, 1) := by decide +kernel
theorem dX6_circuit_28 : decode cX6_circuit 28 = .ok (.getfield 13, 3) := by decide +kernel
theorem dX6_circuit_31 : decode cX6_circuit 31 = .ok (.iload_n 1, 1) := by decide +kernel
theorem dX6_circuit_32 : decode cX6_circuit 32 = .ok (.aaload, 1) := by decide +kernel
theorem dX6_circuit_33 : decode cX6_circuit 33 = .ok (.astore 5, 2) := by decide +kernel
theorem dX6_circuit_35 : decode cX6_circuit 35 = .ok (.aload 5, 2) := by decide +kernel
theorem dX6_circuit_37 : decode cX6_circuit 37 = .ok (.iload_n 2, 1) := by decide +kernel
theorem dX6_circuit_38 : decode cX6_circuit 38 = .ok (.invokevirtual 67, 3) := by decide +kernel
theorem dX6_circuit_41 : decode cX6_circuit 41 = .ok (.istore 6, 2) := by decide +kernel
theorem dX6_circuit_43 : decode cX6_circuit 43 = .ok (.iload 6, 2) := by decide +kernel
theorem dX6_circuit_45 : decode cX6_circuit 45 = .ok (.ifCond .ne 11, 3) := by decide +kernel
theorem dX6_circuit_48 : decode cX6_circuit 48 = .ok (.iload 4, 2) := by decide +kernel
theorem dX6_circuit_50 : decode cX6_circuit 50 = .ok (.ifCond .ge 6, 3) := by decide +kernel
theorem dX6_circuit_53 : decode cX6_circuit 53 = .ok (.iconst 4, 1) := by decide +kernel
theorem dX6_circuit_54 : decode cX6_circuit 54 = .ok (.istore 6, 2) := by decide +kernel
theorem dX6_circuit_56 : decode cX6_circuit 56 = .ok (.iload 6, 2) := by decide +kernel
theorem dX6_circuit_58 : decode cX6_circuit 58 = .ok (.ifCond .ne 17, 3) := by decide +kernel
theorem dX6_circuit_61 : decode cX6_circuit 61 = .ok (.aload 5, 2) := by decide +kernel
theorem dX6_circuit_63 : decode cX6_circuit 63 = .ok (.iload_n 3, 1) := by decide +kernel
theorem dX6_circuit_64 : decode cX6_circuit 64 = .ok (.iload 4, 2) := by decide +kernel
theorem dX6_circuit_66 : decode cX6_circuit 66 = .ok (.invokevirtual 70, 3) := by decide +kernel
theorem dX6_circuit_69 : decode cX6_circuit 69 = .ok (.ifCond .ne 6, 3) := by decide +kernel
theorem dX6_circuit_72 : decode cX6_circuit 72 = .ok (.iconst 3, 1) := by decide +kernel
theorem dX6_circuit_73 : decode cX6_circuit 73 = .ok (.istore 6, 2) := by decide +kernel
theorem dX6_circuit_75 : decode cX6_circuit 75 = .ok (.iload 6, 2) := by decide +kernel
theorem dX6_circuit_77 : decode cX6_circuit 77 = .ok (.ifCond .eq 10, 3) := by decide +kernel
theorem dX6_circuit_80 : decode cX6_circuit 80 = .ok (.aload_n 0, 1) := by decide +kernel
theorem dX6_circuit_81 : decode cX6_circuit 81 = .ok (.iload 6, 2) := by decide +kernel
theorem dX6_circuit_83 : decode cX6_circuit 83 = .ok (.invokevirtual 74, 3) := by decide +kernel
theorem dX6_circuit_86 : decode cX6_circuit 86 = .ok (.ireturn, 1) := by decide +kernel
theorem dX6_circuit_87 : decode cX6_circuit 87 = .ok (.aload_n 0, 1) := by decide +kernel
theorem dX6_circuit_88 : decode cX6_circuit 88 = .ok (.iconst 0, 1) := by decide +kernel
theorem dX6_circuit_89 : decode cX6_circuit 89 = .ok (.putfield 77, 3) := by decide +kernel
theorem dX6_circuit_92 : decode cX6_circuit 92 = .ok (.aload_n 0, 1) := by decide +kernel
theorem dX6_circuit_93 : decode cX6_circuit 93 = .ok (.getfield 30, 3) := by decide +kernel
theorem dX6_circuit_96 : decode cX6_circuit 96 = .ok (.aload 5, 2) := by decide +kernel
theorem dX6_circuit_98 : decode cX6_circuit 98 = .ok (.iload_n 3, 1) := by decide +kernel
theorem dX6_circuit_99 : decode cX6_circuit 99 = .ok (.iload 4, 2) := by decide +kernel
theorem dX6_circuit_101 : decode cX6_circuit 101 = .ok (.aload_n 0, 1) := by decide +kernel
theorem dX6_circuit_102 : decode cX6_circuit 102 = .ok (.getfield 24, 3) := by decide +kernel
theorem dX6_circuit_105 : decode cX6_circuit 105 = .ok (.invokevirtual 81, 3) := by decide +kernel
theorem dX6_circuit_108 : decode cX6_circuit 108 = .ok (.ifCond .ne 14, 3) := by decide +kernel
theorem dX6_circuit_111 : decode cX6_circuit 111 = .ok (.bipush (-100), 2) := by decide +kernel
theorem dX6_circuit_113 : decode cX6_circuit 113 = .ok (.aload_n 0, 1) := by decide +kernel
theorem dX6_circuit_114 : decode cX6_circuit 114 = .ok (.getfield 30, 3) := by decide +kernel
theorem dX6_circuit_117 : decode cX6_circuit 117 = .ok (.getfield 85, 3) := by decide +kernel
theorem dX6_circuit_120 : decode cX6_circuit 120 = .ok (.isub, 1) := by decide +kernel
theorem dX6_circuit_121 : decode cX6_circuit 121 = .ok (.ireturn, 1) := by decide +kernel
theorem dX6_circuit_122 : decode cX6_circuit 122 = .ok (.aload_n 0, 1) := by decide +kernel
theorem dX6_circuit_123 : decode cX6_circuit 123 = .ok (.getfield 20, 3) := by decide +kernel
theorem dX6_circuit_126 : decode cX6_circuit 126 = .ok (.aload_n 0, 1) := by decide +kernel
theorem dX6_circuit_127 : decode cX6_circuit 127 = .ok (.getfield 24, 3) := by decide +kernel
theorem dX6_circuit_130 : decode cX6_circuit 130 = .ok (.invokevirtual 88, 3) := by decide +kernel
theorem dX6_circuit_133 : decode cX6_circuit 133 = .ok (.aload_n 0, 1) := by decide +kernel
theorem dX6_circuit_134 : decode cX6_circuit 134 = .ok (.getfield 44, 3) := by decide +kernel
theorem dX6_circuit_137 : decode cX6_circuit 137 = .ok (.iconst 0, 1) := by decide +kernel
theorem dX6_circuit_138 : decode cX6_circuit 138 = .ok (.putfield 92, 3) := by decide +kernel
theorem dX6_circuit_141 : decode cX6_circuit 141 = .ok (.aload_n 0, 1) := by decide +kernel
theorem dX6_circuit_142 : decode cX6_circuit 142 = .ok (.getfield 51, 3) := by decide +kernel
theorem dX6_circuit_145 : decode cX6_circuit 145 = .ok (.iconst 0, 1) := by decide +kernel
theorem dX6_circuit_146 : decode cX6_circuit 146 = .ok (.putfield 96, 3) := by decide +kernel
theorem dX6_circuit_149 : decode cX6_circuit 149 = .ok (.aload_n 0, 1) := by decide +kernel
theorem dX6_circuit_150 : decode cX6_circuit 150 = .ok (.getfield 20, 3) := by decide +kernel
theorem dX6_circuit_153 : decode cX6_circuit 153 = .ok (.getfield 99, 3) := by decide +kernel
theorem dX6_circuit_156 : decode cX6_circuit 156 = .ok (.ireturn, 1) := by decide +kernel
theorem dX6_ofCell_0 : decode cX6_ofCell 0 = .ok (.aload_n 0, 1) := by decide +kernel
theorem dX6_ofCell_1 : decode cX6_ofCell 1 = .ok (.iload_n 1, 1) := by decide +kernel
theorem dX6_ofCell_2 : decode cX6_ofCell 2 = .ok (.invokevirtual 102, 3) := by decide +kernel
theorem dX6_ofCell_5 : decode cX6_ofCell 5 = .ok (.ifCond .ne 5, 3) := by decide +kernel
theorem dX6_ofCell_8 : decode cX6_ofCell 8 = .ok (.iconst (-1), 1) := by decide +kernel
theorem dX6_ofCell_9 : decode cX6_ofCell 9 = .ok (.ireturn, 1) := by decide +kernel
theorem dX6_ofCell_10 : decode cX6_ofCell 10 = .ok (.iload_n 2, 1) := by decide +kernel
theorem dX6_ofCell_11 : decode cX6_ofCell 11 = .ok (.tableswitch 133 0 7 #[45, 55, 65, 75, 84, 101, 110, 122], 45) := by decide +kernel
theorem dX6_ofCell_56 : decode cX6_ofCell 56 = .ok (.aload_n 0, 1) := by decide +kernel
theorem dX6_ofCell_57 : decode cX6_ofCell 57 = .ok (.getfield 20, 3) := by decide +kernel
theorem dX6_ofCell_60 : decode cX6_ofCell 60 = .ok (.getfield 105, 3) := by decide +kernel
theorem dX6_ofCell_63 : decode cX6_ofCell 63 = .ok (.iload_n 1, 1) := by decide +kernel
theorem dX6_ofCell_64 : decode cX6_ofCell 64 = .ok (.iaload, 1) := by decide +kernel
theorem dX6_ofCell_65 : decode cX6_ofCell 65 = .ok (.ireturn, 1) := by decide +kernel
theorem dX6_ofCell_66 : decode cX6_ofCell 66 = .ok (.aload_n 0, 1) := by decide +kernel
theorem dX6_ofCell_67 : decode cX6_ofCell 67 = .ok (.getfield 20, 3) := by decide +kernel
theorem dX6_ofCell_70 : decode cX6_ofCell 70 = .ok (.getfield 109, 3) := by decide +kernel
theorem dX6_ofCell_73 : decode cX6_ofCell 73 = .ok (.iload_n 1, 1) := by decide +kernel
theorem dX6_ofCell_74 : decode cX6_ofCell 74 = .ok (.iaload, 1) := by decide +kernel
theorem dX6_ofCell_75 : decode cX6_ofCell 75 = .ok (.ireturn, 1) := by decide +kernel
theorem dX6_ofCell_76 : decode cX6_ofCell 76 = .ok (.aload_n 0, 1) := by decide +kernel
theorem dX6_ofCell_77 : decode cX6_ofCell 77 = .ok (.getfield 20, 3) := by decide +kernel
theorem dX6_ofCell_80 : decode cX6_ofCell 80 = .ok (.getfield 112, 3) := by decide +kernel
theorem dX6_ofCell_83 : decode cX6_ofCell 83 = .ok (.iload_n 1, 1) := by decide +kernel
theorem dX6_ofCell_84 : decode cX6_ofCell 84 = .ok (.iaload, 1) := by decide +kernel
theorem dX6_ofCell_85 : decode cX6_ofCell 85 = .ok (.ireturn, 1) := by decide +kernel
theorem dX6_ofCell_86 : decode cX6_ofCell 86 = .ok (.aload_n 0, 1) := by decide +kernel
theorem dX6_ofCell_87 : decode cX6_ofCell 87 = .ok (.getfield 20, 3) := by decide +kernel
theorem dX6_ofCell_90 : decode cX6_ofCell 90 = .ok (.iload_n 1, 1) := by decide +kernel
theorem dX6_ofCell_91 : decode cX6_ofCell 91 = .ok (.invokevirtual 115, 3) := by decide +kernel
theorem dX6_ofCell_94 : decode cX6_ofCell 94 = .ok (.ireturn, 1) := by decide +kernel
theorem dX6_ofCell_95 : decode cX6_ofCell 95 = .ok (.aload_n 0, 1) := by decide +kernel
theorem dX6_ofCell_96 : decode cX6_ofCell 96 = .ok (.getfield 20, 3) := by decide +kernel
theorem dX6_ofCell_99 : decode cX6_ofCell 99 = .ok (.iload_n 1, 1) := by decide +kernel
theorem dX6_ofCell_100 : decode cX6_ofCell 100 = .ok (.invokevirtual 118, 3) := by decide +kernel
theorem dX6_ofCell_103 : decode cX6_ofCell 103 = .ok (.ifCond .eq 7, 3) := by decide +kernel
theorem dX6_ofCell_106 : decode cX6_ofCell 106 = .ok (.iconst 1, 1) := by decide +kernel
theorem dX6_ofCell_107 : decode cX6_ofCell 107 = .ok (.goto 4, 3) := by decide +kernel
theorem dX6_ofCell_110 : decode cX6_ofCell 110 = .ok (.iconst 0, 1) := by decide +kernel
theorem dX6_ofCell_111 : decode cX6_ofCell 111 = .ok (.ireturn, 1) := by decide +kernel
theorem dX6_ofCell_112 : decode cX6_ofCell 112 = .ok (.aload_n 0, 1) := by decide +kernel
theorem dX6_ofCell_113 : decode cX6_ofCell 113 = .ok (.getfield 20, 3) := by decide +kernel
theorem dX6_ofCell_116 : decode cX6_ofCell 116 = .ok (.iload_n 1, 1) := by decide +kernel
theorem dX6_ofCell_117 : decode cX6_ofCell 117 = .ok (.invokevirtual 121, 3) := by decide +kernel
theorem dX6_ofCell_120 : decode cX6_ofCell 120 = .ok (.ireturn, 1) := by decide +kernel
theorem dX6_ofCell_121 : decode cX6_ofCell 121 = .ok (.aload_n 0, 1) := by decide +kernel
theorem dX6_ofCell_122 : decode cX6_ofCell 122 = .ok (.getfield 20, 3) := by decide +kernel
theorem dX6_ofCell_125 : decode cX6_ofCell 125 = .ok (.iload_n 1, 1) := by decide +kernel
theorem dX6_ofCell_126 : decode cX6_ofCell 126 = .ok (.invokevirtual 124, 3) := by decide +kernel
theorem dX6_ofCell_129 : decode cX6_ofCell 129 = .ok (.bipush 10, 2) := by decide +kernel
theorem dX6_ofCell_131 : decode cX6_ofCell 131 = .ok (.iadd, 1) := by decide +kernel
theorem dX6_ofCell_132 : decode cX6_ofCell 132 = .ok (.ireturn, 1) := by decide +kernel
theorem dX6_ofCell_133 : decode cX6_ofCell 133 = .ok (.aload_n 0, 1) := by decide +kernel
theorem dX6_ofCell_134 : decode cX6_ofCell 134 = .ok (.getfield 20, 3) := by decide +kernel
theorem dX6_ofCell_137 : decode cX6_ofCell 137 = .ok (.iconst 1, 1) := by decide +kernel
theorem dX6_ofCell_138 : decode cX6_ofCell 138 = .ok (.iload_n 1, 1) := by decide +kernel
theorem dX6_ofCell_139 : decode cX6_ofCell 139 = .ok (.ishl, 1) := by decide +kernel
theorem dX6_ofCell_140 : decode cX6_ofCell 140 = .ok (.invokevirtual 127, 3) := by decide +kernel
theorem dX6_ofCell_143 : decode cX6_ofCell 143 = .ok (.ireturn, 1) := by decide +kernel
theorem dX6_ofCell_144 : decode cX6_ofCell 144 = .ok (.bipush (-2), 2) := by decide +kernel
theorem dX6_ofCell_146 : decode cX6_ofCell 146 = .ok (.ireturn, 1) := by decide +kernel
theorem dX6_ofNet_0 : decode cX6_ofNet 0 = .ok (.iload_n 1, 1) := by decide +kernel
theorem dX6_ofNet_1 : decode cX6_ofNet 1 = .ok (.ifCond .lt 14, 3) := by decide +kernel
theorem dX6_ofNet_4 : decode cX6_ofNet 4 = .ok (.iload_n 1, 1) := by decide +kernel
theorem dX6_ofNet_5 : decode cX6_ofNet 5 = .ok (.aload_n 0, 1) := by decide +kernel
theorem dX6_ofNet_6 : decode cX6_ofNet 6 = .ok (.getfield 20, 3) := by decide +kernel
theorem dX6_ofNet_9 : decode cX6_ofNet 9 = .ok (.getfield 130, 3) := by decide +kernel
theorem dX6_ofNet_12 : decode cX6_ofNet 12 = .ok (.if_icmp .lt 5, 3) := by decide +kernel
theorem dX6_ofNet_15 : decode cX6_ofNet 15 = .ok (.iconst (-1), 1) := by decide +kernel
theorem dX6_ofNet_16 : decode cX6_ofNet 16 = .ok (.ireturn, 1) := by decide +kernel
theorem dX6_ofNet_17 : decode cX6_ofNet 17 = .ok (.iload_n 2, 1) := by decide +kernel
theorem dX6_ofNet_18 : decode cX6_ofNet 18 = .ok (.tableswitch 82 0 2 #[26, 36, 54], 26) := by decide +kernel
theorem dX6_ofNet_44 : decode cX6_ofNet 44 = .ok (.aload_n 0, 1) := by decide +kernel
theorem dX6_ofNet_45 : decode cX6_ofNet 45 = .ok (.getfield 20, 3) := by decide +kernel
theorem dX6_ofNet_48 : decode cX6_ofNet 48 = .ok (.getfield 133, 3) := by decide +kernel
theorem dX6_ofNet_51 : decode cX6_ofNet 51 = .ok (.iload_n 1, 1) := by decide +kernel
theorem dX6_ofNet_52 : decode cX6_ofNet 52 = .ok (.iaload, 1) := by decide +kernel
theorem dX6_ofNet_53 : decode cX6_ofNet 53 = .ok (.ireturn, 1) := by decide +kernel
theorem dX6_ofNet_54 : decode cX6_ofNet 54 = .ok (.aload_n 0, 1) := by decide +kernel
theorem dX6_ofNet_55 : decode cX6_ofNet 55 = .ok (.getfield 20, 3) := by decide +kernel
theorem dX6_ofNet_58 : decode cX6_ofNet 58 = .ok (.getfield 133, 3) := by decide +kernel
theorem dX6_ofNet_61 : decode cX6_ofNet 61 = .ok (.iload_n 1, 1) := by decide +kernel
theorem dX6_ofNet_62 : decode cX6_ofNet 62 = .ok (.iaload, 1) := by decide +kernel
theorem dX6_ofNet_63 : decode cX6_ofNet 63 = .ok (.aload_n 0, 1) := by decide +kernel
theorem dX6_ofNet_64 : decode cX6_ofNet 64 = .ok (.getfield 20, 3) := by decide +kernel
theorem dX6_ofNet_67 : decode cX6_ofNet 67 = .ok (.getfield 136, 3) := by decide +kernel
theorem dX6_ofNet_70 : decode cX6_ofNet 70 = .ok (.iand, 1) := by decide +kernel
theorem dX6_ofNet_71 : decode cX6_ofNet 71 = .ok (.ireturn, 1) := by decide +kernel
theorem dX6_ofNet_72 : decode cX6_ofNet 72 = .ok (.aload_n 0, 1) := by decide +kernel
theorem dX6_ofNet_73 : decode cX6_ofNet 73 = .ok (.getfield 20, 3) := by decide +kernel
theorem dX6_ofNet_76 : decode cX6_ofNet 76 = .ok (.getfield 133, 3) := by decide +kernel
theorem dX6_ofNet_79 : decode cX6_ofNet 79 = .ok (.iload_n 1, 1) := by decide +kernel
theorem dX6_ofNet_80 : decode cX6_ofNet 80 = .ok (.iaload, 1) := by decide +kernel
theorem dX6_ofNet_81 : decode cX6_ofNet 81 = .ok (.aload_n 0, 1) := by decide +kernel
theorem dX6_ofNet_82 : decode cX6_ofNet 82 = .ok (.getfield 20, 3) := by decide +kernel
theorem dX6_ofNet_85 : decode cX6_ofNet 85 = .ok (.getfield 136, 3) := by decide +kernel
theorem dX6_ofNet_88 : decode cX6_ofNet 88 = .ok (.invokestatic 139, 3) := by decide +kernel
theorem dX6_ofNet_91 : decode cX6_ofNet 91 = .ok (.ifCond .eq 7, 3) := by decide +kernel
theorem dX6_ofNet_94 : decode cX6_ofNet 94 = .ok (.iconst 1, 1) := by decide +kernel
theorem dX6_ofNet_95 : decode cX6_ofNet 95 = .ok (.goto 4, 3) := by decide +kernel
theorem dX6_ofNet_98 : decode cX6_ofNet 98 = .ok (.iconst 0, 1) := by decide +kernel
theorem dX6_ofNet_99 : decode cX6_ofNet 99 = .ok (.ireturn, 1) := by decide +kernel
theorem dX6_ofNet_100 : decode cX6_ofNet 100 = .ok (.bipush (-2), 2) := by decide +kernel
theorem dX6_ofNet_102 : decode cX6_ofNet 102 = .ok (.ireturn, 1) := by decide +kernel
theorem dX6_ofSide_0 : decode cX6_ofSide 0 = .ok (.aload_n 0, 1) := by decide +kernel
theorem dX6_ofSide_1 : decode cX6_ofSide 1 = .ok (.invokevirtual 142, 3) := by decide +kernel
theorem dX6_ofSide_4 : decode cX6_ofSide 4 = .ok (.ifCond .eq 6, 3) := by decide +kernel
theorem dX6_ofSide_7 : decode cX6_ofSide 7 = .ok (.bipush (-3), 2) := by decide +kernel
theorem dX6_ofSide_9 : decode cX6_ofSide 9 = .ok (.ireturn, 1) := by decide +kernel
theorem dX6_ofSide_10 : decode cX6_ofSide 10 = .ok (.iload_n 1, 1) := by decide +kernel
theorem dX6_ofSide_11 : decode cX6_ofSide 11 = .ok (.ifCond .lt 8, 3) := by decide +kernel
theorem dX6_ofSide_14 : decode cX6_ofSide 14 = .ok (.iload_n 1, 1) := by decide +kernel
theorem dX6_ofSide_15 : decode cX6_ofSide 15 = .ok (.iconst 1, 1) := by decide +kernel
theorem dX6_ofSide_16 : decode cX6_ofSide 16 = .ok (.if_icmp .le 6, 3) := by decide +kernel
theorem dX6_ofSide_19 : decode cX6_ofSide 19 = .ok (.bipush (-2), 2) := by decide +kernel
theorem dX6_ofSide_21 : decode cX6_ofSide 21 = .ok (.ireturn, 1) := by decide +kernel
theorem dX6_ofSide_22 : decode cX6_ofSide 22 = .ok (.iload_n 1, 1) := by decide +kernel
theorem dX6_ofSide_23 : decode cX6_ofSide 23 = .ok (.ifCond .ne 13, 3) := by decide +kernel
theorem dX6_ofSide_26 : decode cX6_ofSide 26 = .ok (.aload_n 0, 1) := by decide +kernel
theorem dX6_ofSide_27 : decode cX6_ofSide 27 = .ok (.getfield 20, 3) := by decide +kernel
theorem dX6_ofSide_30 : decode cX6_ofSide 30 = .ok (.invokevirtual 146, 3) := by decide +kernel
theorem dX6_ofSide_33 : decode cX6_ofSide 33 = .ok (.goto 10, 3) := by decide +kernel
theorem dX6_ofSide_36 : decode cX6_ofSide 36 = .ok (.aload_n 0, 1) := by decide +kernel
theorem dX6_ofSide_37 : decode cX6_ofSide 37 = .ok (.getfield 20, 3) := by decide +kernel
theorem dX6_ofSide_40 : decode cX6_ofSide 40 = .ok (.getfield 136, 3) := by decide +kernel
theorem dX6_ofSide_43 : decode cX6_ofSide 43 = .ok (.istore_n 3, 1) := by decide +kernel
theorem dX6_ofSide_44 : decode cX6_ofSide 44 = .ok (.iload_n 2, 1) := by decide +kernel
theorem dX6_ofSide_45 : decode cX6_ofSide 45 = .ok (.tableswitch 68 0 3 #[31, 33, 42, 51], 31) := by decide +kernel
theorem dX6_ofSide_76 : decode cX6_ofSide 76 = .ok (.iload_n 3, 1) := by decide +kernel
theorem dX6_ofSide_77 : decode cX6_ofSide 77 = .ok (.ireturn, 1) := by decide +kernel
theorem dX6_ofSide_78 : decode cX6_ofSide 78 = .ok (.aload_n 0, 1) := by decide +kernel
theorem dX6_ofSide_79 : decode cX6_ofSide 79 = .ok (.getfield 20, 3) := by decide +kernel
theorem dX6_ofSide_82 : decode cX6_ofSide 82 = .ok (.iload_n 3, 1) := by decide +kernel
theorem dX6_ofSide_83 : decode cX6_ofSide 83 = .ok (.invokevirtual 150, 3) := by decide +kernel
theorem dX6_ofSide_86 : decode cX6_ofSide 86 = .ok (.ireturn, 1) := by decide +kernel
theorem dX6_ofSide_87 : decode cX6_ofSide 87 = .ok (.aload_n 0, 1) := by decide +kernel
theorem dX6_ofSide_88 : decode cX6_ofSide 88 = .ok (.getfield 20, 3) := by decide +kernel
theorem dX6_ofSide_91 : decode cX6_ofSide 91 = .ok (.iload_n 3, 1) := by decide +kernel
theorem dX6_ofSide_92 : decode cX6_ofSide 92 = .ok (.invokevirtual 127, 3) := by decide +kernel
theorem dX6_ofSide_95 : decode cX6_ofSide 95 = .ok (.ireturn, 1) := by decide +kernel
theorem dX6_ofSide_96 : decode cX6_ofSide 96 = .ok (.aload_n 0, 1) := by decide +kernel
theorem dX6_ofSide_97 : decode cX6_ofSide 97 = .ok (.getfield 20, 3) := by decide +kernel
theorem dX6_ofSide_100 : decode cX6_ofSide 100 = .ok (.iload_n 3, 1) := by decide +kernel
theorem dX6_ofSide_101 : decode cX6_ofSide 101 = .ok (.invokevirtual 153, 3) := by decide +kernel
theorem dX6_ofSide_104 : decode cX6_ofSide 104 = .ok (.ifCond .eq 7, 3) := by decide +kernel
theorem dX6_ofSide_107 : decode cX6_ofSide 107 = .ok (.iconst 1, 1) := by decide +kernel
theorem dX6_ofSide_108 : decode cX6_ofSide 108 = .ok (.goto 4, 3) := by decide +kernel
theorem dX6_ofSide_111 : decode cX6_ofSide 111 = .ok (.iconst 0, 1) := by decide +kernel
theorem dX6_ofSide_112 : decode cX6_ofSide 112 = .ok (.ireturn, 1) := by decide +kernel
theorem dX6_ofSide_113 : decode cX6_ofSide 113 = .ok (.bipush (-2), 2) := by decide +kernel
theorem dX6_ofSide_115 : decode cX6_ofSide 115 = .ok (.ireturn, 1) := by decide +kernel
theorem dX6_bulk_0 : decode cX6_bulk 0 = .ok (.aload_n 0, 1) := by decide +kernel
theorem dX6_bulk_1 : decode cX6_bulk 1 = .ok (.iload_n 1, 1) := by decide +kernel
theorem dX6_bulk_2 : decode cX6_bulk 2 = .ok (.invokevirtual 102, 3) := by decide +kernel
theorem dX6_bulk_5 : decode cX6_bulk 5 = .ok (.ifCond .ne 5, 3) := by decide +kernel
theorem dX6_bulk_8 : decode cX6_bulk 8 = .ok (.iconst (-1), 1) := by decide +kernel
theorem dX6_bulk_9 : decode cX6_bulk 9 = .ok (.ireturn, 1) := by decide +kernel
theorem dX6_bulk_10 : decode cX6_bulk 10 = .ok (.iload_n 2, 1) := by decide +kernel
theorem dX6_bulk_11 : decode cX6_bulk 11 = .ok (.invokestatic 156, 3) := by decide +kernel
theorem dX6_bulk_14 : decode cX6_bulk 14 = .ok (.ifCond .ne 6, 3) := by decide +kernel
theorem dX6_bulk_17 : decode cX6_bulk 17 = .ok (.bipush (-2), 2) := by decide +kernel
theorem dX6_bulk_19 : decode cX6_bulk 19 = .ok (.ireturn, 1) := by decide +kernel
theorem dX6_bulk_20 : decode cX6_bulk 20 = .ok (.aload_n 0, 1) := by decide +kernel
theorem dX6_bulk_21 : decode cX6_bulk 21 = .ok (.getfield 20, 3) := by decide +kernel
theorem dX6_bulk_24 : decode cX6_bulk 24 = .ok (.getfield 109, 3) := by decide +kernel
theorem dX6_bulk_27 : decode cX6_bulk 27 = .ok (.iload_n 1, 1) := by decide +kernel
theorem dX6_bulk_28 : decode cX6_bulk 28 = .ok (.iaload, 1) := by decide +kernel
theorem dX6_bulk_29 : decode cX6_bulk 29 = .ok (.istore_n 3, 1) := by decide +kernel
theorem dX6_bulk_30 : decode cX6_bulk 30 = .ok (.aload_n 0, 1) := by decide +kernel
theorem dX6_bulk_31 : decode cX6_bulk 31 = .ok (.getfield 20, 3) := by decide +kernel
theorem dX6_bulk_34 : decode cX6_bulk 34 = .ok (.iload_n 1, 1) := by decide +kernel
theorem dX6_bulk_35 : decode cX6_bulk 35 = .ok (.aload_n 0, 1) := by decide +kernel
theorem dX6_bulk_36 : decode cX6_bulk 36 = .ok (.getfield 20, 3) := by decide +kernel
theorem dX6_bulk_39 : decode cX6_bulk 39 = .ok (.getfield 105, 3) := by decide +kernel
theorem dX6_bulk_42 : decode cX6_bulk 42 = .ok (.iload_n 1, 1) := by decide +kernel
theorem dX6_bulk_43 : decode cX6_bulk 43 = .ok (.iaload, 1) := by decide +kernel
theorem dX6_bulk_44 : decode cX6_bulk 44 = .ok (.iload_n 2, 1) := by decide +kernel
theorem dX6_bulk_45 : decode cX6_bulk 45 = .ok (.invokevirtual 159, 3) := by decide +kernel
theorem dX6_bulk_48 : decode cX6_bulk 48 = .ok (.iload_n 3, 1) := by decide +kernel
theorem dX6_bulk_49 : decode cX6_bulk 49 = .ok (.ireturn, 1) := by decide +kernel
theorem dX6_bound_0 : decode cX6_bound 0 = .ok (.aload_n 0, 1) := by decide +kernel
theorem dX6_bound_1 : decode cX6_bound 1 = .ok (.invokevirtual 142, 3) := by decide +kernel
theorem dX6_bound_4 : decode cX6_bound 4 = .ok (.ifCond .eq 6, 3) := by decide +kernel
theorem dX6_bound_7 : decode cX6_bound 7 = .ok (.bipush (-3), 2) := by decide +kernel
theorem dX6_bound_9 : decode cX6_bound 9 = .ok (.ireturn, 1) := by decide +kernel
theorem dX6_bound_10 : decode cX6_bound 10 = .ok (.iload_n 1, 1) := by decide +kernel
theorem dX6_bound_11 : decode cX6_bound 11 = .ok (.ldc 163, 2) := by decide +kernel
theorem dX6_bound_13 : decode cX6_bound 13 = .ok (.if_icmp .lt 9, 3) := by decide +kernel
theorem dX6_bound_16 : decode cX6_bound 16 = .ok (.iload_n 1, 1) := by decide +kernel
theorem dX6_bound_17 : decode cX6_bound 17 = .ok (.ldc 164, 2) := by decide +kernel
theorem dX6_bound_19 : decode cX6_bound 19 = .ok (.if_icmp .le 6, 3) := by decide +kernel
theorem dX6_bound_22 : decode cX6_bound 22 = .ok (.bipush (-2), 2) := by decide +kernel
theorem dX6_bound_24 : decode cX6_bound 24 = .ok (.ireturn, 1) := by decide +kernel
theorem dX6_bound_25 : decode cX6_bound 25 = .ok (.aload_n 0, 1) := by decide +kernel
theorem dX6_bound_26 : decode cX6_bound 26 = .ok (.getfield 20, 3) := by decide +kernel
theorem dX6_bound_29 : decode cX6_bound 29 = .ok (.getfield 165, 3) := by decide +kernel
theorem dX6_bound_32 : decode cX6_bound 32 = .ok (.istore_n 2, 1) := by decide +kernel
theorem dX6_bound_33 : decode cX6_bound 33 = .ok (.aload_n 0, 1) := by decide +kernel
theorem dX6_bound_34 : decode cX6_bound 34 = .ok (.getfield 20, 3) := by decide +kernel
theorem dX6_bound_37 : decode cX6_bound 37 = .ok (.iload_n 1, 1) := by decide +kernel
theorem dX6_bound_38 : decode cX6_bound 38 = .ok (.putfield 165, 3) := by decide +kernel
theorem dX6_bound_41 : decode cX6_bound 41 = .ok (.iload_n 2, 1) := by decide +kernel
theorem dX6_bound_42 : decode cX6_bound 42 = .ok (.ireturn, 1) := by decide +kernel
theorem dX6_move_0 : decode cX6_move 0 = .ok (.aload_n 0, 1) := by decide +kernel
theorem dX6_move_1 : decode cX6_move 1 = .ok (.iload_n 1, 1) := by decide +kernel
theorem dX6_move_2 : decode cX6_move 2 = .ok (.invokevirtual 102, 3) := by decide +kernel
theorem dX6_move_5 : decode cX6_move 5 = .ok (.ifCond .ne 5, 3) := by decide +kernel
theorem dX6_move_8 : decode cX6_move 8 = .ok (.iconst (-1), 1) := by decide +kernel
theorem dX6_move_9 : decode cX6_move 9 = .ok (.ireturn, 1) := by decide +kernel
theorem dX6_move_10 : decode cX6_move 10 = .ok (.aload_n 0, 1) := by decide +kernel
theorem dX6_move_11 : decode cX6_move 11 = .ok (.getfield 20, 3) := by decide +kernel
theorem dX6_move_14 : decode cX6_move 14 = .ok (.iload_n 1, 1) := by decide +kernel
theorem dX6_move_15 : decode cX6_move 15 = .ok (.invokevirtual 118, 3) := by decide +kernel
theorem dX6_move_18 : decode cX6_move 18 = .ok (.ifCond .eq 6, 3) := by decide +kernel
theorem dX6_move_21 : decode cX6_move 21 = .ok (.bipush (-3), 2) := by decide +kernel
theorem dX6_move_23 : decode cX6_move 23 = .ok (.ireturn, 1) := by decide +kernel
theorem dX6_move_24 : decode cX6_move 24 = .ok (.aload_n 0, 1) := by decide +kernel
theorem dX6_move_25 : decode cX6_move 25 = .ok (.getfield 20, 3) := by decide +kernel
theorem dX6_move_28 : decode cX6_move 28 = .ok (.iload_n 1, 1) := by decide +kernel
theorem dX6_move_29 : decode cX6_move 29 = .ok (.invokevirtual 168, 3) := by decide +kernel
theorem dX6_move_32 : decode cX6_move 32 = .ok (.aload_n 0, 1) := by decide +kernel
theorem dX6_move_33 : decode cX6_move 33 = .ok (.getfield 20, 3) := by decide +kernel
theorem dX6_move_36 : decode cX6_move 36 = .ok (.invokevirtual 172, 3) := by decide +kernel
theorem dX6_move_39 : decode cX6_move 39 = .ok (.ireturn, 1) := by decide +kernel
theorem dX6_pass_0 : decode cX6_pass 0 = .ok (.aload_n 0, 1) := by decide +kernel
theorem dX6_pass_1 : decode cX6_pass 1 = .ok (.invokevirtual 142, 3) := by decide +kernel
theorem dX6_pass_4 : decode cX6_pass 4 = .ok (.ifCond .eq 6, 3) := by decide +kernel
theorem dX6_pass_7 : decode cX6_pass 7 = .ok (.bipush (-3), 2) := by decide +kernel
theorem dX6_pass_9 : decode cX6_pass 9 = .ok (.ireturn, 1) := by decide +kernel
theorem dX6_pass_10 : decode cX6_pass 10 = .ok (.iload_n 1, 1) := by decide +kernel
theorem dX6_pass_11 : decode cX6_pass 11 = .ok (.invokestatic 175, 3) := by decide +kernel
theorem dX6_pass_14 : decode cX6_pass 14 = .ok (.ifCond .ne 6, 3) := by decide +kernel
theorem dX6_pass_17 : decode cX6_pass 17 = .ok (.bipush (-2), 2) := by decide +kernel
theorem dX6_pass_19 : decode cX6_pass 19 = .ok (.ireturn, 1) := by decide +kernel
theorem dX6_pass_20 : decode cX6_pass 20 = .ok (.aload_n 0, 1) := by decide +kernel
theorem dX6_pass_21 : decode cX6_pass 21 = .ok (.getfield 37, 3) := by decide +kernel
theorem dX6_pass_24 : decode cX6_pass 24 = .ok (.aload_n 0, 1) := by decide +kernel
theorem dX6_pass_25 : decode cX6_pass 25 = .ok (.getfield 20, 3) := by decide +kernel
theorem dX6_pass_28 : decode cX6_pass 28 = .ok (.iload_n 1, 1) := by decide +kernel
theorem dX6_pass_29 : decode cX6_pass 29 = .ok (.invokevirtual 178, 3) := by decide +kernel
theorem dX6_pass_32 : decode cX6_pass 32 = .ok (.aload_n 0, 1) := by decide +kernel
theorem dX6_pass_33 : decode cX6_pass 33 = .ok (.getfield 37, 3) := by decide +kernel
theorem dX6_pass_36 : decode cX6_pass 36 = .ok (.getfield 182, 3) := by decide +kernel
theorem dX6_pass_39 : decode cX6_pass 39 = .ok (.ireturn, 1) := by decide +kernel
theorem dX6_tries_0 : decode cX6_tries 0 = .ok (.aload_n 0, 1) := by decide +kernel
theorem dX6_tries_1 : decode cX6_tries 1 = .ok (.invokevirtual 142, 3) := by decide +kernel
theorem dX6_tries_4 : decode cX6_tries 4 = .ok (.ifCond .eq 6, 3) := by decide +kernel
theorem dX6_tries_7 : decode cX6_tries 7 = .ok (.bipush (-3), 2) := by decide +kernel
theorem dX6_tries_9 : decode cX6_tries 9 = .ok (.ireturn, 1) := by decide +kernel
theorem dX6_tries_10 : decode cX6_tries 10 = .ok (.iload_n 1, 1) := by decide +kernel
theorem dX6_tries_11 : decode cX6_tries 11 = .ok (.invokestatic 175, 3) := by decide +kernel
theorem dX6_tries_14 : decode cX6_tries 14 = .ok (.ifCond .eq 11, 3) := by decide +kernel
theorem dX6_tries_17 : decode cX6_tries 17 = .ok (.iload_n 2, 1) := by decide +kernel
theorem dX6_tries_18 : decode cX6_tries 18 = .ok (.iconst 2, 1) := by decide +kernel
theorem dX6_tries_19 : decode cX6_tries 19 = .ok (.invokestatic 185, 3) := by decide +kernel
theorem dX6_tries_22 : decode cX6_tries 22 = .ok (.ifCond .ne 6, 3) := by decide +kernel
theorem dX6_tries_25 : decode cX6_tries 25 = .ok (.bipush (-2), 2) := by decide +kernel
theorem dX6_tries_27 : decode cX6_tries 27 = .ok (.ireturn, 1) := by decide +kernel
theorem dX6_tries_28 : decode cX6_tries 28 = .ok (.aload_n 0, 1) := by decide +kernel
theorem dX6_tries_29 : decode cX6_tries 29 = .ok (.getfield 24, 3) := by decide +kernel
theorem dX6_tries_32 : decode cX6_tries 32 = .ok (.aload_n 0, 1) := by decide +kernel
theorem dX6_tries_33 : decode cX6_tries 33 = .ok (.getfield 20, 3) := by decide +kernel
theorem dX6_tries_36 : decode cX6_tries 36 = .ok (.invokevirtual 88, 3) := by decide +kernel
theorem dX6_tries_39 : decode cX6_tries 39 = .ok (.aload_n 0, 1) := by decide +kernel
theorem dX6_tries_40 : decode cX6_tries 40 = .ok (.getfield 37, 3) := by decide +kernel
theorem dX6_tries_43 : decode cX6_tries 43 = .ok (.aload_n 0, 1) := by decide +kernel
theorem dX6_tries_44 : decode cX6_tries 44 = .ok (.getfield 24, 3) := by decide +kernel
theorem dX6_tries_47 : decode cX6_tries 47 = .ok (.iload_n 1, 1) := by decide +kernel
theorem dX6_tries_48 : decode cX6_tries 48 = .ok (.invokevirtual 178, 3) := by decide +kernel
theorem dX6_tries_51 : decode cX6_tries 51 = .ok (.iload_n 2, 1) := by decide +kernel
theorem dX6_tries_52 : decode cX6_tries 52 = .ok (.tableswitch 52 0 2 #[28, 36, 44], 28) := by decide +kernel
theorem dX6_tries_80 : decode cX6_tries 80 = .ok (.aload_n 0, 1) := by decide +kernel
theorem dX6_tries_81 : decode cX6_tries 81 = .ok (.getfield 37, 3) := by decide +kernel
theorem dX6_tries_84 : decode cX6_tries 84 = .ok (.getfield 188, 3) := by decide +kernel
theorem dX6_tries_87 : decode cX6_tries 87 = .ok (.ireturn, 1) := by decide +kernel
theorem dX6_tries_88 : decode cX6_tries 88 = .ok (.aload_n 0, 1) := by decide +kernel
theorem dX6_tries_89 : decode cX6_tries 89 = .ok (.getfield 37, 3) := by decide +kernel
theorem dX6_tries_92 : decode cX6_tries 92 = .ok (.getfield 182, 3) := by decide +kernel
theorem dX6_tries_95 : decode cX6_tries 95 = .ok (.ireturn, 1) := by decide +kernel
theorem dX6_tries_96 : decode cX6_tries 96 = .ok (.aload_n 0, 1) := by decide +kernel
theorem dX6_tries_97 : decode cX6_tries 97 = .ok (.getfield 24, 3) := by decide +kernel
theorem dX6_tries_100 : decode cX6_tries 100 = .ok (.invokevirtual 172, 3) := by decide +kernel
theorem dX6_tries_103 : decode cX6_tries 103 = .ok (.ireturn, 1) := by decide +kernel
theorem dX6_tries_104 : decode cX6_tries 104 = .ok (.aload_n 0, 1) := by decide +kernel
theorem dX6_tries_105 : decode cX6_tries 105 = .ok (.getfield 37, 3) := by decide +kernel
theorem dX6_tries_108 : decode cX6_tries 108 = .ok (.iload_n 2, 1) := by decide +kernel
theorem dX6_tries_109 : decode cX6_tries 109 = .ok (.bipush 10, 2) := by decide +kernel
theorem dX6_tries_111 : decode cX6_tries 111 = .ok (.isub, 1) := by decide +kernel
theorem dX6_tries_112 : decode cX6_tries 112 = .ok (.invokevirtual 191, 3) := by decide +kernel
theorem dX6_tries_115 : decode cX6_tries 115 = .ok (.ireturn, 1) := by decide +kernel
theorem dX6_settle_0 : decode cX6_settle 0 = .ok (.aload_n 0, 1) := by decide +kernel
theorem dX6_settle_1 : decode cX6_settle 1 = .ok (.invokevirtual 142, 3) := by decide +kernel
theorem dX6_settle_4 : decode cX6_settle 4 = .ok (.ifCond .eq 6, 3) := by decide +kernel
theorem dX6_settle_7 : decode cX6_settle 7 = .ok (.bipush (-3), 2) := by decide +kernel
theorem dX6_settle_9 : decode cX6_settle 9 = .ok (.ireturn, 1) := by decide +kernel
theorem dX6_settle_10 : decode cX6_settle 10 = .ok (.iload_n 1, 1) := by decide +kernel
theorem dX6_settle_11 : decode cX6_settle 11 = .ok (.invokestatic 175, 3) := by decide +kernel
theorem dX6_settle_14 : decode cX6_settle 14 = .ok (.ifCond .ne 6, 3) := by decide +kernel
theorem dX6_settle_17 : decode cX6_settle 17 = .ok (.bipush (-2), 2) := by decide +kernel
theorem dX6_settle_19 : decode cX6_settle 19 = .ok (.ireturn, 1) := by decide +kernel
theorem dX6_settle_20 : decode cX6_settle 20 = .ok (.iconst 0, 1) := by decide +kernel
theorem dX6_settle_21 : decode cX6_settle 21 = .ok (.istore_n 2, 1) := by decide +kernel
theorem dX6_settle_22 : decode cX6_settle 22 = .ok (.iconst 0, 1) := by decide +kernel
theorem dX6_settle_23 : decode cX6_settle 23 = .ok (.istore_n 3, 1) := by decide +kernel
theorem dX6_settle_24 : decode cX6_settle 24 = .ok (.iload_n 3, 1) := by decide +kernel
theorem dX6_settle_25 : decode cX6_settle 25 = .ok (.ifCond .ne 54, 3) := by decide +kernel
theorem dX6_settle_28 : decode cX6_settle 28 = .ok (.iload_n 2, 1) := by decide +kernel
theorem dX6_settle_29 : decode cX6_settle 29 = .ok (.bipush 6, 2) := by decide +kernel
theorem dX6_settle_31 : decode cX6_settle 31 = .ok (.if_icmp .gt 48, 3) := by decide +kernel
theorem dX6_settle_34 : decode cX6_settle 34 = .ok (.aload_n 0, 1) := by decide +kernel
theorem dX6_settle_35 : decode cX6_settle 35 = .ok (.getfield 20, 3) := by decide +kernel
theorem dX6_settle_38 : decode cX6_settle 38 = .ok (.invokevirtual 172, 3) := by decide +kernel
theorem dX6_settle_41 : decode cX6_settle 41 = .ok (.istore 4, 2) := by decide +kernel
theorem dX6_settle_43 : decode cX6_settle 43 = .ok (.aload_n 0, 1) := by decide +kernel
theorem dX6_settle_44 : decode cX6_settle 44 = .ok (.getfield 37, 3) := by decide +kernel
theorem dX6_settle_47 : decode cX6_settle 47 = .ok (.aload_n 0, 1) := by decide +kernel
theorem dX6_settle_48 : decode cX6_settle 48 = .ok (.getfield 20, 3) := by decide +kernel
theorem dX6_settle_51 : decode cX6_settle 51 = .ok (.iload_n 1, 1) := by decide +kernel
theorem dX6_settle_52 : decode cX6_settle 52 = .ok (.invokevirtual 178, 3) := by decide +kernel
theorem dX6_settle_55 : decode cX6_settle 55 = .ok (.iinc 2 1, 3) := by decide +kernel
theorem dX6_settle_58 : decode cX6_settle 58 = .ok (.aload_n 0, 1) := by decide +kernel
theorem dX6_settle_59 : decode cX6_settle 59 = .ok (.getfield 20, 3) := by decide +kernel
theorem dX6_settle_62 : decode cX6_settle 62 = .ok (.invokevirtual 172, 3) := by decide +kernel
theorem dX6_settle_65 : decode cX6_settle 65 = .ok (.iload 4, 2) := by decide +kernel
theorem dX6_settle_67 : decode cX6_settle 67 = .ok (.if_icmp .ne 7, 3) := by decide +kernel
theorem dX6_settle_70 : decode cX6_settle 70 = .ok (.iconst 1, 1) := by decide +kernel
theorem dX6_settle_71 : decode cX6_settle 71 = .ok (.goto 4, 3) := by decide +kernel
theorem dX6_settle_74 : decode cX6_settle 74 = .ok (.iconst 0, 1) := by decide +kernel
theorem dX6_settle_75 : decode cX6_settle 75 = .ok (.istore_n 3, 1) := by decide +kernel
theorem dX6_settle_76 : decode cX6_settle 76 = .ok (.goto (-52), 3) := by decide +kernel
theorem dX6_settle_79 : decode cX6_settle 79 = .ok (.iload_n 2, 1) := by decide +kernel
theorem dX6_settle_80 : decode cX6_settle 80 = .ok (.ireturn, 1) := by decide +kernel
theorem dX6_day_0 : decode cX6_day 0 = .ok (.iload_n 1, 1) := by decide +kernel
theorem dX6_day_1 : decode cX6_day 1 = .ok (.invokestatic 56, 3) := by decide +kernel
theorem dX6_day_4 : decode cX6_day 4 = .ok (.ifCond .ne 9, 3) := by decide +kernel
theorem dX6_day_7 : decode cX6_day 7 = .ok (.aload_n 0, 1) := by decide +kernel
theorem dX6_day_8 : decode cX6_day 8 = .ok (.iconst (-1), 1) := by decide +kernel
theorem dX6_day_9 : decode cX6_day 9 = .ok (.invokevirtual 60, 3) := by decide +kernel
theorem dX6_day_12 : decode cX6_day 12 = .ok (.ireturn, 1) := by decide +kernel
theorem dX6_day_13 : decode cX6_day 13 = .ok (.iload_n 2, 1) := by decide +kernel
theorem dX6_day_14 : decode cX6_day 14 = .ok (.invokestatic 64, 3) := by decide +kernel
theorem dX6_day_17 : decode cX6_day 17 = .ok (.ifCond .eq 24, 3) := by decide +kernel
theorem dX6_day_20 : decode cX6_day 20 = .ok (.iload 4, 2) := by decide +kernel
theorem dX6_day_22 : decode cX6_day 22 = .ok (.ifCond .lt 19, 3) := by decide +kernel
theorem dX6_day_25 : decode cX6_day 25 = .ok (.iload 4, 2) := by decide +kernel
theorem dX6_day_27 : decode cX6_day 27 = .ok (.bipush 20, 2) := by decide +kernel
theorem dX6_day_29 : decode cX6_day 29 = .ok (.if_icmp .gt 12, 3) := by decide +kernel
theorem dX6_day_32 : decode cX6_day 32 = .ok (.iload 5, 2) := by decide +kernel
theorem dX6_day_34 : decode cX6_day 34 = .ok (.iconst 4, 1) := by decide +kernel
theorem dX6_day_35 : decode cX6_day 35 = .ok (.invokestatic 185, 3) := by decide +kernel
theorem dX6_day_38 : decode cX6_day 38 = .ok (.ifCond .ne 10, 3) := by decide +kernel
theorem dX6_day_41 : decode cX6_day 41 = .ok (.aload_n 0, 1) := by decide +kernel
theorem dX6_day_42 : decode cX6_day 42 = .ok (.bipush (-2), 2) := by decide +kernel
theorem dX6_day_44 : decode cX6_day 44 = .ok (.invokevirtual 60, 3) := by decide +kernel
theorem dX6_day_47 : decode cX6_day 47 = .ok (.ireturn, 1) := by decide +kernel
theorem dX6_day_48 : decode cX6_day 48 = .ok (.aload_n 0, 1) := by decide +kernel
theorem dX6_day_49 : decode cX6_day 49 = .ok (.getfield 13, 3) := by decide +kernel
theorem dX6_day_52 : decode cX6_day 52 = .ok (.iload_n 1, 1) := by decide +kernel
theorem dX6_day_53 : decode cX6_day 53 = .ok (.aaload, 1) := by decide +kernel
theorem dX6_day_54 : decode cX6_day 54 = .ok (.astore 6, 2) := by decide +kernel
theorem dX6_day_56 : decode cX6_day 56 = .ok (.aload 6, 2) := by decide +kernel
theorem dX6_day_58 : decode cX6_day 58 = .ok (.iload_n 2, 1) := by decide +kernel
theorem dX6_day_59 : decode cX6_day 59 = .ok (.invokevirtual 67, 3) := by decide +kernel
theorem dX6_day_62 : decode cX6_day 62 = .ok (.istore 7, 2) := by decide +kernel
theorem dX6_day_64 : decode cX6_day 64 = .ok (.iload 7, 2) := by decide +kernel
theorem dX6_day_66 : decode cX6_day 66 = .ok (.ifCond .ne 19, 3) := by decide +kernel
theorem dX6_day_69 : decode cX6_day 69 = .ok (.aload 6, 2) := by decide +kernel
theorem dX6_day_71 : decode cX6_day 71 = .ok (.iload_n 3, 1) := by decide +kernel
theorem dX6_day_72 : decode cX6_day 72 = .ok (.iconst 2, 1) := by decide +kernel
theorem dX6_day_73 : decode cX6_day 73 = .ok (.iload 4, 2) := by decide +kernel
theorem dX6_day_75 : decode cX6_day 75 = .ok (.imul, 1) := by decide +kernel
theorem dX6_day_76 : decode cX6_day 76 = .ok (.invokevirtual 70, 3) := by decide +kernel
theorem dX6_day_79 : decode cX6_day 79 = .ok (.ifCond .ne 6, 3) := by decide +kernel
theorem dX6_day_82 : decode cX6_day 82 = .ok (.iconst 3, 1) := by decide +kernel
theorem dX6_day_83 : decode cX6_day 83 = .ok (.istore 7, 2) := by decide +kernel
theorem dX6_day_85 : decode cX6_day 85 = .ok (.iload 7, 2) := by decide +kernel
theorem dX6_day_87 : decode cX6_day 87 = .ok (.ifCond .eq 10, 3) := by decide +kernel
theorem dX6_day_90 : decode cX6_day 90 = .ok (.aload_n 0, 1) := by decide +kernel
theorem dX6_day_91 : decode cX6_day 91 = .ok (.iload 7, 2) := by decide +kernel
theorem dX6_day_93 : decode cX6_day 93 = .ok (.invokevirtual 74, 3) := by decide +kernel
theorem dX6_day_96 : decode cX6_day 96 = .ok (.ireturn, 1) := by decide +kernel
theorem dX6_day_97 : decode cX6_day 97 = .ok (.aload_n 0, 1) := by decide +kernel
theorem dX6_day_98 : decode cX6_day 98 = .ok (.invokevirtual 142, 3) := by decide +kernel
theorem dX6_day_101 : decode cX6_day 101 = .ok (.ifCond .eq 10, 3) := by decide +kernel
theorem dX6_day_104 : decode cX6_day 104 = .ok (.aload_n 0, 1) := by decide +kernel
theorem dX6_day_105 : decode cX6_day 105 = .ok (.bipush (-3), 2) := by decide +kernel
theorem dX6_day_107 : decode cX6_day 107 = .ok (.invokevirtual 60, 3) := by decide +kernel
theorem dX6_day_110 : decode cX6_day 110 = .ok (.ireturn, 1) := by decide +kernel
theorem dX6_day_111 : decode cX6_day 111 = .ok (.aload 6, 2) := by decide +kernel
theorem dX6_day_113 : decode cX6_day 113 = .ok (.iload_n 3, 1) := by decide +kernel
theorem dX6_day_114 : decode cX6_day 114 = .ok (.iload 4, 2) := by decide +kernel
theorem dX6_day_116 : decode cX6_day 116 = .ok (.invokestatic 194, 3) := by decide +kernel
theorem dX6_day_119 : decode cX6_day 119 = .ok (.ifCond .ne 10, 3) := by decide +kernel
theorem dX6_day_122 : decode cX6_day 122 = .ok (.aload_n 0, 1) := by decide +kernel
theorem dX6_day_123 : decode cX6_day 123 = .ok (.bipush (-2), 2) := by decide +kernel
theorem dX6_day_125 : decode cX6_day 125 = .ok (.invokevirtual 60, 3) := by decide +kernel
theorem dX6_day_128 : decode cX6_day 128 = .ok (.ireturn, 1) := by decide +kernel
theorem dX6_day_129 : decode cX6_day 129 = .ok (.aload_n 0, 1) := by decide +kernel
theorem dX6_day_130 : decode cX6_day 130 = .ok (.iconst 0, 1) := by decide +kernel
theorem dX6_day_131 : decode cX6_day 131 = .ok (.putfield 77, 3) := by decide +kernel
theorem dX6_day_134 : decode cX6_day 134 = .ok (.aload_n 0, 1) := by decide +kernel
theorem dX6_day_135 : decode cX6_day 135 = .ok (.aload 6, 2) := by decide +kernel
theorem dX6_day_137 : decode cX6_day 137 = .ok (.iload_n 3, 1) := by decide +kernel
theorem dX6_day_138 : decode cX6_day 138 = .ok (.iload 4, 2) := by decide +kernel
theorem dX6_day_140 : decode cX6_day 140 = .ok (.invokevirtual 198, 3) := by decide +kernel
theorem dX6_day_143 : decode cX6_day 143 = .ok (.istore 8, 2) := by decide +kernel
theorem dX6_day_145 : decode cX6_day 145 = .ok (.iload 5, 2) := by decide +kernel
theorem dX6_day_147 : decode cX6_day 147 = .ok (.iconst 1, 1) := by decide +kernel
theorem dX6_day_148 : decode cX6_day 148 = .ok (.if_icmp .ne 6, 3) := by decide +kernel
theorem dX6_day_151 : decode cX6_day 151 = .ok (.iload 8, 2) := by decide +kernel
theorem dX6_day_153 : decode cX6_day 153 = .ok (.ireturn, 1) := by decide +kernel
theorem dX6_day_154 : decode cX6_day 154 = .ok (.iload 8, 2) := by decide +kernel
theorem dX6_day_156 : decode cX6_day 156 = .ok (.bipush (-9), 2) := by decide +kernel
theorem dX6_day_158 : decode cX6_day 158 = .ok (.if_icmp .ne 12, 3) := by decide +kernel
theorem dX6_day_161 : decode cX6_day 161 = .ok (.aload_n 0, 1) := by decide +kernel
theorem dX6_day_162 : decode cX6_day 162 = .ok (.iload 5, 2) := by decide +kernel
theorem dX6_day_164 : decode cX6_day 164 = .ok (.invokevirtual 202, 3) := by decide +kernel
theorem dX6_day_167 : decode cX6_day 167 = .ok (.goto 8, 3) := by decide +kernel
theorem dX6_day_170 : decode cX6_day 170 = .ok (.bipush (-100), 2) := by decide +kernel
theorem dX6_day_172 : decode cX6_day 172 = .ok (.iload 8, 2) := by decide +kernel
theorem dX6_day_174 : decode cX6_day 174 = .ok (.isub, 1) := by decide +kernel
theorem dX6_day_175 : decode cX6_day 175 = .ok (.ireturn, 1) := by decide +kernel
theorem dX6_least_0 : decode cX6_least 0 = .ok (.aload_n 0, 1) := by decide +kernel
theorem dX6_least_1 : decode cX6_least 1 = .ok (.invokevirtual 142, 3) := by decide +kernel
theorem dX6_least_4 : decode cX6_least 4 = .ok (.ifCond .eq 6, 3) := by decide +kernel
theorem dX6_least_7 : decode cX6_least 7 = .ok (.bipush (-3), 2) := by decide +kernel
theorem dX6_least_9 : decode cX6_least 9 = .ok (.ireturn, 1) := by decide +kernel
theorem dX6_least_10 : decode cX6_least 10 = .ok (.iload_n 1, 1) := by decide +kernel
theorem dX6_least_11 : decode cX6_least 11 = .ok (.ifCond .lt 8, 3) := by decide +kernel
theorem dX6_least_14 : decode cX6_least 14 = .ok (.iload_n 1, 1) := by decide +kernel
theorem dX6_least_15 : decode cX6_least 15 = .ok (.iconst 1, 1) := by decide +kernel
theorem dX6_least_16 : decode cX6_least 16 = .ok (.if_icmp .le 6, 3) := by decide +kernel
theorem dX6_least_19 : decode cX6_least 19 = .ok (.bipush (-2), 2) := by decide +kernel
theorem dX6_least_21 : decode cX6_least 21 = .ok (.ireturn, 1) := by decide +kernel
theorem dX6_least_22 : decode cX6_least 22 = .ok (.aload_n 0, 1) := by decide +kernel
theorem dX6_least_23 : decode cX6_least 23 = .ok (.getfield 20, 3) := by decide +kernel
theorem dX6_least_26 : decode cX6_least 26 = .ok (.invokevirtual 205, 3) := by decide +kernel
theorem dX6_least_29 : decode cX6_least 29 = .ok (.istore_n 2, 1) := by decide +kernel
theorem dX6_least_30 : decode cX6_least 30 = .ok (.iload_n 2, 1) := by decide +kernel
theorem dX6_least_31 : decode cX6_least 31 = .ok (.bipush (-9), 2) := by decide +kernel
theorem dX6_least_33 : decode cX6_least 33 = .ok (.if_icmp .eq 8, 3) := by decide +kernel
theorem dX6_least_36 : decode cX6_least 36 = .ok (.iload_n 1, 1) := by decide +kernel
theorem dX6_least_37 : decode cX6_least 37 = .ok (.iconst 1, 1) := by decide +kernel
theorem dX6_least_38 : decode cX6_least 38 = .ok (.if_icmp .ne 5, 3) := by decide +kernel
theorem dX6_least_41 : decode cX6_least 41 = .ok (.iload_n 2, 1) := by decide +kernel
theorem dX6_least_42 : decode cX6_least 42 = .ok (.ireturn, 1) := by decide +kernel
theorem dX6_least_43 : decode cX6_least 43 = .ok (.aload_n 0, 1) := by decide +kernel
theorem dX6_least_44 : decode cX6_least 44 = .ok (.getfield 20, 3) := by decide +kernel
theorem dX6_least_47 : decode cX6_least 47 = .ok (.iload_n 2, 1) := by decide +kernel
theorem dX6_least_48 : decode cX6_least 48 = .ok (.invokevirtual 208, 3) := by decide +kernel
theorem dX6_least_51 : decode cX6_least 51 = .ok (.ireturn, 1) := by decide +kernel
theorem dX6_apart_0 : decode cX6_apart 0 = .ok (.aload_n 0, 1) := by decide +kernel
theorem dX6_apart_1 : decode cX6_apart 1 = .ok (.iload_n 1, 1) := by decide +kernel
theorem dX6_apart_2 : decode cX6_apart 2 = .ok (.invokevirtual 102, 3) := by decide +kernel
theorem dX6_apart_5 : decode cX6_apart 5 = .ok (.ifCond .eq 16, 3) := by decide +kernel
theorem dX6_apart_8 : decode cX6_apart 8 = .ok (.aload_n 0, 1) := by decide +kernel
theorem dX6_apart_9 : decode cX6_apart 9 = .ok (.iload_n 2, 1) := by decide +kernel
theorem dX6_apart_10 : decode cX6_apart 10 = .ok (.invokevirtual 102, 3) := by decide +kernel
theorem dX6_apart_13 : decode cX6_apart 13 = .ok (.ifCond .eq 8, 3) := by decide +kernel
theorem dX6_apart_16 : decode cX6_apart 16 = .ok (.iload_n 1, 1) := by decide +kernel
theorem dX6_apart_17 : decode cX6_apart 17 = .ok (.iload_n 2, 1) := by decide +kernel
theorem dX6_apart_18 : decode cX6_apart 18 = .ok (.if_icmp .ne 5, 3) := by decide +kernel
theorem dX6_apart_21 : decode cX6_apart 21 = .ok (.iconst (-1), 1) := by decide +kernel
theorem dX6_apart_22 : decode cX6_apart 22 = .ok (.ireturn, 1) := by decide +kernel
theorem dX6_apart_23 : decode cX6_apart 23 = .ok (.bipush 6, 2) := by decide +kernel
theorem dX6_apart_25 : decode cX6_apart 25 = .ok (.istore_n 3, 1) := by decide +kernel
theorem dX6_apart_26 : decode cX6_apart 26 = .ok (.iconst 0, 1) := by decide +kernel
theorem dX6_apart_27 : decode cX6_apart 27 = .ok (.istore 4, 2) := by decide +kernel
theorem dX6_apart_29 : decode cX6_apart 29 = .ok (.iload 4, 2) := by decide +kernel
theorem dX6_apart_31 : decode cX6_apart 31 = .ok (.aload_n 0, 1) := by decide +kernel
theorem dX6_apart_32 : decode cX6_apart 32 = .ok (.getfield 20, 3) := by decide +kernel
theorem dX6_apart_35 : decode cX6_apart 35 = .ok (.invokevirtual 211, 3) := by decide +kernel
theorem dX6_apart_38 : decode cX6_apart 38 = .ok (.if_icmp .gt 42, 3) := by decide +kernel
theorem dX6_apart_41 : decode cX6_apart 41 = .ok (.iload 4, 2) := by decide +kernel
theorem dX6_apart_43 : decode cX6_apart 43 = .ok (.iload_n 1, 1) := by decide +kernel
theorem dX6_apart_44 : decode cX6_apart 44 = .ok (.ishr, 1) := by decide +kernel
end
section
theorem dX6_apart_45 : decode cX6_apart 45 = .ok (.iconst 1, 1) := by decide +kernel
theorem dX6_apart_46 : decode cX6_apart 46 = .ok (.iand, 1) := by decide +kernel
theorem dX6_apart_47 : decode cX6_apart 47 = .ok (.ifCond .ne 27, 3) := by decide +kernel
theorem dX6_apart_50 : decode cX6_apart 50 = .ok (.iload 4, 2) := by decide +kernel
theorem dX6_apart_52 : decode cX6_apart 52 = .ok (.iload_n 2, 1) := by decide +kernel
theorem dX6_apart_53 : decode cX6_apart 53 = .ok (.ishr, 1) := by decide +kernel
theorem dX6_apart_54 : decode cX6_apart 54 = .ok (.iconst 1, 1) := by decide +kernel
theorem dX6_apart_55 : decode cX6_apart 55 = .ok (.iand, 1) := by decide +kernel
theorem dX6_apart_56 : decode cX6_apart 56 = .ok (.iconst 1, 1) := by decide +kernel
theorem dX6_apart_57 : decode cX6_apart 57 = .ok (.if_icmp .ne 17, 3) := by decide +kernel
theorem dX6_apart_60 : decode cX6_apart 60 = .ok (.iload_n 3, 1) := by decide +kernel
theorem dX6_apart_61 : decode cX6_apart 61 = .ok (.aload_n 0, 1) := by decide +kernel
theorem dX6_apart_62 : decode cX6_apart 62 = .ok (.getfield 20, 3) := by decide +kernel
theorem dX6_apart_65 : decode cX6_apart 65 = .ok (.iload 4, 2) := by decide +kernel
theorem dX6_apart_67 : decode cX6_apart 67 = .ok (.invokevirtual 208, 3) := by decide +kernel
theorem dX6_apart_70 : decode cX6_apart 70 = .ok (.invokestatic 214, 3) := by decide +kernel
theorem dX6_apart_73 : decode cX6_apart 73 = .ok (.istore_n 3, 1) := by decide +kernel
theorem dX6_apart_74 : decode cX6_apart 74 = .ok (.iinc 4 1, 3) := by decide +kernel
theorem dX6_apart_77 : decode cX6_apart 77 = .ok (.goto (-48), 3) := by decide +kernel
theorem dX6_apart_80 : decode cX6_apart 80 = .ok (.iload_n 3, 1) := by decide +kernel
theorem dX6_apart_81 : decode cX6_apart 81 = .ok (.ireturn, 1) := by decide +kernel
theorem dX6_closest_0 : decode cX6_closest 0 = .ok (.aload_n 0, 1) := by decide +kernel
theorem dX6_closest_1 : decode cX6_closest 1 = .ok (.getfield 20, 3) := by decide +kernel
theorem dX6_closest_4 : decode cX6_closest 4 = .ok (.getfield 99, 3) := by decide +kernel
theorem dX6_closest_7 : decode cX6_closest 7 = .ok (.iconst 2, 1) := by decide +kernel
theorem dX6_closest_8 : decode cX6_closest 8 = .ok (.if_icmp .ge 6, 3) := by decide +kernel
theorem dX6_closest_11 : decode cX6_closest 11 = .ok (.bipush (-3), 2) := by decide +kernel
theorem dX6_closest_13 : decode cX6_closest 13 = .ok (.ireturn, 1) := by decide +kernel
theorem dX6_closest_14 : decode cX6_closest 14 = .ok (.iload_n 1, 1) := by decide +kernel
theorem dX6_closest_15 : decode cX6_closest 15 = .ok (.ifCond .lt 8, 3) := by decide +kernel
theorem dX6_closest_18 : decode cX6_closest 18 = .ok (.iload_n 1, 1) := by decide +kernel
theorem dX6_closest_19 : decode cX6_closest 19 = .ok (.iconst 2, 1) := by decide +kernel
theorem dX6_closest_20 : decode cX6_closest 20 = .ok (.if_icmp .le 6, 3) := by decide +kernel
theorem dX6_closest_23 : decode cX6_closest 23 = .ok (.bipush (-2), 2) := by decide +kernel
theorem dX6_closest_25 : decode cX6_closest 25 = .ok (.ireturn, 1) := by decide +kernel
theorem dX6_closest_26 : decode cX6_closest 26 = .ok (.iconst (-1), 1) := by decide +kernel
theorem dX6_closest_27 : decode cX6_closest 27 = .ok (.istore_n 2, 1) := by decide +kernel
theorem dX6_closest_28 : decode cX6_closest 28 = .ok (.iconst 0, 1) := by decide +kernel
theorem dX6_closest_29 : decode cX6_closest 29 = .ok (.istore_n 3, 1) := by decide +kernel
theorem dX6_closest_30 : decode cX6_closest 30 = .ok (.iconst 0, 1) := by decide +kernel
theorem dX6_closest_31 : decode cX6_closest 31 = .ok (.istore 4, 2) := by decide +kernel
theorem dX6_closest_33 : decode cX6_closest 33 = .ok (.iconst 0, 1) := by decide +kernel
theorem dX6_closest_34 : decode cX6_closest 34 = .ok (.istore 5, 2) := by decide +kernel
theorem dX6_closest_36 : decode cX6_closest 36 = .ok (.iload 5, 2) := by decide +kernel
theorem dX6_closest_38 : decode cX6_closest 38 = .ok (.aload_n 0, 1) := by decide +kernel
theorem dX6_closest_39 : decode cX6_closest 39 = .ok (.getfield 20, 3) := by decide +kernel
theorem dX6_closest_42 : decode cX6_closest 42 = .ok (.getfield 99, 3) := by decide +kernel
theorem dX6_closest_45 : decode cX6_closest 45 = .ok (.if_icmp .ge 73, 3) := by decide +kernel
theorem dX6_closest_48 : decode cX6_closest 48 = .ok (.iload 5, 2) := by decide +kernel
theorem dX6_closest_50 : decode cX6_closest 50 = .ok (.iconst 1, 1) := by decide +kernel
theorem dX6_closest_51 : decode cX6_closest 51 = .ok (.iadd, 1) := by decide +kernel
theorem dX6_closest_52 : decode cX6_closest 52 = .ok (.istore 6, 2) := by decide +kernel
theorem dX6_closest_54 : decode cX6_closest 54 = .ok (.iload 6, 2) := by decide +kernel
theorem dX6_closest_56 : decode cX6_closest 56 = .ok (.aload_n 0, 1) := by decide +kernel
theorem dX6_closest_57 : decode cX6_closest 57 = .ok (.getfield 20, 3) := by decide +kernel
theorem dX6_closest_60 : decode cX6_closest 60 = .ok (.getfield 99, 3) := by decide +kernel
theorem dX6_closest_63 : decode cX6_closest 63 = .ok (.if_icmp .ge 49, 3) := by decide +kernel
theorem dX6_closest_66 : decode cX6_closest 66 = .ok (.aload_n 0, 1) := by decide +kernel
theorem dX6_closest_67 : decode cX6_closest 67 = .ok (.getfield 20, 3) := by decide +kernel
theorem dX6_closest_70 : decode cX6_closest 70 = .ok (.iload 5, 2) := by decide +kernel
theorem dX6_closest_72 : decode cX6_closest 72 = .ok (.invokevirtual 121, 3) := by decide +kernel
theorem dX6_closest_75 : decode cX6_closest 75 = .ok (.aload_n 0, 1) := by decide +kernel
theorem dX6_closest_76 : decode cX6_closest 76 = .ok (.getfield 20, 3) := by decide +kernel
theorem dX6_closest_79 : decode cX6_closest 79 = .ok (.iload 6, 2) := by decide +kernel
theorem dX6_closest_81 : decode cX6_closest 81 = .ok (.invokevirtual 121, 3) := by decide +kernel
theorem dX6_closest_84 : decode cX6_closest 84 = .ok (.iand, 1) := by decide +kernel
theorem dX6_closest_85 : decode cX6_closest 85 = .ok (.invokestatic 220, 3) := by decide +kernel
theorem dX6_closest_88 : decode cX6_closest 88 = .ok (.istore 7, 2) := by decide +kernel
theorem dX6_closest_90 : decode cX6_closest 90 = .ok (.iload 7, 2) := by decide +kernel
theorem dX6_closest_92 : decode cX6_closest 92 = .ok (.iload_n 2, 1) := by decide +kernel
theorem dX6_closest_93 : decode cX6_closest 93 = .ok (.if_icmp .le 13, 3) := by decide +kernel
theorem dX6_closest_96 : decode cX6_closest 96 = .ok (.iload 7, 2) := by decide +kernel
theorem dX6_closest_98 : decode cX6_closest 98 = .ok (.istore_n 2, 1) := by decide +kernel
theorem dX6_closest_99 : decode cX6_closest 99 = .ok (.iload 5, 2) := by decide +kernel
theorem dX6_closest_101 : decode cX6_closest 101 = .ok (.istore_n 3, 1) := by decide +kernel
theorem dX6_closest_102 : decode cX6_closest 102 = .ok (.iload 6, 2) := by decide +kernel
theorem dX6_closest_104 : decode cX6_closest 104 = .ok (.istore 4, 2) := by decide +kernel
theorem dX6_closest_106 : decode cX6_closest 106 = .ok (.iinc 6 1, 3) := by decide +kernel
theorem dX6_closest_109 : decode cX6_closest 109 = .ok (.goto (-55), 3) := by decide +kernel
theorem dX6_closest_112 : decode cX6_closest 112 = .ok (.iinc 5 1, 3) := by decide +kernel
theorem dX6_closest_115 : decode cX6_closest 115 = .ok (.goto (-79), 3) := by decide +kernel
theorem dX6_closest_118 : decode cX6_closest 118 = .ok (.iload_n 1, 1) := by decide +kernel
theorem dX6_closest_119 : decode cX6_closest 119 = .ok (.ifCond .ne 5, 3) := by decide +kernel
theorem dX6_closest_122 : decode cX6_closest 122 = .ok (.iload_n 2, 1) := by decide +kernel
theorem dX6_closest_123 : decode cX6_closest 123 = .ok (.ireturn, 1) := by decide +kernel
theorem dX6_closest_124 : decode cX6_closest 124 = .ok (.iload_n 1, 1) := by decide +kernel
theorem dX6_closest_125 : decode cX6_closest 125 = .ok (.iconst 1, 1) := by decide +kernel
theorem dX6_closest_126 : decode cX6_closest 126 = .ok (.if_icmp .ne 7, 3) := by decide +kernel
theorem dX6_closest_129 : decode cX6_closest 129 = .ok (.iload_n 3, 1) := by decide +kernel
theorem dX6_closest_130 : decode cX6_closest 130 = .ok (.goto 5, 3) := by decide +kernel
theorem dX6_closest_133 : decode cX6_closest 133 = .ok (.iload 4, 2) := by decide +kernel
theorem dX6_closest_135 : decode cX6_closest 135 = .ok (.ireturn, 1) := by decide +kernel
theorem dX6_rack_0 : decode cX6_rack 0 = .ok (.aload_n 0, 1) := by decide +kernel
theorem dX6_rack_1 : decode cX6_rack 1 = .ok (.invokevirtual 142, 3) := by decide +kernel
theorem dX6_rack_4 : decode cX6_rack 4 = .ok (.ifCond .eq 10, 3) := by decide +kernel
theorem dX6_rack_7 : decode cX6_rack 7 = .ok (.aload_n 0, 1) := by decide +kernel
theorem dX6_rack_8 : decode cX6_rack 8 = .ok (.bipush (-3), 2) := by decide +kernel
theorem dX6_rack_10 : decode cX6_rack 10 = .ok (.invokevirtual 60, 3) := by decide +kernel
theorem dX6_rack_13 : decode cX6_rack 13 = .ok (.ireturn, 1) := by decide +kernel
theorem dX6_rack_14 : decode cX6_rack 14 = .ok (.iload_n 1, 1) := by decide +kernel
theorem dX6_rack_15 : decode cX6_rack 15 = .ok (.invokestatic 225, 3) := by decide +kernel
theorem dX6_rack_18 : decode cX6_rack 18 = .ok (.ifCond .eq 9, 3) := by decide +kernel
theorem dX6_rack_21 : decode cX6_rack 21 = .ok (.iload_n 2, 1) := by decide +kernel
theorem dX6_rack_22 : decode cX6_rack 22 = .ok (.bipush 9, 2) := by decide +kernel
theorem dX6_rack_24 : decode cX6_rack 24 = .ok (.if_icmp .le 10, 3) := by decide +kernel
theorem dX6_rack_27 : decode cX6_rack 27 = .ok (.aload_n 0, 1) := by decide +kernel
theorem dX6_rack_28 : decode cX6_rack 28 = .ok (.bipush (-2), 2) := by decide +kernel
theorem dX6_rack_30 : decode cX6_rack 30 = .ok (.invokevirtual 60, 3) := by decide +kernel
theorem dX6_rack_33 : decode cX6_rack 33 = .ok (.ireturn, 1) := by decide +kernel
theorem dX6_rack_34 : decode cX6_rack 34 = .ok (.iload_n 2, 1) := by decide +kernel
theorem dX6_rack_35 : decode cX6_rack 35 = .ok (.ifCond .ge 9, 3) := by decide +kernel
theorem dX6_rack_38 : decode cX6_rack 38 = .ok (.aload_n 0, 1) := by decide +kernel
theorem dX6_rack_39 : decode cX6_rack 39 = .ok (.iconst 4, 1) := by decide +kernel
theorem dX6_rack_40 : decode cX6_rack 40 = .ok (.invokevirtual 74, 3) := by decide +kernel
theorem dX6_rack_43 : decode cX6_rack 43 = .ok (.ireturn, 1) := by decide +kernel
theorem dX6_rack_44 : decode cX6_rack 44 = .ok (.aload_n 0, 1) := by decide +kernel
theorem dX6_rack_45 : decode cX6_rack 45 = .ok (.iconst 0, 1) := by decide +kernel
theorem dX6_rack_46 : decode cX6_rack 46 = .ok (.putfield 77, 3) := by decide +kernel
theorem dX6_rack_49 : decode cX6_rack 49 = .ok (.aload_n 0, 1) := by decide +kernel
theorem dX6_rack_50 : decode cX6_rack 50 = .ok (.getfield 44, 3) := by decide +kernel
theorem dX6_rack_53 : decode cX6_rack 53 = .ok (.iload_n 1, 1) := by decide +kernel
theorem dX6_rack_54 : decode cX6_rack 54 = .ok (.iload_n 2, 1) := by decide +kernel
theorem dX6_rack_55 : decode cX6_rack 55 = .ok (.invokevirtual 228, 3) := by decide +kernel
theorem dX6_rack_58 : decode cX6_rack 58 = .ok (.iload_n 2, 1) := by decide +kernel
theorem dX6_rack_59 : decode cX6_rack 59 = .ok (.ireturn, 1) := by decide +kernel
theorem dX6_stow_0 : decode cX6_stow 0 = .ok (.aload_n 0, 1) := by decide +kernel
theorem dX6_stow_1 : decode cX6_stow 1 = .ok (.iload_n 2, 1) := by decide +kernel
theorem dX6_stow_2 : decode cX6_stow 2 = .ok (.invokevirtual 102, 3) := by decide +kernel
theorem dX6_stow_5 : decode cX6_stow 5 = .ok (.ifCond .ne 9, 3) := by decide +kernel
theorem dX6_stow_8 : decode cX6_stow 8 = .ok (.aload_n 0, 1) := by decide +kernel
theorem dX6_stow_9 : decode cX6_stow 9 = .ok (.iconst (-1), 1) := by decide +kernel
theorem dX6_stow_10 : decode cX6_stow 10 = .ok (.invokevirtual 60, 3) := by decide +kernel
theorem dX6_stow_13 : decode cX6_stow 13 = .ok (.ireturn, 1) := by decide +kernel
theorem dX6_stow_14 : decode cX6_stow 14 = .ok (.aload_n 0, 1) := by decide +kernel
theorem dX6_stow_15 : decode cX6_stow 15 = .ok (.getfield 44, 3) := by decide +kernel
theorem dX6_stow_18 : decode cX6_stow 18 = .ok (.iload_n 1, 1) := by decide +kernel
theorem dX6_stow_19 : decode cX6_stow 19 = .ok (.invokevirtual 232, 3) := by decide +kernel
theorem dX6_stow_22 : decode cX6_stow 22 = .ok (.istore_n 3, 1) := by decide +kernel
theorem dX6_stow_23 : decode cX6_stow 23 = .ok (.iload_n 3, 1) := by decide +kernel
theorem dX6_stow_24 : decode cX6_stow 24 = .ok (.ifCond .ne 20, 3) := by decide +kernel
theorem dX6_stow_27 : decode cX6_stow 27 = .ok (.aload_n 0, 1) := by decide +kernel
theorem dX6_stow_28 : decode cX6_stow 28 = .ok (.iload_n 2, 1) := by decide +kernel
theorem dX6_stow_29 : decode cX6_stow 29 = .ok (.aload_n 0, 1) := by decide +kernel
theorem dX6_stow_30 : decode cX6_stow 30 = .ok (.getfield 44, 3) := by decide +kernel
theorem dX6_stow_33 : decode cX6_stow 33 = .ok (.getfield 235, 3) := by decide +kernel
theorem dX6_stow_36 : decode cX6_stow 36 = .ok (.invokevirtual 237, 3) := by decide +kernel
theorem dX6_stow_39 : decode cX6_stow 39 = .ok (.ifCond .ne 5, 3) := by decide +kernel
theorem dX6_stow_42 : decode cX6_stow 42 = .ok (.iconst 5, 1) := by decide +kernel
theorem dX6_stow_43 : decode cX6_stow 43 = .ok (.istore_n 3, 1) := by decide +kernel
theorem dX6_stow_44 : decode cX6_stow 44 = .ok (.iload_n 3, 1) := by decide +kernel
theorem dX6_stow_45 : decode cX6_stow 45 = .ok (.ifCond .eq 9, 3) := by decide +kernel
theorem dX6_stow_48 : decode cX6_stow 48 = .ok (.aload_n 0, 1) := by decide +kernel
theorem dX6_stow_49 : decode cX6_stow 49 = .ok (.iload_n 3, 1) := by decide +kernel
theorem dX6_stow_50 : decode cX6_stow 50 = .ok (.invokevirtual 74, 3) := by decide +kernel
theorem dX6_stow_53 : decode cX6_stow 53 = .ok (.ireturn, 1) := by decide +kernel
theorem dX6_stow_54 : decode cX6_stow 54 = .ok (.aload_n 0, 1) := by decide +kernel
theorem dX6_stow_55 : decode cX6_stow 55 = .ok (.iconst 0, 1) := by decide +kernel
theorem dX6_stow_56 : decode cX6_stow 56 = .ok (.putfield 77, 3) := by decide +kernel
theorem dX6_stow_59 : decode cX6_stow 59 = .ok (.aload_n 0, 1) := by decide +kernel
theorem dX6_stow_60 : decode cX6_stow 60 = .ok (.getfield 44, 3) := by decide +kernel
theorem dX6_stow_63 : decode cX6_stow 63 = .ok (.getfield 240, 3) := by decide +kernel
theorem dX6_stow_66 : decode cX6_stow 66 = .ok (.iload_n 1, 1) := by decide +kernel
theorem dX6_stow_67 : decode cX6_stow 67 = .ok (.iload_n 2, 1) := by decide +kernel
theorem dX6_stow_68 : decode cX6_stow 68 = .ok (.iastore, 1) := by decide +kernel
theorem dX6_stow_69 : decode cX6_stow 69 = .ok (.iconst 1, 1) := by decide +kernel
theorem dX6_stow_70 : decode cX6_stow 70 = .ok (.ireturn, 1) := by decide +kernel
theorem dX6_stowed_0 : decode cX6_stowed 0 = .ok (.aload_n 0, 1) := by decide +kernel
theorem dX6_stowed_1 : decode cX6_stowed 1 = .ok (.getfield 44, 3) := by decide +kernel
theorem dX6_stowed_4 : decode cX6_stowed 4 = .ok (.iload_n 1, 1) := by decide +kernel
theorem dX6_stowed_5 : decode cX6_stowed 5 = .ok (.invokevirtual 232, 3) := by decide +kernel
theorem dX6_stowed_8 : decode cX6_stowed 8 = .ok (.istore_n 2, 1) := by decide +kernel
theorem dX6_stowed_9 : decode cX6_stowed 9 = .ok (.iload_n 2, 1) := by decide +kernel
theorem dX6_stowed_10 : decode cX6_stowed 10 = .ok (.ifCond .eq 9, 3) := by decide +kernel
theorem dX6_stowed_13 : decode cX6_stowed 13 = .ok (.aload_n 0, 1) := by decide +kernel
theorem dX6_stowed_14 : decode cX6_stowed 14 = .ok (.iload_n 2, 1) := by decide +kernel
theorem dX6_stowed_15 : decode cX6_stowed 15 = .ok (.invokevirtual 74, 3) := by decide +kernel
theorem dX6_stowed_18 : decode cX6_stowed 18 = .ok (.ireturn, 1) := by decide +kernel
theorem dX6_stowed_19 : decode cX6_stowed 19 = .ok (.aload_n 0, 1) := by decide +kernel
theorem dX6_stowed_20 : decode cX6_stowed 20 = .ok (.iconst 0, 1) := by decide +kernel
theorem dX6_stowed_21 : decode cX6_stowed 21 = .ok (.putfield 77, 3) := by decide +kernel
theorem dX6_stowed_24 : decode cX6_stowed 24 = .ok (.aload_n 0, 1) := by decide +kernel
theorem dX6_stowed_25 : decode cX6_stowed 25 = .ok (.getfield 44, 3) := by decide +kernel
theorem dX6_stowed_28 : decode cX6_stowed 28 = .ok (.getfield 240, 3) := by decide +kernel
theorem dX6_stowed_31 : decode cX6_stowed 31 = .ok (.iload_n 1, 1) := by decide +kernel
theorem dX6_stowed_32 : decode cX6_stowed 32 = .ok (.iaload, 1) := by decide +kernel
theorem dX6_stowed_33 : decode cX6_stowed 33 = .ok (.ireturn, 1) := by decide +kernel
theorem dX6_reading_0 : decode cX6_reading 0 = .ok (.aload_n 0, 1) := by decide +kernel
theorem dX6_reading_1 : decode cX6_reading 1 = .ok (.iload_n 1, 1) := by decide +kernel
theorem dX6_reading_2 : decode cX6_reading 2 = .ok (.invokevirtual 102, 3) := by decide +kernel
theorem dX6_reading_5 : decode cX6_reading 5 = .ok (.ifCond .ne 5, 3) := by decide +kernel
theorem dX6_reading_8 : decode cX6_reading 8 = .ok (.iconst (-1), 1) := by decide +kernel
theorem dX6_reading_9 : decode cX6_reading 9 = .ok (.ireturn, 1) := by decide +kernel
theorem dX6_reading_10 : decode cX6_reading 10 = .ok (.iload_n 2, 1) := by decide +kernel
theorem dX6_reading_11 : decode cX6_reading 11 = .ok (.ifCond .lt 9, 3) := by decide +kernel
theorem dX6_reading_14 : decode cX6_reading 14 = .ok (.iload_n 2, 1) := by decide +kernel
theorem dX6_reading_15 : decode cX6_reading 15 = .ok (.ldc 164, 2) := by decide +kernel
theorem dX6_reading_17 : decode cX6_reading 17 = .ok (.if_icmp .le 6, 3) := by decide +kernel
theorem dX6_reading_20 : decode cX6_reading 20 = .ok (.bipush (-2), 2) := by decide +kernel
theorem dX6_reading_22 : decode cX6_reading 22 = .ok (.ireturn, 1) := by decide +kernel
theorem dX6_reading_23 : decode cX6_reading 23 = .ok (.aload_n 0, 1) := by decide +kernel
theorem dX6_reading_24 : decode cX6_reading 24 = .ok (.getfield 51, 3) := by decide +kernel
theorem dX6_reading_27 : decode cX6_reading 27 = .ok (.getfield 96, 3) := by decide +kernel
theorem dX6_reading_30 : decode cX6_reading 30 = .ok (.bipush 8, 2) := by decide +kernel
theorem dX6_reading_32 : decode cX6_reading 32 = .ok (.if_icmp .lt 6, 3) := by decide +kernel
theorem dX6_reading_35 : decode cX6_reading 35 = .ok (.bipush (-4), 2) := by decide +kernel
theorem dX6_reading_37 : decode cX6_reading 37 = .ok (.ireturn, 1) := by decide +kernel
theorem dX6_reading_38 : decode cX6_reading 38 = .ok (.aload_n 0, 1) := by decide +kernel
theorem dX6_reading_39 : decode cX6_reading 39 = .ok (.getfield 51, 3) := by decide +kernel
theorem dX6_reading_42 : decode cX6_reading 42 = .ok (.iload_n 1, 1) := by decide +kernel
theorem dX6_reading_43 : decode cX6_reading 43 = .ok (.iload_n 2, 1) := by decide +kernel
theorem dX6_reading_44 : decode cX6_reading 44 = .ok (.invokevirtual 243, 3) := by decide +kernel
theorem dX6_reading_47 : decode cX6_reading 47 = .ok (.ireturn, 1) := by decide +kernel
theorem dX6_back_0 : decode cX6_back 0 = .ok (.iload_n 1, 1) := by decide +kernel
theorem dX6_back_1 : decode cX6_back 1 = .ok (.ifCond .lt 14, 3) := by decide +kernel
theorem dX6_back_4 : decode cX6_back 4 = .ok (.iload_n 1, 1) := by decide +kernel
theorem dX6_back_5 : decode cX6_back 5 = .ok (.aload_n 0, 1) := by decide +kernel
theorem dX6_back_6 : decode cX6_back 6 = .ok (.getfield 51, 3) := by decide +kernel
theorem dX6_back_9 : decode cX6_back 9 = .ok (.getfield 96, 3) := by decide +kernel
theorem dX6_back_12 : decode cX6_back 12 = .ok (.if_icmp .le 6, 3) := by decide +kernel
theorem dX6_back_15 : decode cX6_back 15 = .ok (.bipush (-2), 2) := by decide +kernel
theorem dX6_back_17 : decode cX6_back 17 = .ok (.ireturn, 1) := by decide +kernel
theorem dX6_back_18 : decode cX6_back 18 = .ok (.aload_n 0, 1) := by decide +kernel
theorem dX6_back_19 : decode cX6_back 19 = .ok (.getfield 51, 3) := by decide +kernel
theorem dX6_back_22 : decode cX6_back 22 = .ok (.dup, 1) := by decide +kernel
theorem dX6_back_23 : decode cX6_back 23 = .ok (.getfield 96, 3) := by decide +kernel
theorem dX6_back_26 : decode cX6_back 26 = .ok (.iload_n 1, 1) := by decide +kernel
theorem dX6_back_27 : decode cX6_back 27 = .ok (.isub, 1) := by decide +kernel
theorem dX6_back_28 : decode cX6_back 28 = .ok (.putfield 96, 3) := by decide +kernel
theorem dX6_back_31 : decode cX6_back 31 = .ok (.aload_n 0, 1) := by decide +kernel
theorem dX6_back_32 : decode cX6_back 32 = .ok (.getfield 51, 3) := by decide +kernel
theorem dX6_back_35 : decode cX6_back 35 = .ok (.getfield 96, 3) := by decide +kernel
theorem dX6_back_38 : decode cX6_back 38 = .ok (.ireturn, 1) := by decide +kernel
theorem dX6_kinds_0 : decode cX6_kinds 0 = .ok (.aload_n 0, 1) := by decide +kernel
theorem dX6_kinds_1 : decode cX6_kinds 1 = .ok (.iload_n 1, 1) := by decide +kernel
theorem dX6_kinds_2 : decode cX6_kinds 2 = .ok (.invokevirtual 102, 3) := by decide +kernel
theorem dX6_kinds_5 : decode cX6_kinds 5 = .ok (.ifCond .ne 5, 3) := by decide +kernel
theorem dX6_kinds_8 : decode cX6_kinds 8 = .ok (.iconst (-1), 1) := by decide +kernel
theorem dX6_kinds_9 : decode cX6_kinds 9 = .ok (.ireturn, 1) := by decide +kernel
theorem dX6_kinds_10 : decode cX6_kinds 10 = .ok (.aload_n 0, 1) := by decide +kernel
theorem dX6_kinds_11 : decode cX6_kinds 11 = .ok (.getfield 24, 3) := by decide +kernel
theorem dX6_kinds_14 : decode cX6_kinds 14 = .ok (.aload_n 0, 1) := by decide +kernel
theorem dX6_kinds_15 : decode cX6_kinds 15 = .ok (.getfield 20, 3) := by decide +kernel
theorem dX6_kinds_18 : decode cX6_kinds 18 = .ok (.invokevirtual 88, 3) := by decide +kernel
theorem dX6_kinds_21 : decode cX6_kinds 21 = .ok (.iconst 0, 1) := by decide +kernel
theorem dX6_kinds_22 : decode cX6_kinds 22 = .ok (.istore_n 2, 1) := by decide +kernel
theorem dX6_kinds_23 : decode cX6_kinds 23 = .ok (.iconst 0, 1) := by decide +kernel
theorem dX6_kinds_24 : decode cX6_kinds 24 = .ok (.istore_n 3, 1) := by decide +kernel
theorem dX6_kinds_25 : decode cX6_kinds 25 = .ok (.iload_n 3, 1) := by decide +kernel
theorem dX6_kinds_26 : decode cX6_kinds 26 = .ok (.iconst 2, 1) := by decide +kernel
theorem dX6_kinds_27 : decode cX6_kinds 27 = .ok (.if_icmp .gt 47, 3) := by decide +kernel
theorem dX6_kinds_30 : decode cX6_kinds 30 = .ok (.aload_n 0, 1) := by decide +kernel
theorem dX6_kinds_31 : decode cX6_kinds 31 = .ok (.getfield 24, 3) := by decide +kernel
theorem dX6_kinds_34 : decode cX6_kinds 34 = .ok (.iload_n 1, 1) := by decide +kernel
theorem dX6_kinds_35 : decode cX6_kinds 35 = .ok (.iload_n 3, 1) := by decide +kernel
theorem dX6_kinds_36 : decode cX6_kinds 36 = .ok (.aload_n 0, 1) := by decide +kernel
theorem dX6_kinds_37 : decode cX6_kinds 37 = .ok (.getfield 20, 3) := by decide +kernel
theorem dX6_kinds_40 : decode cX6_kinds 40 = .ok (.getfield 109, 3) := by decide +kernel
theorem dX6_kinds_43 : decode cX6_kinds 43 = .ok (.iload_n 1, 1) := by decide +kernel
theorem dX6_kinds_44 : decode cX6_kinds 44 = .ok (.iaload, 1) := by decide +kernel
theorem dX6_kinds_45 : decode cX6_kinds 45 = .ok (.invokevirtual 159, 3) := by decide +kernel
theorem dX6_kinds_48 : decode cX6_kinds 48 = .ok (.aload_n 0, 1) := by decide +kernel
theorem dX6_kinds_49 : decode cX6_kinds 49 = .ok (.getfield 51, 3) := by decide +kernel
theorem dX6_kinds_52 : decode cX6_kinds 52 = .ok (.aload_n 0, 1) := by decide +kernel
theorem dX6_kinds_53 : decode cX6_kinds 53 = .ok (.getfield 24, 3) := by decide +kernel
theorem dX6_kinds_56 : decode cX6_kinds 56 = .ok (.invokevirtual 246, 3) := by decide +kernel
theorem dX6_kinds_59 : decode cX6_kinds 59 = .ok (.ifCond .eq 9, 3) := by decide +kernel
theorem dX6_kinds_62 : decode cX6_kinds 62 = .ok (.iload_n 2, 1) := by decide +kernel
theorem dX6_kinds_63 : decode cX6_kinds 63 = .ok (.iconst 1, 1) := by decide +kernel
theorem dX6_kinds_64 : decode cX6_kinds 64 = .ok (.iload_n 3, 1) := by decide +kernel
theorem dX6_kinds_65 : decode cX6_kinds 65 = .ok (.ishl, 1) := by decide +kernel
theorem dX6_kinds_66 : decode cX6_kinds 66 = .ok (.ior, 1) := by decide +kernel
theorem dX6_kinds_67 : decode cX6_kinds 67 = .ok (.istore_n 2, 1) := by decide +kernel
theorem dX6_kinds_68 : decode cX6_kinds 68 = .ok (.iinc 3 1, 3) := by decide +kernel
theorem dX6_kinds_71 : decode cX6_kinds 71 = .ok (.goto (-46), 3) := by decide +kernel
theorem dX6_kinds_74 : decode cX6_kinds 74 = .ok (.iload_n 2, 1) := by decide +kernel
theorem dX6_kinds_75 : decode cX6_kinds 75 = .ok (.ireturn, 1) := by decide +kernel
theorem dX6_bulks_0 : decode cX6_bulks 0 = .ok (.aload_n 0, 1) := by decide +kernel
theorem dX6_bulks_1 : decode cX6_bulks 1 = .ok (.iload_n 1, 1) := by decide +kernel
theorem dX6_bulks_2 : decode cX6_bulks 2 = .ok (.invokevirtual 102, 3) := by decide +kernel
theorem dX6_bulks_5 : decode cX6_bulks 5 = .ok (.ifCond .ne 5, 3) := by decide +kernel
theorem dX6_bulks_8 : decode cX6_bulks 8 = .ok (.iconst (-1), 1) := by decide +kernel
theorem dX6_bulks_9 : decode cX6_bulks 9 = .ok (.ireturn, 1) := by decide +kernel
theorem dX6_bulks_10 : decode cX6_bulks 10 = .ok (.aload_n 0, 1) := by decide +kernel
theorem dX6_bulks_11 : decode cX6_bulks 11 = .ok (.getfield 24, 3) := by decide +kernel
theorem dX6_bulks_14 : decode cX6_bulks 14 = .ok (.aload_n 0, 1) := by decide +kernel
theorem dX6_bulks_15 : decode cX6_bulks 15 = .ok (.getfield 20, 3) := by decide +kernel
theorem dX6_bulks_18 : decode cX6_bulks 18 = .ok (.invokevirtual 88, 3) := by decide +kernel
theorem dX6_bulks_21 : decode cX6_bulks 21 = .ok (.iconst 0, 1) := by decide +kernel
theorem dX6_bulks_22 : decode cX6_bulks 22 = .ok (.istore_n 2, 1) := by decide +kernel
theorem dX6_bulks_23 : decode cX6_bulks 23 = .ok (.iconst 1, 1) := by decide +kernel
theorem dX6_bulks_24 : decode cX6_bulks 24 = .ok (.istore_n 3, 1) := by decide +kernel
theorem dX6_bulks_25 : decode cX6_bulks 25 = .ok (.iload_n 3, 1) := by decide +kernel
theorem dX6_bulks_26 : decode cX6_bulks 26 = .ok (.bipush 9, 2) := by decide +kernel
theorem dX6_bulks_28 : decode cX6_bulks 28 = .ok (.if_icmp .gt 47, 3) := by decide +kernel
theorem dX6_bulks_31 : decode cX6_bulks 31 = .ok (.aload_n 0, 1) := by decide +kernel
theorem dX6_bulks_32 : decode cX6_bulks 32 = .ok (.getfield 24, 3) := by decide +kernel
theorem dX6_bulks_35 : decode cX6_bulks 35 = .ok (.iload_n 1, 1) := by decide +kernel
theorem dX6_bulks_36 : decode cX6_bulks 36 = .ok (.aload_n 0, 1) := by decide +kernel
theorem dX6_bulks_37 : decode cX6_bulks 37 = .ok (.getfield 20, 3) := by decide +kernel
theorem dX6_bulks_40 : decode cX6_bulks 40 = .ok (.getfield 105, 3) := by decide +kernel
theorem dX6_bulks_43 : decode cX6_bulks 43 = .ok (.iload_n 1, 1) := by decide +kernel
theorem dX6_bulks_44 : decode cX6_bulks 44 = .ok (.iaload, 1) := by decide +kernel
theorem dX6_bulks_45 : decode cX6_bulks 45 = .ok (.iload_n 3, 1) := by decide +kernel
theorem dX6_bulks_46 : decode cX6_bulks 46 = .ok (.invokevirtual 159, 3) := by decide +kernel
theorem dX6_bulks_49 : decode cX6_bulks 49 = .ok (.aload_n 0, 1) := by decide +kernel
theorem dX6_bulks_50 : decode cX6_bulks 50 = .ok (.getfield 51, 3) := by decide +kernel
theorem dX6_bulks_53 : decode cX6_bulks 53 = .ok (.aload_n 0, 1) := by decide +kernel
theorem dX6_bulks_54 : decode cX6_bulks 54 = .ok (.getfield 24, 3) := by decide +kernel
theorem dX6_bulks_57 : decode cX6_bulks 57 = .ok (.invokevirtual 246, 3) := by decide +kernel
theorem dX6_bulks_60 : decode cX6_bulks 60 = .ok (.ifCond .eq 9, 3) := by decide +kernel
theorem dX6_bulks_63 : decode cX6_bulks 63 = .ok (.iload_n 2, 1) := by decide +kernel
theorem dX6_bulks_64 : decode cX6_bulks 64 = .ok (.iconst 1, 1) := by decide +kernel
theorem dX6_bulks_65 : decode cX6_bulks 65 = .ok (.iload_n 3, 1) := by decide +kernel
theorem dX6_bulks_66 : decode cX6_bulks 66 = .ok (.ishl, 1) := by decide +kernel
theorem dX6_bulks_67 : decode cX6_bulks 67 = .ok (.ior, 1) := by decide +kernel
theorem dX6_bulks_68 : decode cX6_bulks 68 = .ok (.istore_n 2, 1) := by decide +kernel
theorem dX6_bulks_69 : decode cX6_bulks 69 = .ok (.iinc 3 1, 3) := by decide +kernel
theorem dX6_bulks_72 : decode cX6_bulks 72 = .ok (.goto (-47), 3) := by decide +kernel
theorem dX6_bulks_75 : decode cX6_bulks 75 = .ok (.iload_n 2, 1) := by decide +kernel
theorem dX6_bulks_76 : decode cX6_bulks 76 = .ok (.ireturn, 1) := by decide +kernel
theorem dX6_odds_0 : decode cX6_odds 0 = .ok (.aload_n 0, 1) := by decide +kernel
theorem dX6_odds_1 : decode cX6_odds 1 = .ok (.invokevirtual 142, 3) := by decide +kernel
theorem dX6_odds_4 : decode cX6_odds 4 = .ok (.ifCond .ne 22, 3) := by decide +kernel
theorem dX6_odds_7 : decode cX6_odds 7 = .ok (.iload_n 1, 1) := by decide +kernel
theorem dX6_odds_8 : decode cX6_odds 8 = .ok (.ifCond .lt 18, 3) := by decide +kernel
theorem dX6_odds_11 : decode cX6_odds 11 = .ok (.iload_n 1, 1) := by decide +kernel
theorem dX6_odds_12 : decode cX6_odds 12 = .ok (.bipush 6, 2) := by decide +kernel
theorem dX6_odds_14 : decode cX6_odds 14 = .ok (.if_icmp .gt 12, 3) := by decide +kernel
theorem dX6_odds_17 : decode cX6_odds 17 = .ok (.iload_n 2, 1) := by decide +kernel
theorem dX6_odds_18 : decode cX6_odds 18 = .ok (.ifCond .lt 8, 3) := by decide +kernel
theorem dX6_odds_21 : decode cX6_odds 21 = .ok (.iload_n 2, 1) := by decide +kernel
theorem dX6_odds_22 : decode cX6_odds 22 = .ok (.iconst 1, 1) := by decide +kernel
theorem dX6_odds_23 : decode cX6_odds 23 = .ok (.if_icmp .le 7, 3) := by decide +kernel
theorem dX6_odds_26 : decode cX6_odds 26 = .ok (.ldc2_w 250, 3) := by decide +kernel
theorem dX6_odds_29 : decode cX6_odds 29 = .ok (.lreturn, 1) := by decide +kernel
theorem dX6_odds_30 : decode cX6_odds 30 = .ok (.iconst 0, 1) := by decide +kernel
theorem dX6_odds_31 : decode cX6_odds 31 = .ok (.istore_n 3, 1) := by decide +kernel
theorem dX6_odds_32 : decode cX6_odds 32 = .ok (.iconst 0, 1) := by decide +kernel
theorem dX6_odds_33 : decode cX6_odds 33 = .ok (.istore 4, 2) := by decide +kernel
theorem dX6_odds_35 : decode cX6_odds 35 = .ok (.iconst 0, 1) := by decide +kernel
theorem dX6_odds_36 : decode cX6_odds 36 = .ok (.istore 5, 2) := by decide +kernel
theorem dX6_odds_38 : decode cX6_odds 38 = .ok (.iload 5, 2) := by decide +kernel
theorem dX6_odds_40 : decode cX6_odds 40 = .ok (.aload_n 0, 1) := by decide +kernel
theorem dX6_odds_41 : decode cX6_odds 41 = .ok (.getfield 20, 3) := by decide +kernel
theorem dX6_odds_44 : decode cX6_odds 44 = .ok (.invokevirtual 211, 3) := by decide +kernel
theorem dX6_odds_47 : decode cX6_odds 47 = .ok (.if_icmp .gt 40, 3) := by decide +kernel
theorem dX6_odds_50 : decode cX6_odds 50 = .ok (.aload_n 0, 1) := by decide +kernel
theorem dX6_odds_51 : decode cX6_odds 51 = .ok (.getfield 20, 3) := by decide +kernel
theorem dX6_odds_54 : decode cX6_odds 54 = .ok (.iload 5, 2) := by decide +kernel
theorem dX6_odds_56 : decode cX6_odds 56 = .ok (.invokevirtual 252, 3) := by decide +kernel
theorem dX6_odds_59 : decode cX6_odds 59 = .ok (.ifCond .eq 22, 3) := by decide +kernel
theorem dX6_odds_62 : decode cX6_odds 62 = .ok (.iinc 4 1, 3) := by decide +kernel
theorem dX6_odds_65 : decode cX6_odds 65 = .ok (.aload_n 0, 1) := by decide +kernel
theorem dX6_odds_66 : decode cX6_odds 66 = .ok (.getfield 20, 3) := by decide +kernel
theorem dX6_odds_69 : decode cX6_odds 69 = .ok (.iload 5, 2) := by decide +kernel
theorem dX6_odds_71 : decode cX6_odds 71 = .ok (.invokevirtual 208, 3) := by decide +kernel
theorem dX6_odds_74 : decode cX6_odds 74 = .ok (.iload_n 1, 1) := by decide +kernel
theorem dX6_odds_75 : decode cX6_odds 75 = .ok (.if_icmp .gt 6, 3) := by decide +kernel
theorem dX6_odds_78 : decode cX6_odds 78 = .ok (.iinc 3 1, 3) := by decide +kernel
theorem dX6_odds_81 : decode cX6_odds 81 = .ok (.iinc 5 1, 3) := by decide +kernel
theorem dX6_odds_84 : decode cX6_odds 84 = .ok (.goto (-46), 3) := by decide +kernel
theorem dX6_odds_87 : decode cX6_odds 87 = .ok (.iconst 0, 1) := by decide +kernel
theorem dX6_odds_88 : decode cX6_odds 88 = .ok (.istore 5, 2) := by decide +kernel
theorem dX6_odds_90 : decode cX6_odds 90 = .ok (.iload 5, 2) := by decide +kernel
theorem dX6_odds_92 : decode cX6_odds 92 = .ok (.bipush 7, 2) := by decide +kernel
theorem dX6_odds_94 : decode cX6_odds 94 = .ok (.if_icmp .ge 31, 3) := by decide +kernel
theorem dX6_odds_97 : decode cX6_odds 97 = .ok (.iload 4, 2) := by decide +kernel
theorem dX6_odds_99 : decode cX6_odds 99 = .ok (.iconst 1, 1) := by decide +kernel
theorem dX6_odds_100 : decode cX6_odds 100 = .ok (.if_icmp .le 25, 3) := by decide +kernel
theorem dX6_odds_103 : decode cX6_odds 103 = .ok (.iload_n 3, 1) := by decide +kernel
theorem dX6_odds_104 : decode cX6_odds 104 = .ok (.iconst 2, 1) := by decide +kernel
theorem dX6_odds_105 : decode cX6_odds 105 = .ok (.irem, 1) := by decide +kernel
theorem dX6_odds_106 : decode cX6_odds 106 = .ok (.ifCond .ne 19, 3) := by decide +kernel
theorem dX6_odds_109 : decode cX6_odds 109 = .ok (.iload_n 3, 1) := by decide +kernel
theorem dX6_odds_110 : decode cX6_odds 110 = .ok (.iconst 2, 1) := by decide +kernel
theorem dX6_odds_111 : decode cX6_odds 111 = .ok (.idiv, 1) := by decide +kernel
theorem dX6_odds_112 : decode cX6_odds 112 = .ok (.istore_n 3, 1) := by decide +kernel
theorem dX6_odds_113 : decode cX6_odds 113 = .ok (.iload 4, 2) := by decide +kernel
theorem dX6_odds_115 : decode cX6_odds 115 = .ok (.iconst 2, 1) := by decide +kernel
theorem dX6_odds_116 : decode cX6_odds 116 = .ok (.idiv, 1) := by decide +kernel
theorem dX6_odds_117 : decode cX6_odds 117 = .ok (.istore 4, 2) := by decide +kernel
theorem dX6_odds_119 : decode cX6_odds 119 = .ok (.iinc 5 1, 3) := by decide +kernel
theorem dX6_odds_122 : decode cX6_odds 122 = .ok (.goto (-32), 3) := by decide +kernel
theorem dX6_odds_125 : decode cX6_odds 125 = .ok (.iload_n 2, 1) := by decide +kernel
theorem dX6_odds_126 : decode cX6_odds 126 = .ok (.ifCond .ne 8, 3) := by decide +kernel
theorem dX6_odds_129 : decode cX6_odds 129 = .ok (.iload_n 3, 1) := by decide +kernel
theorem dX6_odds_130 : decode cX6_odds 130 = .ok (.i2l, 1) := by decide +kernel
theorem dX6_odds_131 : decode cX6_odds 131 = .ok (.goto 6, 3) := by decide +kernel
theorem dX6_odds_134 : decode cX6_odds 134 = .ok (.iload 4, 2) := by decide +kernel
theorem dX6_odds_136 : decode cX6_odds 136 = .ok (.i2l, 1) := by decide +kernel
theorem dX6_odds_137 : decode cX6_odds 137 = .ok (.lreturn, 1) := by decide +kernel
theorem dX6_sheet_0 : decode cX6_sheet 0 = .ok (.iload_n 1, 1) := by decide +kernel
theorem dX6_sheet_1 : decode cX6_sheet 1 = .ok (.invokestatic 56, 3) := by decide +kernel
theorem dX6_sheet_4 : decode cX6_sheet 4 = .ok (.ifCond .ne 9, 3) := by decide +kernel
theorem dX6_sheet_7 : decode cX6_sheet 7 = .ok (.aload_n 0, 1) := by decide +kernel
theorem dX6_sheet_8 : decode cX6_sheet 8 = .ok (.iconst (-1), 1) := by decide +kernel
theorem dX6_sheet_9 : decode cX6_sheet 9 = .ok (.invokevirtual 60, 3) := by decide +kernel
theorem dX6_sheet_12 : decode cX6_sheet 12 = .ok (.ireturn, 1) := by decide +kernel
theorem dX6_sheet_13 : decode cX6_sheet 13 = .ok (.iload_n 2, 1) := by decide +kernel
theorem dX6_sheet_14 : decode cX6_sheet 14 = .ok (.invokestatic 64, 3) := by decide +kernel
theorem dX6_sheet_17 : decode cX6_sheet 17 = .ok (.ifCond .eq 9, 3) := by decide +kernel
theorem dX6_sheet_20 : decode cX6_sheet 20 = .ok (.iload_n 3, 1) := by decide +kernel
theorem dX6_sheet_21 : decode cX6_sheet 21 = .ok (.bipush 60, 2) := by decide +kernel
theorem dX6_sheet_23 : decode cX6_sheet 23 = .ok (.if_icmp .le 10, 3) := by decide +kernel
theorem dX6_sheet_26 : decode cX6_sheet 26 = .ok (.aload_n 0, 1) := by decide +kernel
theorem dX6_sheet_27 : decode cX6_sheet 27 = .ok (.bipush (-2), 2) := by decide +kernel
theorem dX6_sheet_29 : decode cX6_sheet 29 = .ok (.invokevirtual 60, 3) := by decide +kernel
theorem dX6_sheet_32 : decode cX6_sheet 32 = .ok (.ireturn, 1) := by decide +kernel
theorem dX6_sheet_33 : decode cX6_sheet 33 = .ok (.iload_n 3, 1) := by decide +kernel
theorem dX6_sheet_34 : decode cX6_sheet 34 = .ok (.ifCond .ge 9, 3) := by decide +kernel
theorem dX6_sheet_37 : decode cX6_sheet 37 = .ok (.aload_n 0, 1) := by decide +kernel
theorem dX6_sheet_38 : decode cX6_sheet 38 = .ok (.iconst 4, 1) := by decide +kernel
theorem dX6_sheet_39 : decode cX6_sheet 39 = .ok (.invokevirtual 74, 3) := by decide +kernel
theorem dX6_sheet_42 : decode cX6_sheet 42 = .ok (.ireturn, 1) := by decide +kernel
theorem dX6_sheet_43 : decode cX6_sheet 43 = .ok (.aload_n 0, 1) := by decide +kernel
theorem dX6_sheet_44 : decode cX6_sheet 44 = .ok (.iconst 0, 1) := by decide +kernel
theorem dX6_sheet_45 : decode cX6_sheet 45 = .ok (.putfield 77, 3) := by decide +kernel
theorem dX6_sheet_48 : decode cX6_sheet 48 = .ok (.aload_n 0, 1) := by decide +kernel
theorem dX6_sheet_49 : decode cX6_sheet 49 = .ok (.getfield 13, 3) := by decide +kernel
theorem dX6_sheet_52 : decode cX6_sheet 52 = .ok (.iload_n 1, 1) := by decide +kernel
theorem dX6_sheet_53 : decode cX6_sheet 53 = .ok (.aaload, 1) := by decide +kernel
theorem dX6_sheet_54 : decode cX6_sheet 54 = .ok (.iload_n 2, 1) := by decide +kernel
theorem dX6_sheet_55 : decode cX6_sheet 55 = .ok (.iload_n 3, 1) := by decide +kernel
theorem dX6_sheet_56 : decode cX6_sheet 56 = .ok (.invokevirtual 255, 3) := by decide +kernel
theorem dX6_sheet_59 : decode cX6_sheet 59 = .ok (.iconst 1, 1) := by decide +kernel
theorem dX6_sheet_60 : decode cX6_sheet 60 = .ok (.ireturn, 1) := by decide +kernel
theorem dX6_lose_0 : decode cX6_lose 0 = .ok (.iload_n 1, 1) := by decide +kernel
theorem dX6_lose_1 : decode cX6_lose 1 = .ok (.invokestatic 56, 3) := by decide +kernel
theorem dX6_lose_4 : decode cX6_lose 4 = .ok (.ifCond .ne 5, 3) := by decide +kernel
theorem dX6_lose_7 : decode cX6_lose 7 = .ok (.iconst (-1), 1) := by decide +kernel
theorem dX6_lose_8 : decode cX6_lose 8 = .ok (.ireturn, 1) := by decide +kernel
theorem dX6_lose_9 : decode cX6_lose 9 = .ok (.aload_n 0, 1) := by decide +kernel
theorem dX6_lose_10 : decode cX6_lose 10 = .ok (.getfield 13, 3) := by decide +kernel
theorem dX6_lose_13 : decode cX6_lose 13 = .ok (.iload_n 1, 1) := by decide +kernel
theorem dX6_lose_14 : decode cX6_lose 14 = .ok (.aaload, 1) := by decide +kernel
theorem dX6_lose_15 : decode cX6_lose 15 = .ok (.getfield 256, 3) := by decide +kernel
theorem dX6_lose_18 : decode cX6_lose 18 = .ok (.iconst (-1), 1) := by decide +kernel
theorem dX6_lose_19 : decode cX6_lose 19 = .ok (.if_icmp .ne 7, 3) := by decide +kernel
theorem dX6_lose_22 : decode cX6_lose 22 = .ok (.iconst 0, 1) := by decide +kernel
theorem dX6_lose_23 : decode cX6_lose 23 = .ok (.goto 4, 3) := by decide +kernel
theorem dX6_lose_26 : decode cX6_lose 26 = .ok (.iconst 1, 1) := by decide +kernel
theorem dX6_lose_27 : decode cX6_lose 27 = .ok (.istore_n 2, 1) := by decide +kernel
theorem dX6_lose_28 : decode cX6_lose 28 = .ok (.aload_n 0, 1) := by decide +kernel
theorem dX6_lose_29 : decode cX6_lose 29 = .ok (.getfield 13, 3) := by decide +kernel
theorem dX6_lose_32 : decode cX6_lose 32 = .ok (.iload_n 1, 1) := by decide +kernel
theorem dX6_lose_33 : decode cX6_lose 33 = .ok (.aaload, 1) := by decide +kernel
theorem dX6_lose_34 : decode cX6_lose 34 = .ok (.iconst (-1), 1) := by decide +kernel
theorem dX6_lose_35 : decode cX6_lose 35 = .ok (.putfield 256, 3) := by decide +kernel
theorem dX6_lose_38 : decode cX6_lose 38 = .ok (.iload_n 2, 1) := by decide +kernel
theorem dX6_lose_39 : decode cX6_lose 39 = .ok (.ireturn, 1) := by decide +kernel
theorem dX6_put_0 : decode cX6_put 0 = .ok (.iload_n 1, 1) := by decide +kernel
theorem dX6_put_1 : decode cX6_put 1 = .ok (.invokestatic 56, 3) := by decide +kernel
theorem dX6_put_4 : decode cX6_put 4 = .ok (.ifCond .ne 9, 3) := by decide +kernel
theorem dX6_put_7 : decode cX6_put 7 = .ok (.aload_n 0, 1) := by decide +kernel
theorem dX6_put_8 : decode cX6_put 8 = .ok (.iconst (-1), 1) := by decide +kernel
theorem dX6_put_9 : decode cX6_put 9 = .ok (.invokevirtual 60, 3) := by decide +kernel
theorem dX6_put_12 : decode cX6_put 12 = .ok (.ireturn, 1) := by decide +kernel
theorem dX6_put_13 : decode cX6_put 13 = .ok (.aload_n 0, 1) := by decide +kernel
theorem dX6_put_14 : decode cX6_put 14 = .ok (.getfield 13, 3) := by decide +kernel
theorem dX6_put_17 : decode cX6_put 17 = .ok (.iload_n 1, 1) := by decide +kernel
theorem dX6_put_18 : decode cX6_put 18 = .ok (.aaload, 1) := by decide +kernel
theorem dX6_put_19 : decode cX6_put 19 = .ok (.astore 4, 2) := by decide +kernel
theorem dX6_put_21 : decode cX6_put 21 = .ok (.aload 4, 2) := by decide +kernel
theorem dX6_put_23 : decode cX6_put 23 = .ok (.getfield 256, 3) := by decide +kernel
theorem dX6_put_26 : decode cX6_put 26 = .ok (.iconst (-1), 1) := by decide +kernel
theorem dX6_put_27 : decode cX6_put 27 = .ok (.if_icmp .ne 9, 3) := by decide +kernel
theorem dX6_put_30 : decode cX6_put 30 = .ok (.aload_n 0, 1) := by decide +kernel
theorem dX6_put_31 : decode cX6_put 31 = .ok (.iconst 1, 1) := by decide +kernel
theorem dX6_put_32 : decode cX6_put 32 = .ok (.invokevirtual 74, 3) := by decide +kernel
theorem dX6_put_35 : decode cX6_put 35 = .ok (.ireturn, 1) := by decide +kernel
theorem dX6_put_36 : decode cX6_put 36 = .ok (.iload_n 2, 1) := by decide +kernel
theorem dX6_put_37 : decode cX6_put 37 = .ok (.ifCond .lt 12, 3) := by decide +kernel
theorem dX6_put_40 : decode cX6_put 40 = .ok (.iload_n 2, 1) := by decide +kernel
theorem dX6_put_41 : decode cX6_put 41 = .ok (.aload 4, 2) := by decide +kernel
theorem dX6_put_43 : decode cX6_put 43 = .ok (.getfield 259, 3) := by decide +kernel
theorem dX6_put_46 : decode cX6_put 46 = .ok (.if_icmp .lt 9, 3) := by decide +kernel
theorem dX6_put_49 : decode cX6_put 49 = .ok (.aload_n 0, 1) := by decide +kernel
theorem dX6_put_50 : decode cX6_put 50 = .ok (.iconst 3, 1) := by decide +kernel
theorem dX6_put_51 : decode cX6_put 51 = .ok (.invokevirtual 74, 3) := by decide +kernel
theorem dX6_put_54 : decode cX6_put 54 = .ok (.ireturn, 1) := by decide +kernel
theorem dX6_put_55 : decode cX6_put 55 = .ok (.aload_n 0, 1) := by decide +kernel
theorem dX6_put_56 : decode cX6_put 56 = .ok (.iconst 0, 1) := by decide +kernel
theorem dX6_put_57 : decode cX6_put 57 = .ok (.putfield 77, 3) := by decide +kernel
theorem dX6_put_60 : decode cX6_put 60 = .ok (.aload 4, 2) := by decide +kernel
theorem dX6_put_62 : decode cX6_put 62 = .ok (.getfield 262, 3) := by decide +kernel
theorem dX6_put_65 : decode cX6_put 65 = .ok (.iload_n 2, 1) := by decide +kernel
theorem dX6_put_66 : decode cX6_put 66 = .ok (.iload_n 3, 1) := by decide +kernel
theorem dX6_put_67 : decode cX6_put 67 = .ok (.aload 4, 2) := by decide +kernel
theorem dX6_put_69 : decode cX6_put 69 = .ok (.getfield 256, 3) := by decide +kernel
theorem dX6_put_72 : decode cX6_put 72 = .ok (.invokestatic 265, 3) := by decide +kernel
theorem dX6_put_75 : decode cX6_put 75 = .ok (.iastore, 1) := by decide +kernel
theorem dX6_put_76 : decode cX6_put 76 = .ok (.iconst 1, 1) := by decide +kernel
theorem dX6_put_77 : decode cX6_put 77 = .ok (.ireturn, 1) := by decide +kernel
theorem dX6_cell_0 : decode cX6_cell 0 = .ok (.iload_n 1, 1) := by decide +kernel
theorem dX6_cell_1 : decode cX6_cell 1 = .ok (.invokestatic 56, 3) := by decide +kernel
theorem dX6_cell_4 : decode cX6_cell 4 = .ok (.ifCond .eq 10, 3) := by decide +kernel
theorem dX6_cell_7 : decode cX6_cell 7 = .ok (.iload_n 3, 1) := by decide +kernel
theorem dX6_cell_8 : decode cX6_cell 8 = .ok (.invokestatic 64, 3) := by decide +kernel
theorem dX6_cell_11 : decode cX6_cell 11 = .ok (.ifCond .ne 12, 3) := by decide +kernel
theorem dX6_cell_14 : decode cX6_cell 14 = .ok (.aload_n 0, 1) := by decide +kernel
theorem dX6_cell_15 : decode cX6_cell 15 = .ok (.iconst 0, 1) := by decide +kernel
theorem dX6_cell_16 : decode cX6_cell 16 = .ok (.putfield 77, 3) := by decide +kernel
theorem dX6_cell_19 : decode cX6_cell 19 = .ok (.ldc2_w 250, 3) := by decide +kernel
theorem dX6_cell_22 : decode cX6_cell 22 = .ok (.lreturn, 1) := by decide +kernel
theorem dX6_cell_23 : decode cX6_cell 23 = .ok (.aload_n 0, 1) := by decide +kernel
theorem dX6_cell_24 : decode cX6_cell 24 = .ok (.getfield 13, 3) := by decide +kernel
theorem dX6_cell_27 : decode cX6_cell 27 = .ok (.iload_n 1, 1) := by decide +kernel
theorem dX6_cell_28 : decode cX6_cell 28 = .ok (.aaload, 1) := by decide +kernel
theorem dX6_cell_29 : decode cX6_cell 29 = .ok (.astore 4, 2) := by decide +kernel
theorem dX6_cell_31 : decode cX6_cell 31 = .ok (.aload_n 0, 1) := by decide +kernel
theorem dX6_cell_32 : decode cX6_cell 32 = .ok (.aload 4, 2) := by decide +kernel
theorem dX6_cell_34 : decode cX6_cell 34 = .ok (.iload_n 3, 1) := by decide +kernel
theorem dX6_cell_35 : decode cX6_cell 35 = .ok (.invokevirtual 67, 3) := by decide +kernel
theorem dX6_cell_38 : decode cX6_cell 38 = .ok (.putfield 77, 3) := by decide +kernel
theorem dX6_cell_41 : decode cX6_cell 41 = .ok (.aload_n 0, 1) := by decide +kernel
theorem dX6_cell_42 : decode cX6_cell 42 = .ok (.getfield 77, 3) := by decide +kernel
theorem dX6_cell_45 : decode cX6_cell 45 = .ok (.ifCond .ne 21, 3) := by decide +kernel
theorem dX6_cell_48 : decode cX6_cell 48 = .ok (.iload_n 2, 1) := by decide +kernel
theorem dX6_cell_49 : decode cX6_cell 49 = .ok (.ifCond .lt 12, 3) := by decide +kernel
theorem dX6_cell_52 : decode cX6_cell 52 = .ok (.iload_n 2, 1) := by decide +kernel
theorem dX6_cell_53 : decode cX6_cell 53 = .ok (.aload 4, 2) := by decide +kernel
theorem dX6_cell_55 : decode cX6_cell 55 = .ok (.getfield 259, 3) := by decide +kernel
theorem dX6_cell_58 : decode cX6_cell 58 = .ok (.if_icmp .lt 8, 3) := by decide +kernel
theorem dX6_cell_61 : decode cX6_cell 61 = .ok (.aload_n 0, 1) := by decide +kernel
theorem dX6_cell_62 : decode cX6_cell 62 = .ok (.iconst 3, 1) := by decide +kernel
theorem dX6_cell_63 : decode cX6_cell 63 = .ok (.putfield 77, 3) := by decide +kernel
theorem dX6_cell_66 : decode cX6_cell 66 = .ok (.aload_n 0, 1) := by decide +kernel
theorem dX6_cell_67 : decode cX6_cell 67 = .ok (.getfield 77, 3) := by decide +kernel
theorem dX6_cell_70 : decode cX6_cell 70 = .ok (.ifCond .ne 14, 3) := by decide +kernel
theorem dX6_cell_73 : decode cX6_cell 73 = .ok (.aload 4, 2) := by decide +kernel
theorem dX6_cell_75 : decode cX6_cell 75 = .ok (.getfield 262, 3) := by decide +kernel
theorem dX6_cell_78 : decode cX6_cell 78 = .ok (.iload_n 2, 1) := by decide +kernel
theorem dX6_cell_79 : decode cX6_cell 79 = .ok (.iaload, 1) := by decide +kernel
theorem dX6_cell_80 : decode cX6_cell 80 = .ok (.i2l, 1) := by decide +kernel
theorem dX6_cell_81 : decode cX6_cell 81 = .ok (.goto 6, 3) := by decide +kernel
theorem dX6_cell_84 : decode cX6_cell 84 = .ok (.ldc2_w 250, 3) := by decide +kernel
theorem dX6_cell_87 : decode cX6_cell 87 = .ok (.lreturn, 1) := by decide +kernel
theorem dX6_copy_0 : decode cX6_copy 0 = .ok (.iload_n 1, 1) := by decide +kernel
theorem dX6_copy_1 : decode cX6_copy 1 = .ok (.invokestatic 56, 3) := by decide +kernel
theorem dX6_copy_4 : decode cX6_copy 4 = .ok (.ifCond .eq 10, 3) := by decide +kernel
theorem dX6_copy_7 : decode cX6_copy 7 = .ok (.iload_n 3, 1) := by decide +kernel
theorem dX6_copy_8 : decode cX6_copy 8 = .ok (.invokestatic 56, 3) := by decide +kernel
theorem dX6_copy_11 : decode cX6_copy 11 = .ok (.ifCond .ne 9, 3) := by decide +kernel
theorem dX6_copy_14 : decode cX6_copy 14 = .ok (.aload_n 0, 1) := by decide +kernel
theorem dX6_copy_15 : decode cX6_copy 15 = .ok (.iconst (-1), 1) := by decide +kernel
theorem dX6_copy_16 : decode cX6_copy 16 = .ok (.invokevirtual 60, 3) := by decide +kernel
theorem dX6_copy_19 : decode cX6_copy 19 = .ok (.ireturn, 1) := by decide +kernel
theorem dX6_copy_20 : decode cX6_copy 20 = .ok (.aload_n 0, 1) := by decide +kernel
theorem dX6_copy_21 : decode cX6_copy 21 = .ok (.getfield 13, 3) := by decide +kernel
theorem dX6_copy_24 : decode cX6_copy 24 = .ok (.iload_n 1, 1) := by decide +kernel
theorem dX6_copy_25 : decode cX6_copy 25 = .ok (.aaload, 1) := by decide +kernel
theorem dX6_copy_26 : decode cX6_copy 26 = .ok (.astore 6, 2) := by decide +kernel
theorem dX6_copy_28 : decode cX6_copy 28 = .ok (.aload_n 0, 1) := by decide +kernel
theorem dX6_copy_29 : decode cX6_copy 29 = .ok (.getfield 13, 3) := by decide +kernel
theorem dX6_copy_32 : decode cX6_copy 32 = .ok (.iload_n 3, 1) := by decide +kernel
theorem dX6_copy_33 : decode cX6_copy 33 = .ok (.aaload, 1) := by decide +kernel
theorem dX6_copy_34 : decode cX6_copy 34 = .ok (.astore 7, 2) := by decide +kernel
theorem dX6_copy_36 : decode cX6_copy 36 = .ok (.aload 6, 2) := by decide +kernel
theorem dX6_copy_38 : decode cX6_copy 38 = .ok (.getfield 256, 3) := by decide +kernel
theorem dX6_copy_41 : decode cX6_copy 41 = .ok (.iconst (-1), 1) := by decide +kernel
theorem dX6_copy_42 : decode cX6_copy 42 = .ok (.if_icmp .eq 12, 3) := by decide +kernel
theorem dX6_copy_45 : decode cX6_copy 45 = .ok (.aload 7, 2) := by decide +kernel
theorem dX6_copy_47 : decode cX6_copy 47 = .ok (.getfield 256, 3) := by decide +kernel
theorem dX6_copy_50 : decode cX6_copy 50 = .ok (.iconst (-1), 1) := by decide +kernel
theorem dX6_copy_51 : decode cX6_copy 51 = .ok (.if_icmp .ne 9, 3) := by decide +kernel
theorem dX6_copy_54 : decode cX6_copy 54 = .ok (.aload_n 0, 1) := by decide +kernel
theorem dX6_copy_55 : decode cX6_copy 55 = .ok (.iconst 1, 1) := by decide +kernel
theorem dX6_copy_56 : decode cX6_copy 56 = .ok (.invokevirtual 74, 3) := by decide +kernel
theorem dX6_copy_59 : decode cX6_copy 59 = .ok (.ireturn, 1) := by decide +kernel
theorem dX6_copy_60 : decode cX6_copy 60 = .ok (.aload 6, 2) := by decide +kernel
theorem dX6_copy_62 : decode cX6_copy 62 = .ok (.getfield 256, 3) := by decide +kernel
theorem dX6_copy_65 : decode cX6_copy 65 = .ok (.aload 7, 2) := by decide +kernel
theorem dX6_copy_67 : decode cX6_copy 67 = .ok (.getfield 256, 3) := by decide +kernel
theorem dX6_copy_70 : decode cX6_copy 70 = .ok (.if_icmp .eq 9, 3) := by decide +kernel
theorem dX6_copy_73 : decode cX6_copy 73 = .ok (.aload_n 0, 1) := by decide +kernel
theorem dX6_copy_74 : decode cX6_copy 74 = .ok (.iconst 2, 1) := by decide +kernel
theorem dX6_copy_75 : decode cX6_copy 75 = .ok (.invokevirtual 74, 3) := by decide +kernel
theorem dX6_copy_78 : decode cX6_copy 78 = .ok (.ireturn, 1) := by decide +kernel
theorem dX6_copy_79 : decode cX6_copy 79 = .ok (.aload 6, 2) := by decide +kernel
theorem dX6_copy_81 : decode cX6_copy 81 = .ok (.iload_n 2, 1) := by decide +kernel
theorem dX6_copy_82 : decode cX6_copy 82 = .ok (.iload 5, 2) := by decide +kernel
theorem dX6_copy_84 : decode cX6_copy 84 = .ok (.invokevirtual 70, 3) := by decide +kernel
theorem dX6_copy_87 : decode cX6_copy 87 = .ok (.ifCond .eq 15, 3) := by decide +kernel
theorem dX6_copy_90 : decode cX6_copy 90 = .ok (.aload 7, 2) := by decide +kernel
theorem dX6_copy_92 : decode cX6_copy 92 = .ok (.iload 4, 2) := by decide +kernel
theorem dX6_copy_94 : decode cX6_copy 94 = .ok (.iload 5, 2) := by decide +kernel
theorem dX6_copy_96 : decode cX6_copy 96 = .ok (.invokevirtual 70, 3) := by decide +kernel
theorem dX6_copy_99 : decode cX6_copy 99 = .ok (.ifCond .ne 9, 3) := by decide +kernel
theorem dX6_copy_102 : decode cX6_copy 102 = .ok (.aload_n 0, 1) := by decide +kernel
theorem dX6_copy_103 : decode cX6_copy 103 = .ok (.iconst 3, 1) := by decide +kernel
theorem dX6_copy_104 : decode cX6_copy 104 = .ok (.invokevirtual 74, 3) := by decide +kernel
theorem dX6_copy_107 : decode cX6_copy 107 = .ok (.ireturn, 1) := by decide +kernel
theorem dX6_copy_108 : decode cX6_copy 108 = .ok (.aload_n 0, 1) := by decide +kernel
theorem dX6_copy_109 : decode cX6_copy 109 = .ok (.iconst 0, 1) := by decide +kernel
theorem dX6_copy_110 : decode cX6_copy 110 = .ok (.putfield 77, 3) := by decide +kernel
theorem dX6_copy_113 : decode cX6_copy 113 = .ok (.aload 6, 2) := by decide +kernel
theorem dX6_copy_115 : decode cX6_copy 115 = .ok (.getfield 262, 3) := by decide +kernel
theorem dX6_copy_118 : decode cX6_copy 118 = .ok (.iload_n 2, 1) := by decide +kernel
theorem dX6_copy_119 : decode cX6_copy 119 = .ok (.aload 7, 2) := by decide +kernel
theorem dX6_copy_121 : decode cX6_copy 121 = .ok (.getfield 262, 3) := by decide +kernel
theorem dX6_copy_124 : decode cX6_copy 124 = .ok (.iload 4, 2) := by decide +kernel
theorem dX6_copy_126 : decode cX6_copy 126 = .ok (.iload 5, 2) := by decide +kernel
theorem dX6_copy_128 : decode cX6_copy 128 = .ok (.invokestatic 268, 3) := by decide +kernel
theorem dX6_copy_131 : decode cX6_copy 131 = .ok (.iload 5, 2) := by decide +kernel
theorem dX6_copy_133 : decode cX6_copy 133 = .ok (.ireturn, 1) := by decide +kernel
theorem dX6_tell_0 : decode cX6_tell 0 = .ok (.aload_n 0, 1) := by decide +kernel
theorem dX6_tell_1 : decode cX6_tell 1 = .ok (.iload_n 1, 1) := by decide +kernel
theorem dX6_tell_2 : decode cX6_tell 2 = .ok (.invokevirtual 102, 3) := by decide +kernel
theorem dX6_tell_5 : decode cX6_tell 5 = .ok (.ifCond .ne 5, 3) := by decide +kernel
theorem dX6_tell_8 : decode cX6_tell 8 = .ok (.iconst (-1), 1) := by decide +kernel
theorem dX6_tell_9 : decode cX6_tell 9 = .ok (.ireturn, 1) := by decide +kernel
theorem dX6_tell_10 : decode cX6_tell 10 = .ok (.aload_n 0, 1) := by decide +kernel
theorem dX6_tell_11 : decode cX6_tell 11 = .ok (.getfield 20, 3) := by decide +kernel
theorem dX6_tell_14 : decode cX6_tell 14 = .ok (.getfield 105, 3) := by decide +kernel
theorem dX6_tell_17 : decode cX6_tell 17 = .ok (.iload_n 1, 1) := by decide +kernel
theorem dX6_tell_18 : decode cX6_tell 18 = .ok (.iaload, 1) := by decide +kernel
theorem dX6_tell_19 : decode cX6_tell 19 = .ok (.lookupswitch 37 #[(1, 31), (2, 25)], 25) := by decide +kernel
theorem dX6_tell_44 : decode cX6_tell 44 = .ok (.aload_n 0, 1) := by decide +kernel
theorem dX6_tell_45 : decode cX6_tell 45 = .ok (.iload_n 1, 1) := by decide +kernel
theorem dX6_tell_46 : decode cX6_tell 46 = .ok (.invokevirtual 274, 3) := by decide +kernel
theorem dX6_tell_49 : decode cX6_tell 49 = .ok (.ireturn, 1) := by decide +kernel
theorem dX6_tell_50 : decode cX6_tell 50 = .ok (.aload_n 0, 1) := by decide +kernel
theorem dX6_tell_51 : decode cX6_tell 51 = .ok (.iload_n 1, 1) := by decide +kernel
theorem dX6_tell_52 : decode cX6_tell 52 = .ok (.invokevirtual 277, 3) := by decide +kernel
theorem dX6_tell_55 : decode cX6_tell 55 = .ok (.ireturn, 1) := by decide +kernel
theorem dX6_tell_56 : decode cX6_tell 56 = .ok (.aload_n 0, 1) := by decide +kernel
theorem dX6_tell_57 : decode cX6_tell 57 = .ok (.iload_n 1, 1) := by decide +kernel
theorem dX6_tell_58 : decode cX6_tell 58 = .ok (.invokevirtual 280, 3) := by decide +kernel
theorem dX6_tell_61 : decode cX6_tell 61 = .ok (.ireturn, 1) := by decide +kernel
theorem dX6_probe_0 : decode cX6_probe 0 = .ok (.aload_n 0, 1) := by decide +kernel
theorem dX6_probe_1 : decode cX6_probe 1 = .ok (.iload_n 1, 1) := by decide +kernel
theorem dX6_probe_2 : decode cX6_probe 2 = .ok (.invokevirtual 102, 3) := by decide +kernel
theorem dX6_probe_5 : decode cX6_probe 5 = .ok (.ifCond .ne 5, 3) := by decide +kernel
theorem dX6_probe_8 : decode cX6_probe 8 = .ok (.iconst (-1), 1) := by decide +kernel
theorem dX6_probe_9 : decode cX6_probe 9 = .ok (.ireturn, 1) := by decide +kernel
theorem dX6_probe_10 : decode cX6_probe 10 = .ok (.aload_n 0, 1) := by decide +kernel
theorem dX6_probe_11 : decode cX6_probe 11 = .ok (.getfield 20, 3) := by decide +kernel
theorem dX6_probe_14 : decode cX6_probe 14 = .ok (.getfield 105, 3) := by decide +kernel
theorem dX6_probe_17 : decode cX6_probe 17 = .ok (.iload_n 1, 1) := by decide +kernel
theorem dX6_probe_18 : decode cX6_probe 18 = .ok (.iaload, 1) := by decide +kernel
theorem dX6_probe_19 : decode cX6_probe 19 = .ok (.iconst 2, 1) := by decide +kernel
theorem dX6_probe_20 : decode cX6_probe 20 = .ok (.if_icmp .ne 11, 3) := by decide +kernel
theorem dX6_probe_23 : decode cX6_probe 23 = .ok (.aload_n 0, 1) := by decide +kernel
theorem dX6_probe_24 : decode cX6_probe 24 = .ok (.iconst 5, 1) := by decide +kernel
theorem dX6_probe_25 : decode cX6_probe 25 = .ok (.invokevirtual 283, 3) := by decide +kernel
theorem dX6_probe_28 : decode cX6_probe 28 = .ok (.bipush 20, 2) := by decide +kernel
theorem dX6_probe_30 : decode cX6_probe 30 = .ok (.ireturn, 1) := by decide +kernel
theorem dX6_probe_31 : decode cX6_probe 31 = .ok (.aload_n 0, 1) := by decide +kernel
theorem dX6_probe_32 : decode cX6_probe 32 = .ok (.iconst 4, 1) := by decide +kernel
theorem dX6_probe_33 : decode cX6_probe 33 = .ok (.invokevirtual 283, 3) := by decide +kernel
theorem dX6_probe_36 : decode cX6_probe 36 = .ok (.aload_n 0, 1) := by decide +kernel
theorem dX6_probe_37 : decode cX6_probe 37 = .ok (.getfield 20, 3) := by decide +kernel
theorem dX6_probe_40 : decode cX6_probe 40 = .ok (.iload_n 1, 1) := by decide +kernel
theorem dX6_probe_41 : decode cX6_probe 41 = .ok (.invokevirtual 121, 3) := by decide +kernel
theorem dX6_probe_44 : decode cX6_probe 44 = .ok (.invokestatic 220, 3) := by decide +kernel
theorem dX6_probe_47 : decode cX6_probe 47 = .ok (.ireturn, 1) := by decide +kernel
theorem dX6_as_0 : decode cX6_as 0 = .ok (.aload_n 0, 1) := by decide +kernel
theorem dX6_as_1 : decode cX6_as 1 = .ok (.iload_n 1, 1) := by decide +kernel
theorem dX6_as_2 : decode cX6_as 2 = .ok (.invokevirtual 102, 3) := by decide +kernel
theorem dX6_as_5 : decode cX6_as 5 = .ok (.ifCond .ne 9, 3) := by decide +kernel
theorem dX6_as_8 : decode cX6_as 8 = .ok (.aload_n 0, 1) := by decide +kernel
theorem dX6_as_9 : decode cX6_as 9 = .ok (.iconst (-1), 1) := by decide +kernel
theorem dX6_as_10 : decode cX6_as 10 = .ok (.invokevirtual 60, 3) := by decide +kernel
theorem dX6_as_13 : decode cX6_as 13 = .ok (.ireturn, 1) := by decide +kernel
theorem dX6_as_14 : decode cX6_as 14 = .ok (.iload_n 2, 1) := by decide +kernel
theorem dX6_as_15 : decode cX6_as 15 = .ok (.invokestatic 225, 3) := by decide +kernel
theorem dX6_as_18 : decode cX6_as 18 = .ok (.ifCond .ne 10, 3) := by decide +kernel
theorem dX6_as_21 : decode cX6_as 21 = .ok (.aload_n 0, 1) := by decide +kernel
theorem dX6_as_22 : decode cX6_as 22 = .ok (.bipush (-2), 2) := by decide +kernel
theorem dX6_as_24 : decode cX6_as 24 = .ok (.invokevirtual 60, 3) := by decide +kernel
theorem dX6_as_27 : decode cX6_as 27 = .ok (.ireturn, 1) := by decide +kernel
theorem dX6_as_28 : decode cX6_as 28 = .ok (.aload_n 0, 1) := by decide +kernel
theorem dX6_as_29 : decode cX6_as 29 = .ok (.iload_n 1, 1) := by decide +kernel
theorem dX6_as_30 : decode cX6_as 30 = .ok (.iload_n 2, 1) := by decide +kernel
theorem dX6_as_31 : decode cX6_as 31 = .ok (.invokevirtual 237, 3) := by decide +kernel
theorem dX6_as_34 : decode cX6_as 34 = .ok (.ifCond .ne 9, 3) := by decide +kernel
theorem dX6_as_37 : decode cX6_as 37 = .ok (.aload_n 0, 1) := by decide +kernel
theorem dX6_as_38 : decode cX6_as 38 = .ok (.iconst 2, 1) := by decide +kernel
theorem dX6_as_39 : decode cX6_as 39 = .ok (.invokevirtual 74, 3) := by decide +kernel
theorem dX6_as_42 : decode cX6_as 42 = .ok (.ireturn, 1) := by decide +kernel
theorem dX6_as_43 : decode cX6_as 43 = .ok (.aload_n 0, 1) := by decide +kernel
theorem dX6_as_44 : decode cX6_as 44 = .ok (.iconst 0, 1) := by decide +kernel
theorem dX6_as_45 : decode cX6_as 45 = .ok (.putfield 77, 3) := by decide +kernel
theorem dX6_as_48 : decode cX6_as 48 = .ok (.iconst 1, 1) := by decide +kernel
theorem dX6_as_49 : decode cX6_as 49 = .ok (.ireturn, 1) := by decide +kernel
theorem dX6_trace_0 : decode cX6_trace 0 = .ok (.aload_n 0, 1) := by decide +kernel
theorem dX6_trace_1 : decode cX6_trace 1 = .ok (.getfield 286, 3) := by decide +kernel
theorem dX6_trace_4 : decode cX6_trace 4 = .ok (.ireturn, 1) := by decide +kernel
theorem dX6_fault_0 : decode cX6_fault 0 = .ok (.aload_n 0, 1) := by decide +kernel
theorem dX6_fault_1 : decode cX6_fault 1 = .ok (.getfield 77, 3) := by decide +kernel
theorem dX6_fault_4 : decode cX6_fault 4 = .ok (.ireturn, 1) := by decide +kernel
theorem dX6_many_0 : decode cX6_many 0 = .ok (.iload_n 1, 1) := by decide +kernel
theorem dX6_many_1 : decode cX6_many 1 = .ok (.tableswitch 89 0 4 #[35, 43, 51, 59, 81], 35) := by decide +kernel
theorem dX6_many_36 : decode cX6_many 36 = .ok (.aload_n 0, 1) := by decide +kernel
theorem dX6_many_37 : decode cX6_many 37 = .ok (.getfield 20, 3) := by decide +kernel
theorem dX6_many_40 : decode cX6_many 40 = .ok (.getfield 99, 3) := by decide +kernel
theorem dX6_many_43 : decode cX6_many 43 = .ok (.ireturn, 1) := by decide +kernel
theorem dX6_many_44 : decode cX6_many 44 = .ok (.aload_n 0, 1) := by decide +kernel
theorem dX6_many_45 : decode cX6_many 45 = .ok (.getfield 20, 3) := by decide +kernel
theorem dX6_many_48 : decode cX6_many 48 = .ok (.getfield 130, 3) := by decide +kernel
theorem dX6_many_51 : decode cX6_many 51 = .ok (.ireturn, 1) := by decide +kernel
theorem dX6_many_52 : decode cX6_many 52 = .ok (.aload_n 0, 1) := by decide +kernel
theorem dX6_many_53 : decode cX6_many 53 = .ok (.getfield 20, 3) := by decide +kernel
theorem dX6_many_56 : decode cX6_many 56 = .ok (.invokevirtual 172, 3) := by decide +kernel
theorem dX6_many_59 : decode cX6_many 59 = .ok (.ireturn, 1) := by decide +kernel
theorem dX6_many_60 : decode cX6_many 60 = .ok (.aload_n 0, 1) := by decide +kernel
theorem dX6_many_61 : decode cX6_many 61 = .ok (.getfield 44, 3) := by decide +kernel
theorem dX6_many_64 : decode cX6_many 64 = .ok (.getfield 92, 3) := by decide +kernel
theorem dX6_many_67 : decode cX6_many 67 = .ok (.ifCond .eq 13, 3) := by decide +kernel
theorem dX6_many_70 : decode cX6_many 70 = .ok (.aload_n 0, 1) := by decide +kernel
theorem dX6_many_71 : decode cX6_many 71 = .ok (.getfield 44, 3) := by decide +kernel
theorem dX6_many_74 : decode cX6_many 74 = .ok (.getfield 289, 3) := by decide +kernel
theorem dX6_many_77 : decode cX6_many 77 = .ok (.goto 4, 3) := by decide +kernel
theorem dX6_many_80 : decode cX6_many 80 = .ok (.iconst 0, 1) := by decide +kernel
theorem dX6_many_81 : decode cX6_many 81 = .ok (.ireturn, 1) := by decide +kernel
theorem dX6_many_82 : decode cX6_many 82 = .ok (.aload_n 0, 1) := by decide +kernel
theorem dX6_many_83 : decode cX6_many 83 = .ok (.getfield 51, 3) := by decide +kernel
theorem dX6_many_86 : decode cX6_many 86 = .ok (.getfield 96, 3) := by decide +kernel
theorem dX6_many_89 : decode cX6_many 89 = .ok (.ireturn, 1) := by decide +kernel
theorem dX6_many_90 : decode cX6_many 90 = .ok (.bipush (-2), 2) := by decide +kernel
theorem dX6_many_92 : decode cX6_many 92 = .ok (.ireturn, 1) := by decide +kernel
theorem dX6_refused_0 : decode cX6_refused 0 = .ok (.aload_n 0, 1) := by decide +kernel
theorem dX6_refused_1 : decode cX6_refused 1 = .ok (.iconst 0, 1) := by decide +kernel
theorem dX6_refused_2 : decode cX6_refused 2 = .ok (.putfield 77, 3) := by decide +kernel
theorem dX6_refused_5 : decode cX6_refused 5 = .ok (.iload_n 1, 1) := by decide +kernel
theorem dX6_refused_6 : decode cX6_refused 6 = .ok (.ireturn, 1) := by decide +kernel
theorem dX6_failed_0 : decode cX6_failed 0 = .ok (.aload_n 0, 1) := by decide +kernel
theorem dX6_failed_1 : decode cX6_failed 1 = .ok (.iload_n 1, 1) := by decide +kernel
theorem dX6_failed_2 : decode cX6_failed 2 = .ok (.putfield 77, 3) := by decide +kernel
theorem dX6_failed_5 : decode cX6_failed 5 = .ok (.bipush (-10), 2) := by decide +kernel
theorem dX6_failed_7 : decode cX6_failed 7 = .ok (.iload_n 1, 1) := by decide +kernel
theorem dX6_failed_8 : decode cX6_failed 8 = .ok (.isub, 1) := by decide +kernel
theorem dX6_failed_9 : decode cX6_failed 9 = .ok (.ireturn, 1) := by decide +kernel
theorem dX6_noCircuit_0 : decode cX6_noCircuit 0 = .ok (.aload_n 0, 1) := by decide +kernel
theorem dX6_noCircuit_1 : decode cX6_noCircuit 1 = .ok (.getfield 20, 3) := by decide +kernel
theorem dX6_noCircuit_4 : decode cX6_noCircuit 4 = .ok (.getfield 99, 3) := by decide +kernel
theorem dX6_noCircuit_7 : decode cX6_noCircuit 7 = .ok (.ifCond .ne 7, 3) := by decide +kernel
theorem dX6_noCircuit_10 : decode cX6_noCircuit 10 = .ok (.iconst 1, 1) := by decide +kernel
theorem dX6_noCircuit_11 : decode cX6_noCircuit 11 = .ok (.goto 4, 3) := by decide +kernel
theorem dX6_noCircuit_14 : decode cX6_noCircuit 14 = .ok (.iconst 0, 1) := by decide +kernel
theorem dX6_noCircuit_15 : decode cX6_noCircuit 15 = .ok (.ireturn, 1) := by decide +kernel
theorem dX6_isCell_0 : decode cX6_isCell 0 = .ok (.iload_n 1, 1) := by decide +kernel
theorem dX6_isCell_1 : decode cX6_isCell 1 = .ok (.ifCond .lt 18, 3) := by decide +kernel
theorem dX6_isCell_4 : decode cX6_isCell 4 = .ok (.iload_n 1, 1) := by decide +kernel
theorem dX6_isCell_5 : decode cX6_isCell 5 = .ok (.aload_n 0, 1) := by decide +kernel
theorem dX6_isCell_6 : decode cX6_isCell 6 = .ok (.getfield 20, 3) := by decide +kernel
theorem dX6_isCell_9 : decode cX6_isCell 9 = .ok (.getfield 99, 3) := by decide +kernel
theorem dX6_isCell_12 : decode cX6_isCell 12 = .ok (.if_icmp .ge 7, 3) := by decide +kernel
theorem dX6_isCell_15 : decode cX6_isCell 15 = .ok (.iconst 1, 1) := by decide +kernel
theorem dX6_isCell_16 : decode cX6_isCell 16 = .ok (.goto 4, 3) := by decide +kernel
theorem dX6_isCell_19 : decode cX6_isCell 19 = .ok (.iconst 0, 1) := by decide +kernel
theorem dX6_isCell_20 : decode cX6_isCell 20 = .ok (.ireturn, 1) := by decide +kernel
theorem dX6_isOfKind_0 : decode cX6_isOfKind 0 = .ok (.aload_n 0, 1) := by decide +kernel
theorem dX6_isOfKind_1 : decode cX6_isOfKind 1 = .ok (.getfield 20, 3) := by decide +kernel
theorem dX6_isOfKind_4 : decode cX6_isOfKind 4 = .ok (.getfield 105, 3) := by decide +kernel
theorem dX6_isOfKind_7 : decode cX6_isOfKind 7 = .ok (.iload_n 1, 1) := by decide +kernel
theorem dX6_isOfKind_8 : decode cX6_isOfKind 8 = .ok (.iaload, 1) := by decide +kernel
theorem dX6_isOfKind_9 : decode cX6_isOfKind 9 = .ok (.iload_n 2, 1) := by decide +kernel
theorem dX6_isOfKind_10 : decode cX6_isOfKind 10 = .ok (.if_icmp .lt 7, 3) := by decide +kernel
theorem dX6_isOfKind_13 : decode cX6_isOfKind 13 = .ok (.iconst 1, 1) := by decide +kernel
theorem dX6_isOfKind_14 : decode cX6_isOfKind 14 = .ok (.goto 4, 3) := by decide +kernel
theorem dX6_isOfKind_17 : decode cX6_isOfKind 17 = .ok (.iconst 0, 1) := by decide +kernel
theorem dX6_isOfKind_18 : decode cX6_isOfKind 18 = .ok (.ireturn, 1) := by decide +kernel
theorem dX6_isSheet_0 : decode cX6_isSheet 0 = .ok (.iload_n 0, 1) := by decide +kernel
theorem dX6_isSheet_1 : decode cX6_isSheet 1 = .ok (.ifCond .lt 12, 3) := by decide +kernel
theorem dX6_isSheet_4 : decode cX6_isSheet 4 = .ok (.iload_n 0, 1) := by decide +kernel
theorem dX6_isSheet_5 : decode cX6_isSheet 5 = .ok (.iconst 4, 1) := by decide +kernel
theorem dX6_isSheet_6 : decode cX6_isSheet 6 = .ok (.if_icmp .ge 7, 3) := by decide +kernel
theorem dX6_isSheet_9 : decode cX6_isSheet 9 = .ok (.iconst 1, 1) := by decide +kernel
theorem dX6_isSheet_10 : decode cX6_isSheet 10 = .ok (.goto 4, 3) := by decide +kernel
theorem dX6_isSheet_13 : decode cX6_isSheet 13 = .ok (.iconst 0, 1) := by decide +kernel
theorem dX6_isSheet_14 : decode cX6_isSheet 14 = .ok (.ireturn, 1) := by decide +kernel
theorem dX6_isLane_0 : decode cX6_isLane 0 = .ok (.iload_n 0, 1) := by decide +kernel
theorem dX6_isLane_1 : decode cX6_isLane 1 = .ok (.ifCond .lt 12, 3) := by decide +kernel
theorem dX6_isLane_4 : decode cX6_isLane 4 = .ok (.iload_n 0, 1) := by decide +kernel
theorem dX6_isLane_5 : decode cX6_isLane 5 = .ok (.iconst 2, 1) := by decide +kernel
theorem dX6_isLane_6 : decode cX6_isLane 6 = .ok (.if_icmp .gt 7, 3) := by decide +kernel
theorem dX6_isLane_9 : decode cX6_isLane 9 = .ok (.iconst 1, 1) := by decide +kernel
theorem dX6_isLane_10 : decode cX6_isLane 10 = .ok (.goto 4, 3) := by decide +kernel
theorem dX6_isLane_13 : decode cX6_isLane 13 = .ok (.iconst 0, 1) := by decide +kernel
theorem dX6_isLane_14 : decode cX6_isLane 14 = .ok (.ireturn, 1) := by decide +kernel
theorem dX6_isKind_0 : decode cX6_isKind 0 = .ok (.iload_n 0, 1) := by decide +kernel
theorem dX6_isKind_1 : decode cX6_isKind 1 = .ok (.ifCond .lt 12, 3) := by decide +kernel
theorem dX6_isKind_4 : decode cX6_isKind 4 = .ok (.iload_n 0, 1) := by decide +kernel
theorem dX6_isKind_5 : decode cX6_isKind 5 = .ok (.iconst 2, 1) := by decide +kernel
theorem dX6_isKind_6 : decode cX6_isKind 6 = .ok (.if_icmp .gt 7, 3) := by decide +kernel
theorem dX6_isKind_9 : decode cX6_isKind 9 = .ok (.iconst 1, 1) := by decide +kernel
theorem dX6_isKind_10 : decode cX6_isKind 10 = .ok (.goto 4, 3) := by decide +kernel
theorem dX6_isKind_13 : decode cX6_isKind 13 = .ok (.iconst 0, 1) := by decide +kernel
theorem dX6_isKind_14 : decode cX6_isKind 14 = .ok (.ireturn, 1) := by decide +kernel
theorem dX6_isBulk_0 : decode cX6_isBulk 0 = .ok (.iload_n 0, 1) := by decide +kernel
theorem dX6_isBulk_1 : decode cX6_isBulk 1 = .ok (.iconst 1, 1) := by decide +kernel
theorem dX6_isBulk_2 : decode cX6_isBulk 2 = .ok (.if_icmp .lt 13, 3) := by decide +kernel
theorem dX6_isBulk_5 : decode cX6_isBulk 5 = .ok (.iload_n 0, 1) := by decide +kernel
theorem dX6_isBulk_6 : decode cX6_isBulk 6 = .ok (.bipush 9, 2) := by decide +kernel
theorem dX6_isBulk_8 : decode cX6_isBulk 8 = .ok (.if_icmp .gt 7, 3) := by decide +kernel
theorem dX6_isBulk_11 : decode cX6_isBulk 11 = .ok (.iconst 1, 1) := by decide +kernel
theorem dX6_isBulk_12 : decode cX6_isBulk 12 = .ok (.goto 4, 3) := by decide +kernel
theorem dX6_isBulk_15 : decode cX6_isBulk 15 = .ok (.iconst 0, 1) := by decide +kernel
theorem dX6_isBulk_16 : decode cX6_isBulk 16 = .ok (.ireturn, 1) := by decide +kernel
theorem dX6_isManner_0 : decode cX6_isManner 0 = .ok (.iload_n 0, 1) := by decide +kernel
theorem dX6_isManner_1 : decode cX6_isManner 1 = .ok (.ifCond .lt 12, 3) := by decide +kernel
theorem dX6_isManner_4 : decode cX6_isManner 4 = .ok (.iload_n 0, 1) := by decide +kernel
theorem dX6_isManner_5 : decode cX6_isManner 5 = .ok (.iconst 2, 1) := by decide +kernel
theorem dX6_isManner_6 : decode cX6_isManner 6 = .ok (.if_icmp .gt 7, 3) := by decide +kernel
theorem dX6_isManner_9 : decode cX6_isManner 9 = .ok (.iconst 1, 1) := by decide +kernel
theorem dX6_isManner_10 : decode cX6_isManner 10 = .ok (.goto 4, 3) := by decide +kernel
theorem dX6_isManner_13 : decode cX6_isManner 13 = .ok (.iconst 0, 1) := by decide +kernel
theorem dX6_isManner_14 : decode cX6_isManner 14 = .ok (.ireturn, 1) := by decide +kernel
theorem dX6_isAsked_0 : decode cX6_isAsked 0 = .ok (.iload_n 0, 1) := by decide +kernel
theorem dX6_isAsked_1 : decode cX6_isAsked 1 = .ok (.ifCond .lt 8, 3) := by decide +kernel
theorem dX6_isAsked_4 : decode cX6_isAsked 4 = .ok (.iload_n 0, 1) := by decide +kernel
theorem dX6_isAsked_5 : decode cX6_isAsked 5 = .ok (.iload_n 1, 1) := by decide +kernel
theorem dX6_isAsked_6 : decode cX6_isAsked 6 = .ok (.if_icmp .le 15, 3) := by decide +kernel
theorem dX6_isAsked_9 : decode cX6_isAsked 9 = .ok (.iload_n 0, 1) := by decide +kernel
theorem dX6_isAsked_10 : decode cX6_isAsked 10 = .ok (.bipush 10, 2) := by decide +kernel
theorem dX6_isAsked_12 : decode cX6_isAsked 12 = .ok (.if_icmp .lt 13, 3) := by decide +kernel
theorem dX6_isAsked_15 : decode cX6_isAsked 15 = .ok (.iload_n 0, 1) := by decide +kernel
theorem dX6_isAsked_16 : decode cX6_isAsked 16 = .ok (.bipush 17, 2) := by decide +kernel
theorem dX6_isAsked_18 : decode cX6_isAsked 18 = .ok (.if_icmp .ge 7, 3) := by decide +kernel
theorem dX6_isAsked_21 : decode cX6_isAsked 21 = .ok (.iconst 1, 1) := by decide +kernel
theorem dX6_isAsked_22 : decode cX6_isAsked 22 = .ok (.goto 4, 3) := by decide +kernel
theorem dX6_isAsked_25 : decode cX6_isAsked 25 = .ok (.iconst 0, 1) := by decide +kernel
theorem dX6_isAsked_26 : decode cX6_isAsked 26 = .ok (.ireturn, 1) := by decide +kernel
theorem dX6_cutToLane_0 : decode cX6_cutToLane 0 = .ok (.iload_n 1, 1) := by decide +kernel
theorem dX6_cutToLane_1 : decode cX6_cutToLane 1 = .ok (.lookupswitch 33 #[(0, 27), (1, 30)], 27) := by decide +kernel
theorem dX6_cutToLane_28 : decode cX6_cutToLane 28 = .ok (.iload_n 0, 1) := by decide +kernel
theorem dX6_cutToLane_29 : decode cX6_cutToLane 29 = .ok (.i2b, 1) := by decide +kernel
theorem dX6_cutToLane_30 : decode cX6_cutToLane 30 = .ok (.ireturn, 1) := by decide +kernel
theorem dX6_cutToLane_31 : decode cX6_cutToLane 31 = .ok (.iload_n 0, 1) := by decide +kernel
theorem dX6_cutToLane_32 : decode cX6_cutToLane 32 = .ok (.i2s, 1) := by decide +kernel
theorem dX6_cutToLane_33 : decode cX6_cutToLane 33 = .ok (.ireturn, 1) := by decide +kernel
theorem dX6_cutToLane_34 : decode cX6_cutToLane 34 = .ok (.iload_n 0, 1) := by decide +kernel
theorem dX6_cutToLane_35 : decode cX6_cutToLane 35 = .ok (.ireturn, 1) := by decide +kernel
theorem dX6_isCutBy_0 : decode cX6_isCutBy 0 = .ok (.iload_n 0, 1) := by decide +kernel
theorem dX6_isCutBy_1 : decode cX6_isCutBy 1 = .ok (.iload_n 1, 1) := by decide +kernel
theorem dX6_isCutBy_2 : decode cX6_isCutBy 2 = .ok (.iand, 1) := by decide +kernel
theorem dX6_isCutBy_3 : decode cX6_isCutBy 3 = .ok (.istore_n 2, 1) := by decide +kernel
theorem dX6_isCutBy_4 : decode cX6_isCutBy 4 = .ok (.iload_n 2, 1) := by decide +kernel
theorem dX6_isCutBy_5 : decode cX6_isCutBy 5 = .ok (.ifCond .eq 12, 3) := by decide +kernel
theorem dX6_isCutBy_8 : decode cX6_isCutBy 8 = .ok (.iload_n 2, 1) := by decide +kernel
theorem dX6_isCutBy_9 : decode cX6_isCutBy 9 = .ok (.iload_n 0, 1) := by decide +kernel
theorem dX6_isCutBy_10 : decode cX6_isCutBy 10 = .ok (.if_icmp .eq 7, 3) := by decide +kernel
theorem dX6_isCutBy_13 : decode cX6_isCutBy 13 = .ok (.iconst 1, 1) := by decide +kernel
theorem dX6_isCutBy_14 : decode cX6_isCutBy 14 = .ok (.goto 4, 3) := by decide +kernel
theorem dX6_isCutBy_17 : decode cX6_isCutBy 17 = .ok (.iconst 0, 1) := by decide +kernel
theorem dX6_isCutBy_18 : decode cX6_isCutBy 18 = .ok (.ireturn, 1) := by decide +kernel
theorem dX6_floatBits_0 : decode cX6_floatBits 0 = .ok (.iload_n 0, 1) := by decide +kernel
theorem dX6_floatBits_1 : decode cX6_floatBits 1 = .ok (.ifCond .le 7, 3) := by decide +kernel
theorem dX6_floatBits_4 : decode cX6_floatBits 4 = .ok (.iload_n 1, 1) := by decide +kernel
theorem dX6_floatBits_5 : decode cX6_floatBits 5 = .ok (.ifCond .gt 5, 3) := by decide +kernel
theorem dX6_floatBits_8 : decode cX6_floatBits 8 = .ok (.iconst 0, 1) := by decide +kernel
theorem dX6_floatBits_9 : decode cX6_floatBits 9 = .ok (.ireturn, 1) := by decide +kernel
theorem dX6_floatBits_10 : decode cX6_floatBits 10 = .ok (.iload_n 0, 1) := by decide +kernel
theorem dX6_floatBits_11 : decode cX6_floatBits 11 = .ok (.i2l, 1) := by decide +kernel
theorem dX6_floatBits_12 : decode cX6_floatBits 12 = .ok (.lstore_n 2, 1) := by decide +kernel
theorem dX6_floatBits_13 : decode cX6_floatBits 13 = .ok (.bipush 127, 2) := by decide +kernel
theorem dX6_floatBits_15 : decode cX6_floatBits 15 = .ok (.istore 4, 2) := by decide +kernel
theorem dX6_floatBits_17 : decode cX6_floatBits 17 = .ok (.iconst 0, 1) := by decide +kernel
theorem dX6_floatBits_18 : decode cX6_floatBits 18 = .ok (.istore 5, 2) := by decide +kernel
theorem dX6_floatBits_20 : decode cX6_floatBits 20 = .ok (.iload 5, 2) := by decide +kernel
theorem dX6_floatBits_22 : decode cX6_floatBits 22 = .ok (.bipush 31, 2) := by decide +kernel
theorem dX6_floatBits_24 : decode cX6_floatBits 24 = .ok (.if_icmp .ge 25, 3) := by decide +kernel
theorem dX6_floatBits_27 : decode cX6_floatBits 27 = .ok (.lload_n 2, 1) := by decide +kernel
theorem dX6_floatBits_28 : decode cX6_floatBits 28 = .ok (.iload_n 1, 1) := by decide +kernel
theorem dX6_floatBits_29 : decode cX6_floatBits 29 = .ok (.i2l, 1) := by decide +kernel
theorem dX6_floatBits_30 : decode cX6_floatBits 30 = .ok (.lcmp, 1) := by decide +kernel
theorem dX6_floatBits_31 : decode cX6_floatBits 31 = .ok (.ifCond .ge 18, 3) := by decide +kernel
theorem dX6_floatBits_34 : decode cX6_floatBits 34 = .ok (.lload_n 2, 1) := by decide +kernel
theorem dX6_floatBits_35 : decode cX6_floatBits 35 = .ok (.ldc2_w 292, 3) := by decide +kernel
theorem dX6_floatBits_38 : decode cX6_floatBits 38 = .ok (.lmul, 1) := by decide +kernel
theorem dX6_floatBits_39 : decode cX6_floatBits 39 = .ok (.lstore_n 2, 1) := by decide +kernel
theorem dX6_floatBits_40 : decode cX6_floatBits 40 = .ok (.iinc 4 (-1), 3) := by decide +kernel
theorem dX6_floatBits_43 : decode cX6_floatBits 43 = .ok (.iinc 5 1, 3) := by decide +kernel
theorem dX6_floatBits_46 : decode cX6_floatBits 46 = .ok (.goto (-26), 3) := by decide +kernel
theorem dX6_floatBits_49 : decode cX6_floatBits 49 = .ok (.lload_n 2, 1) := by decide +kernel
theorem dX6_floatBits_50 : decode cX6_floatBits 50 = .ok (.bipush 23, 2) := by decide +kernel
theorem dX6_floatBits_52 : decode cX6_floatBits 52 = .ok (.lshl, 1) := by decide +kernel
theorem dX6_floatBits_53 : decode cX6_floatBits 53 = .ok (.lstore_n 2, 1) := by decide +kernel
theorem dX6_floatBits_54 : decode cX6_floatBits 54 = .ok (.lload_n 2, 1) := by decide +kernel
theorem dX6_floatBits_55 : decode cX6_floatBits 55 = .ok (.iload_n 1, 1) := by decide +kernel
theorem dX6_floatBits_56 : decode cX6_floatBits 56 = .ok (.i2l, 1) := by decide +kernel
theorem dX6_floatBits_57 : decode cX6_floatBits 57 = .ok (.ldiv, 1) := by decide +kernel
theorem dX6_floatBits_58 : decode cX6_floatBits 58 = .ok (.lstore 5, 2) := by decide +kernel
theorem dX6_floatBits_60 : decode cX6_floatBits 60 = .ok (.ldc2_w 292, 3) := by decide +kernel
theorem dX6_floatBits_63 : decode cX6_floatBits 63 = .ok (.lload_n 2, 1) := by decide +kernel
theorem dX6_floatBits_64 : decode cX6_floatBits 64 = .ok (.iload_n 1, 1) := by decide +kernel
theorem dX6_floatBits_65 : decode cX6_floatBits 65 = .ok (.i2l, 1) := by decide +kernel
theorem dX6_floatBits_66 : decode cX6_floatBits 66 = .ok (.lrem, 1) := by decide +kernel
theorem dX6_floatBits_67 : decode cX6_floatBits 67 = .ok (.lmul, 1) := by decide +kernel
theorem dX6_floatBits_68 : decode cX6_floatBits 68 = .ok (.lstore 7, 2) := by decide +kernel
theorem dX6_floatBits_70 : decode cX6_floatBits 70 = .ok (.lload 7, 2) := by decide +kernel
theorem dX6_floatBits_72 : decode cX6_floatBits 72 = .ok (.iload_n 1, 1) := by decide +kernel
theorem dX6_floatBits_73 : decode cX6_floatBits 73 = .ok (.i2l, 1) := by decide +kernel
theorem dX6_floatBits_74 : decode cX6_floatBits 74 = .ok (.lcmp, 1) := by decide +kernel
theorem dX6_floatBits_75 : decode cX6_floatBits 75 = .ok (.ifCond .gt 22, 3) := by decide +kernel
theorem dX6_floatBits_78 : decode cX6_floatBits 78 = .ok (.lload 7, 2) := by decide +kernel
theorem dX6_floatBits_80 : decode cX6_floatBits 80 = .ok (.iload_n 1, 1) := by decide +kernel
theorem dX6_floatBits_81 : decode cX6_floatBits 81 = .ok (.i2l, 1) := by decide +kernel
theorem dX6_floatBits_82 : decode cX6_floatBits 82 = .ok (.lcmp, 1) := by decide +kernel
theorem dX6_floatBits_83 : decode cX6_floatBits 83 = .ok (.ifCond .ne 20, 3) := by decide +kernel
theorem dX6_floatBits_86 : decode cX6_floatBits 86 = .ok (.lload 5, 2) := by decide +kernel
theorem dX6_floatBits_88 : decode cX6_floatBits 88 = .ok (.ldc2_w 292, 3) := by decide +kernel
theorem dX6_floatBits_91 : decode cX6_floatBits 91 = .ok (.lrem, 1) := by decide +kernel
theorem dX6_floatBits_92 : decode cX6_floatBits 92 = .ok (.lconst 1, 1) := by decide +kernel
theorem dX6_floatBits_93 : decode cX6_floatBits 93 = .ok (.lcmp, 1) := by decide +kernel
theorem dX6_floatBits_94 : decode cX6_floatBits 94 = .ok (.ifCond .ne 9, 3) := by decide +kernel
theorem dX6_floatBits_97 : decode cX6_floatBits 97 = .ok (.lload 5, 2) := by decide +kernel
theorem dX6_floatBits_99 : decode cX6_floatBits 99 = .ok (.lconst 1, 1) := by decide +kernel
theorem dX6_floatBits_100 : decode cX6_floatBits 100 = .ok (.ladd, 1) := by decide +kernel
theorem dX6_floatBits_101 : decode cX6_floatBits 101 = .ok (.lstore 5, 2) := by decide +kernel
theorem dX6_floatBits_103 : decode cX6_floatBits 103 = .ok (.iload 4, 2) := by decide +kernel
theorem dX6_floatBits_105 : decode cX6_floatBits 105 = .ok (.iconst 1, 1) := by decide +kernel
theorem dX6_floatBits_106 : decode cX6_floatBits 106 = .ok (.isub, 1) := by decide +kernel
theorem dX6_floatBits_107 : decode cX6_floatBits 107 = .ok (.i2l, 1) := by decide +kernel
theorem dX6_floatBits_108 : decode cX6_floatBits 108 = .ok (.bipush 23, 2) := by decide +kernel
theorem dX6_floatBits_110 : decode cX6_floatBits 110 = .ok (.lshl, 1) := by decide +kernel
theorem dX6_floatBits_111 : decode cX6_floatBits 111 = .ok (.lload 5, 2) := by decide +kernel
theorem dX6_floatBits_113 : decode cX6_floatBits 113 = .ok (.ladd, 1) := by decide +kernel
theorem dX6_floatBits_114 : decode cX6_floatBits 114 = .ok (.l2i, 1) := by decide +kernel
theorem dX6_floatBits_115 : decode cX6_floatBits 115 = .ok (.ireturn, 1) := by decide +kernel
theorem dX6_areActs_0 : decode cX6_areActs 0 = .ok (.iconst 0, 1) := by decide +kernel
theorem dX6_areActs_1 : decode cX6_areActs 1 = .ok (.istore_n 3, 1) := by decide +kernel
theorem dX6_areActs_2 : decode cX6_areActs 2 = .ok (.iload_n 3, 1) := by decide +kernel
theorem dX6_areActs_3 : decode cX6_areActs 3 = .ok (.iload_n 2, 1) := by decide +kernel
theorem dX6_areActs_4 : decode cX6_areActs 4 = .ok (.if_icmp .ge 39, 3) := by decide +kernel
theorem dX6_areActs_7 : decode cX6_areActs 7 = .ok (.aload_n 0, 1) := by decide +kernel
theorem dX6_areActs_8 : decode cX6_areActs 8 = .ok (.getfield 262, 3) := by decide +kernel
theorem dX6_areActs_11 : decode cX6_areActs 11 = .ok (.iload_n 1, 1) := by decide +kernel
theorem dX6_areActs_12 : decode cX6_areActs 12 = .ok (.iconst 2, 1) := by decide +kernel
theorem dX6_areActs_13 : decode cX6_areActs 13 = .ok (.iload_n 3, 1) := by decide +kernel
theorem dX6_areActs_14 : decode cX6_areActs 14 = .ok (.imul, 1) := by decide +kernel
theorem dX6_areActs_15 : decode cX6_areActs 15 = .ok (.iadd, 1) := by decide +kernel
theorem dX6_areActs_16 : decode cX6_areActs 16 = .ok (.iaload, 1) := by decide +kernel
theorem dX6_areActs_17 : decode cX6_areActs 17 = .ok (.aload_n 0, 1) := by decide +kernel
theorem dX6_areActs_18 : decode cX6_areActs 18 = .ok (.getfield 262, 3) := by decide +kernel
theorem dX6_areActs_21 : decode cX6_areActs 21 = .ok (.iload_n 1, 1) := by decide +kernel
theorem dX6_areActs_22 : decode cX6_areActs 22 = .ok (.iconst 2, 1) := by decide +kernel
theorem dX6_areActs_23 : decode cX6_areActs 23 = .ok (.iload_n 3, 1) := by decide +kernel
theorem dX6_areActs_24 : decode cX6_areActs 24 = .ok (.imul, 1) := by decide +kernel
theorem dX6_areActs_25 : decode cX6_areActs 25 = .ok (.iadd, 1) := by decide +kernel
theorem dX6_areActs_26 : decode cX6_areActs 26 = .ok (.iconst 1, 1) := by decide +kernel
theorem dX6_areActs_27 : decode cX6_areActs 27 = .ok (.iadd, 1) := by decide +kernel
theorem dX6_areActs_28 : decode cX6_areActs 28 = .ok (.iaload, 1) := by decide +kernel
theorem dX6_areActs_29 : decode cX6_areActs 29 = .ok (.invokestatic 294, 3) := by decide +kernel
theorem dX6_areActs_32 : decode cX6_areActs 32 = .ok (.ifCond .ne 5, 3) := by decide +kernel
theorem dX6_areActs_35 : decode cX6_areActs 35 = .ok (.iconst 0, 1) := by decide +kernel
theorem dX6_areActs_36 : decode cX6_areActs 36 = .ok (.ireturn, 1) := by decide +kernel
theorem dX6_areActs_37 : decode cX6_areActs 37 = .ok (.iinc 3 1, 3) := by decide +kernel
theorem dX6_areActs_40 : decode cX6_areActs 40 = .ok (.goto (-38), 3) := by decide +kernel
theorem dX6_areActs_43 : decode cX6_areActs 43 = .ok (.iconst 1, 1) := by decide +kernel
theorem dX6_areActs_44 : decode cX6_areActs 44 = .ok (.ireturn, 1) := by decide +kernel
theorem dX6_isAct_0 : decode cX6_isAct 0 = .ok (.iload_n 1, 1) := by decide +kernel
theorem dX6_isAct_1 : decode cX6_isAct 1 = .ok (.bipush 20, 2) := by decide +kernel
theorem dX6_isAct_3 : decode cX6_isAct 3 = .ok (.if_icmp .ne 8, 3) := by decide +kernel
theorem dX6_isAct_6 : decode cX6_isAct 6 = .ok (.iload_n 0, 1) := by decide +kernel
theorem dX6_isAct_7 : decode cX6_isAct 7 = .ok (.invokestatic 175, 3) := by decide +kernel
theorem dX6_isAct_10 : decode cX6_isAct 10 = .ok (.ireturn, 1) := by decide +kernel
theorem dX6_isAct_11 : decode cX6_isAct 11 = .ok (.iload_n 1, 1) := by decide +kernel
theorem dX6_isAct_12 : decode cX6_isAct 12 = .ok (.bipush 10, 2) := by decide +kernel
theorem dX6_isAct_14 : decode cX6_isAct 14 = .ok (.if_icmp .lt 14, 3) := by decide +kernel
theorem dX6_isAct_17 : decode cX6_isAct 17 = .ok (.iload_n 1, 1) := by decide +kernel
theorem dX6_isAct_18 : decode cX6_isAct 18 = .ok (.bipush 17, 2) := by decide +kernel
theorem dX6_isAct_20 : decode cX6_isAct 20 = .ok (.if_icmp .ge 8, 3) := by decide +kernel
theorem dX6_isAct_23 : decode cX6_isAct 23 = .ok (.iload_n 0, 1) := by decide +kernel
theorem dX6_isAct_24 : decode cX6_isAct 24 = .ok (.invokestatic 156, 3) := by decide +kernel
theorem dX6_isAct_27 : decode cX6_isAct 27 = .ok (.ireturn, 1) := by decide +kernel
theorem dX6_isAct_28 : decode cX6_isAct 28 = .ok (.iload_n 1, 1) := by decide +kernel
theorem dX6_isAct_29 : decode cX6_isAct 29 = .ok (.ifCond .lt 17, 3) := by decide +kernel
theorem dX6_isAct_32 : decode cX6_isAct 32 = .ok (.iload_n 1, 1) := by decide +kernel
theorem dX6_isAct_33 : decode cX6_isAct 33 = .ok (.bipush 7, 2) := by decide +kernel
theorem dX6_isAct_35 : decode cX6_isAct 35 = .ok (.if_icmp .ge 11, 3) := by decide +kernel
theorem dX6_isAct_38 : decode cX6_isAct 38 = .ok (.iload_n 0, 1) := by decide +kernel
theorem dX6_isAct_39 : decode cX6_isAct 39 = .ok (.ifCond .ne 7, 3) := by decide +kernel
theorem dX6_isAct_42 : decode cX6_isAct 42 = .ok (.iconst 1, 1) := by decide +kernel
theorem dX6_isAct_43 : decode cX6_isAct 43 = .ok (.goto 4, 3) := by decide +kernel
theorem dX6_isAct_46 : decode cX6_isAct 46 = .ok (.iconst 0, 1) := by decide +kernel
theorem dX6_isAct_47 : decode cX6_isAct 47 = .ok (.ireturn, 1) := by decide +kernel
theorem dX6_firstWrong_0 : decode cX6_firstWrong 0 = .ok (.aload_n 0, 1) := by decide +kernel
theorem dX6_firstWrong_1 : decode cX6_firstWrong 1 = .ok (.getfield 24, 3) := by decide +kernel
theorem dX6_firstWrong_4 : decode cX6_firstWrong 4 = .ok (.aload_n 0, 1) := by decide +kernel
theorem dX6_firstWrong_5 : decode cX6_firstWrong 5 = .ok (.getfield 20, 3) := by decide +kernel
theorem dX6_firstWrong_8 : decode cX6_firstWrong 8 = .ok (.invokevirtual 88, 3) := by decide +kernel
theorem dX6_firstWrong_11 : decode cX6_firstWrong 11 = .ok (.iconst 0, 1) := by decide +kernel
theorem dX6_firstWrong_12 : decode cX6_firstWrong 12 = .ok (.istore 4, 2) := by decide +kernel
theorem dX6_firstWrong_14 : decode cX6_firstWrong 14 = .ok (.iload 4, 2) := by decide +kernel
theorem dX6_firstWrong_16 : decode cX6_firstWrong 16 = .ok (.iload_n 3, 1) := by decide +kernel
theorem dX6_firstWrong_17 : decode cX6_firstWrong 17 = .ok (.if_icmp .ge 74, 3) := by decide +kernel
theorem dX6_firstWrong_20 : decode cX6_firstWrong 20 = .ok (.aload_n 1, 1) := by decide +kernel
theorem dX6_firstWrong_21 : decode cX6_firstWrong 21 = .ok (.getfield 262, 3) := by decide +kernel
theorem dX6_firstWrong_24 : decode cX6_firstWrong 24 = .ok (.iload_n 2, 1) := by decide +kernel
theorem dX6_firstWrong_25 : decode cX6_firstWrong 25 = .ok (.iconst 2, 1) := by decide +kernel
theorem dX6_firstWrong_26 : decode cX6_firstWrong 26 = .ok (.iload 4, 2) := by decide +kernel
theorem dX6_firstWrong_28 : decode cX6_firstWrong 28 = .ok (.imul, 1) := by decide +kernel
theorem dX6_firstWrong_29 : decode cX6_firstWrong 29 = .ok (.iadd, 1) := by decide +kernel
theorem dX6_firstWrong_30 : decode cX6_firstWrong 30 = .ok (.iaload, 1) := by decide +kernel
theorem dX6_firstWrong_31 : decode cX6_firstWrong 31 = .ok (.istore 5, 2) := by decide +kernel
theorem dX6_firstWrong_33 : decode cX6_firstWrong 33 = .ok (.aload_n 1, 1) := by decide +kernel
theorem dX6_firstWrong_34 : decode cX6_firstWrong 34 = .ok (.getfield 262, 3) := by decide +kernel
theorem dX6_firstWrong_37 : decode cX6_firstWrong 37 = .ok (.iload_n 2, 1) := by decide +kernel
theorem dX6_firstWrong_38 : decode cX6_firstWrong 38 = .ok (.iconst 2, 1) := by decide +kernel
theorem dX6_firstWrong_39 : decode cX6_firstWrong 39 = .ok (.iload 4, 2) := by decide +kernel
theorem dX6_firstWrong_41 : decode cX6_firstWrong 41 = .ok (.imul, 1) := by decide +kernel
theorem dX6_firstWrong_42 : decode cX6_firstWrong 42 = .ok (.iadd, 1) := by decide +kernel
theorem dX6_firstWrong_43 : decode cX6_firstWrong 43 = .ok (.iconst 1, 1) := by decide +kernel
theorem dX6_firstWrong_44 : decode cX6_firstWrong 44 = .ok (.iadd, 1) := by decide +kernel
theorem dX6_firstWrong_45 : decode cX6_firstWrong 45 = .ok (.iaload, 1) := by decide +kernel
theorem dX6_firstWrong_46 : decode cX6_firstWrong 46 = .ok (.istore 6, 2) := by decide +kernel
theorem dX6_firstWrong_48 : decode cX6_firstWrong 48 = .ok (.iload 6, 2) := by decide +kernel
theorem dX6_firstWrong_50 : decode cX6_firstWrong 50 = .ok (.bipush 20, 2) := by decide +kernel
theorem dX6_firstWrong_52 : decode cX6_firstWrong 52 = .ok (.if_icmp .ne 19, 3) := by decide +kernel
theorem dX6_firstWrong_55 : decode cX6_firstWrong 55 = .ok (.aload_n 0, 1) := by decide +kernel
theorem dX6_firstWrong_56 : decode cX6_firstWrong 56 = .ok (.getfield 37, 3) := by decide +kernel
theorem dX6_firstWrong_59 : decode cX6_firstWrong 59 = .ok (.aload_n 0, 1) := by decide +kernel
theorem dX6_firstWrong_60 : decode cX6_firstWrong 60 = .ok (.getfield 24, 3) := by decide +kernel
theorem dX6_firstWrong_63 : decode cX6_firstWrong 63 = .ok (.iload 5, 2) := by decide +kernel
theorem dX6_firstWrong_65 : decode cX6_firstWrong 65 = .ok (.invokevirtual 178, 3) := by decide +kernel
theorem dX6_firstWrong_68 : decode cX6_firstWrong 68 = .ok (.goto 17, 3) := by decide +kernel
theorem dX6_firstWrong_71 : decode cX6_firstWrong 71 = .ok (.aload_n 0, 1) := by decide +kernel
theorem dX6_firstWrong_72 : decode cX6_firstWrong 72 = .ok (.iload 5, 2) := by decide +kernel
theorem dX6_firstWrong_74 : decode cX6_firstWrong 74 = .ok (.iload 6, 2) := by decide +kernel
theorem dX6_firstWrong_76 : decode cX6_firstWrong 76 = .ok (.invokevirtual 297, 3) := by decide +kernel
theorem dX6_firstWrong_79 : decode cX6_firstWrong 79 = .ok (.ifCond .ne 6, 3) := by decide +kernel
theorem dX6_firstWrong_82 : decode cX6_firstWrong 82 = .ok (.iload 4, 2) := by decide +kernel
theorem dX6_firstWrong_84 : decode cX6_firstWrong 84 = .ok (.ireturn, 1) := by decide +kernel
theorem dX6_firstWrong_85 : decode cX6_firstWrong 85 = .ok (.iinc 4 1, 3) := by decide +kernel
theorem dX6_firstWrong_88 : decode cX6_firstWrong 88 = .ok (.goto (-74), 3) := by decide +kernel
theorem dX6_firstWrong_91 : decode cX6_firstWrong 91 = .ok (.bipush (-9), 2) := by decide +kernel
theorem dX6_firstWrong_93 : decode cX6_firstWrong 93 = .ok (.ireturn, 1) := by decide +kernel
theorem dX6_isDone_0 : decode cX6_isDone 0 = .ok (.iload_n 2, 1) := by decide +kernel
theorem dX6_isDone_1 : decode cX6_isDone 1 = .ok (.bipush 10, 2) := by decide +kernel
theorem dX6_isDone_3 : decode cX6_isDone 3 = .ok (.if_icmp .ge 7, 3) := by decide +kernel
theorem dX6_isDone_6 : decode cX6_isDone 6 = .ok (.iconst 1, 1) := by decide +kernel
theorem dX6_isDone_7 : decode cX6_isDone 7 = .ok (.goto 4, 3) := by decide +kernel
theorem dX6_isDone_10 : decode cX6_isDone 10 = .ok (.iconst 0, 1) := by decide +kernel
theorem dX6_isDone_11 : decode cX6_isDone 11 = .ok (.istore_n 3, 1) := by decide +kernel
theorem dX6_isDone_12 : decode cX6_isDone 12 = .ok (.iload_n 3, 1) := by decide +kernel
theorem dX6_isDone_13 : decode cX6_isDone 13 = .ok (.ifCond .eq 7, 3) := by decide +kernel
theorem dX6_isDone_16 : decode cX6_isDone 16 = .ok (.iload_n 2, 1) := by decide +kernel
theorem dX6_isDone_17 : decode cX6_isDone 17 = .ok (.goto 7, 3) := by decide +kernel
theorem dX6_isDone_20 : decode cX6_isDone 20 = .ok (.iload_n 2, 1) := by decide +kernel
theorem dX6_isDone_21 : decode cX6_isDone 21 = .ok (.bipush 10, 2) := by decide +kernel
theorem dX6_isDone_23 : decode cX6_isDone 23 = .ok (.isub, 1) := by decide +kernel
theorem dX6_isDone_24 : decode cX6_isDone 24 = .ok (.istore 4, 2) := by decide +kernel
theorem dX6_isDone_26 : decode cX6_isDone 26 = .ok (.iload 4, 2) := by decide +kernel
theorem dX6_isDone_28 : decode cX6_isDone 28 = .ok (.aload_n 0, 1) := by decide +kernel
theorem dX6_isDone_29 : decode cX6_isDone 29 = .ok (.getfield 24, 3) := by decide +kernel
theorem dX6_isDone_32 : decode cX6_isDone 32 = .ok (.getfield 99, 3) := by decide +kernel
theorem dX6_isDone_35 : decode cX6_isDone 35 = .ok (.if_icmp .ge 19, 3) := by decide +kernel
theorem dX6_isDone_38 : decode cX6_isDone 38 = .ok (.iload_n 3, 1) := by decide +kernel
theorem dX6_isDone_39 : decode cX6_isDone 39 = .ok (.ifCond .eq 17, 3) := by decide +kernel
theorem dX6_isDone_42 : decode cX6_isDone 42 = .ok (.aload_n 0, 1) := by decide +kernel
theorem dX6_isDone_43 : decode cX6_isDone 43 = .ok (.getfield 24, 3) := by decide +kernel
theorem dX6_isDone_46 : decode cX6_isDone 46 = .ok (.iload 4, 2) := by decide +kernel
theorem dX6_isDone_48 : decode cX6_isDone 48 = .ok (.invokevirtual 118, 3) := by decide +kernel
theorem dX6_isDone_51 : decode cX6_isDone 51 = .ok (.ifCond .eq 5, 3) := by decide +kernel
theorem dX6_isDone_54 : decode cX6_isDone 54 = .ok (.iconst 0, 1) := by decide +kernel
theorem dX6_isDone_55 : decode cX6_isDone 55 = .ok (.ireturn, 1) := by decide +kernel
theorem dX6_isDone_56 : decode cX6_isDone 56 = .ok (.iload_n 3, 1) := by decide +kernel
theorem dX6_isDone_57 : decode cX6_isDone 57 = .ok (.ifCond .eq 15, 3) := by decide +kernel
theorem dX6_isDone_60 : decode cX6_isDone 60 = .ok (.aload_n 0, 1) := by decide +kernel
theorem dX6_isDone_61 : decode cX6_isDone 61 = .ok (.getfield 24, 3) := by decide +kernel
theorem dX6_isDone_64 : decode cX6_isDone 64 = .ok (.iload 4, 2) := by decide +kernel
theorem dX6_isDone_66 : decode cX6_isDone 66 = .ok (.invokevirtual 168, 3) := by decide +kernel
theorem dX6_isDone_69 : decode cX6_isDone 69 = .ok (.goto 23, 3) := by decide +kernel
theorem dX6_isDone_72 : decode cX6_isDone 72 = .ok (.aload_n 0, 1) := by decide +kernel
theorem dX6_isDone_73 : decode cX6_isDone 73 = .ok (.getfield 24, 3) := by decide +kernel
theorem dX6_isDone_76 : decode cX6_isDone 76 = .ok (.iload 4, 2) := by decide +kernel
theorem dX6_isDone_78 : decode cX6_isDone 78 = .ok (.aload_n 0, 1) := by decide +kernel
theorem dX6_isDone_79 : decode cX6_isDone 79 = .ok (.getfield 24, 3) := by decide +kernel
theorem dX6_isDone_82 : decode cX6_isDone 82 = .ok (.getfield 105, 3) := by decide +kernel
theorem dX6_isDone_85 : decode cX6_isDone 85 = .ok (.iload 4, 2) := by decide +kernel
theorem dX6_isDone_87 : decode cX6_isDone 87 = .ok (.iaload, 1) := by decide +kernel
theorem dX6_isDone_88 : decode cX6_isDone 88 = .ok (.iload_n 1, 1) := by decide +kernel
theorem dX6_isDone_89 : decode cX6_isDone 89 = .ok (.invokevirtual 159, 3) := by decide +kernel
theorem dX6_isDone_92 : decode cX6_isDone 92 = .ok (.iconst 1, 1) := by decide +kernel
theorem dX6_isDone_93 : decode cX6_isDone 93 = .ok (.ireturn, 1) := by decide +kernel
theorem dX6_afterDay_0 : decode cX6_afterDay 0 = .ok (.iload_n 1, 1) := by decide +kernel
theorem dX6_afterDay_1 : decode cX6_afterDay 1 = .ok (.tableswitch 81 0 4 #[35, 81, 43, 51, 66], 35) := by decide +kernel
theorem dX6_afterDay_36 : decode cX6_afterDay 36 = .ok (.aload_n 0, 1) := by decide +kernel
theorem dX6_afterDay_37 : decode cX6_afterDay 37 = .ok (.getfield 24, 3) := by decide +kernel
theorem dX6_afterDay_40 : decode cX6_afterDay 40 = .ok (.invokevirtual 172, 3) := by decide +kernel
theorem dX6_afterDay_43 : decode cX6_afterDay 43 = .ok (.ireturn, 1) := by decide +kernel
theorem dX6_afterDay_44 : decode cX6_afterDay 44 = .ok (.aload_n 0, 1) := by decide +kernel
theorem dX6_afterDay_45 : decode cX6_afterDay 45 = .ok (.getfield 24, 3) := by decide +kernel
theorem dX6_afterDay_48 : decode cX6_afterDay 48 = .ok (.getfield 136, 3) := by decide +kernel
theorem dX6_afterDay_51 : decode cX6_afterDay 51 = .ok (.ireturn, 1) := by decide +kernel
theorem dX6_afterDay_52 : decode cX6_afterDay 52 = .ok (.aload_n 0, 1) := by decide +kernel
theorem dX6_afterDay_53 : decode cX6_afterDay 53 = .ok (.getfield 24, 3) := by decide +kernel
theorem dX6_afterDay_56 : decode cX6_afterDay 56 = .ok (.aload_n 0, 1) := by decide +kernel
theorem dX6_afterDay_57 : decode cX6_afterDay 57 = .ok (.getfield 24, 3) := by decide +kernel
theorem dX6_afterDay_60 : decode cX6_afterDay 60 = .ok (.invokevirtual 146, 3) := by decide +kernel
theorem dX6_afterDay_63 : decode cX6_afterDay 63 = .ok (.invokevirtual 150, 3) := by decide +kernel
theorem dX6_afterDay_66 : decode cX6_afterDay 66 = .ok (.ireturn, 1) := by decide +kernel
theorem dX6_afterDay_67 : decode cX6_afterDay 67 = .ok (.aload_n 0, 1) := by decide +kernel
theorem dX6_afterDay_68 : decode cX6_afterDay 68 = .ok (.getfield 24, 3) := by decide +kernel
theorem dX6_afterDay_71 : decode cX6_afterDay 71 = .ok (.aload_n 0, 1) := by decide +kernel
theorem dX6_afterDay_72 : decode cX6_afterDay 72 = .ok (.getfield 24, 3) := by decide +kernel
theorem dX6_afterDay_75 : decode cX6_afterDay 75 = .ok (.invokevirtual 146, 3) := by decide +kernel
theorem dX6_afterDay_78 : decode cX6_afterDay 78 = .ok (.invokevirtual 127, 3) := by decide +kernel
theorem dX6_afterDay_81 : decode cX6_afterDay 81 = .ok (.ireturn, 1) := by decide +kernel
theorem dX6_afterDay_82 : decode cX6_afterDay 82 = .ok (.aload_n 0, 1) := by decide +kernel
theorem dX6_afterDay_83 : decode cX6_afterDay 83 = .ok (.iload_n 1, 1) := by decide +kernel
theorem dX6_afterDay_84 : decode cX6_afterDay 84 = .ok (.bipush 10, 2) := by decide +kernel
theorem dX6_afterDay_86 : decode cX6_afterDay 86 = .ok (.isub, 1) := by decide +kernel
theorem dX6_afterDay_87 : decode cX6_afterDay 87 = .ok (.invokevirtual 102, 3) := by decide +kernel
theorem dX6_afterDay_90 : decode cX6_afterDay 90 = .ok (.ifCond .eq 20, 3) := by decide +kernel
theorem dX6_afterDay_93 : decode cX6_afterDay 93 = .ok (.aload_n 0, 1) := by decide +kernel
theorem dX6_afterDay_94 : decode cX6_afterDay 94 = .ok (.getfield 24, 3) := by decide +kernel
theorem dX6_afterDay_97 : decode cX6_afterDay 97 = .ok (.iload_n 1, 1) := by decide +kernel
theorem dX6_afterDay_98 : decode cX6_afterDay 98 = .ok (.bipush 10, 2) := by decide +kernel
theorem dX6_afterDay_100 : decode cX6_afterDay 100 = .ok (.isub, 1) := by decide +kernel
theorem dX6_afterDay_101 : decode cX6_afterDay 101 = .ok (.invokevirtual 124, 3) := by decide +kernel
theorem dX6_afterDay_104 : decode cX6_afterDay 104 = .ok (.bipush 10, 2) := by decide +kernel
theorem dX6_afterDay_106 : decode cX6_afterDay 106 = .ok (.iadd, 1) := by decide +kernel
theorem dX6_afterDay_107 : decode cX6_afterDay 107 = .ok (.goto 5, 3) := by decide +kernel
theorem dX6_afterDay_110 : decode cX6_afterDay 110 = .ok (.bipush (-9), 2) := by decide +kernel
theorem dX6_afterDay_112 : decode cX6_afterDay 112 = .ok (.ireturn, 1) := by decide +kernel
theorem dX6_leaveInTrace_0 : decode cX6_leaveInTrace 0 = .ok (.aload_n 0, 1) := by decide +kernel
theorem dX6_leaveInTrace_1 : decode cX6_leaveInTrace 1 = .ok (.bipush 31, 2) := by decide +kernel
theorem dX6_leaveInTrace_3 : decode cX6_leaveInTrace 3 = .ok (.aload_n 0, 1) := by decide +kernel
theorem dX6_leaveInTrace_4 : decode cX6_leaveInTrace 4 = .ok (.getfield 286, 3) := by decide +kernel
theorem dX6_leaveInTrace_7 : decode cX6_leaveInTrace 7 = .ok (.imul, 1) := by decide +kernel
theorem dX6_leaveInTrace_8 : decode cX6_leaveInTrace 8 = .ok (.iload_n 1, 1) := by decide +kernel
theorem dX6_leaveInTrace_9 : decode cX6_leaveInTrace 9 = .ok (.iadd, 1) := by decide +kernel
theorem dX6_leaveInTrace_10 : decode cX6_leaveInTrace 10 = .ok (.putfield 286, 3) := by decide +kernel
theorem dX6_leaveInTrace_13 : decode cX6_leaveInTrace 13 = .ok (.return_, 1) := by decide +kernel
theorem dX6_plainTold_0 : decode cX6_plainTold 0 = .ok (.aload_n 0, 1) := by decide +kernel
theorem dX6_plainTold_1 : decode cX6_plainTold 1 = .ok (.iconst 1, 1) := by decide +kernel
theorem dX6_plainTold_2 : decode cX6_plainTold 2 = .ok (.invokevirtual 283, 3) := by decide +kernel
theorem dX6_plainTold_5 : decode cX6_plainTold 5 = .ok (.aload_n 0, 1) := by decide +kernel
theorem dX6_plainTold_6 : decode cX6_plainTold 6 = .ok (.getfield 20, 3) := by decide +kernel
theorem dX6_plainTold_9 : decode cX6_plainTold 9 = .ok (.getfield 109, 3) := by decide +kernel
theorem dX6_plainTold_12 : decode cX6_plainTold 12 = .ok (.iload_n 1, 1) := by decide +kernel
theorem dX6_plainTold_13 : decode cX6_plainTold 13 = .ok (.iaload, 1) := by decide +kernel
theorem dX6_plainTold_14 : decode cX6_plainTold 14 = .ok (.ireturn, 1) := by decide +kernel
theorem dX6_bulkyTold_0 : decode cX6_bulkyTold 0 = .ok (.aload_n 0, 1) := by decide +kernel
theorem dX6_bulkyTold_1 : decode cX6_bulkyTold 1 = .ok (.iconst 2, 1) := by decide +kernel
theorem dX6_bulkyTold_2 : decode cX6_bulkyTold 2 = .ok (.invokevirtual 283, 3) := by decide +kernel
theorem dX6_bulkyTold_5 : decode cX6_bulkyTold 5 = .ok (.aload_n 0, 1) := by decide +kernel
theorem dX6_bulkyTold_6 : decode cX6_bulkyTold 6 = .ok (.iload_n 1, 1) := by decide +kernel
theorem dX6_bulkyTold_7 : decode cX6_bulkyTold 7 = .ok (.invokevirtual 280, 3) := by decide +kernel
theorem dX6_bulkyTold_10 : decode cX6_bulkyTold 10 = .ok (.bipush 100, 2) := by decide +kernel
theorem dX6_bulkyTold_12 : decode cX6_bulkyTold 12 = .ok (.iadd, 1) := by decide +kernel
theorem dX6_bulkyTold_13 : decode cX6_bulkyTold 13 = .ok (.ireturn, 1) := by decide +kernel
theorem dX6_doubleTold_0 : decode cX6_doubleTold 0 = .ok (.aload_n 0, 1) := by decide +kernel
theorem dX6_doubleTold_1 : decode cX6_doubleTold 1 = .ok (.iconst 3, 1) := by decide +kernel
theorem dX6_doubleTold_2 : decode cX6_doubleTold 2 = .ok (.invokevirtual 283, 3) := by decide +kernel
theorem dX6_doubleTold_5 : decode cX6_doubleTold 5 = .ok (.aload_n 0, 1) := by decide +kernel
theorem dX6_doubleTold_6 : decode cX6_doubleTold 6 = .ok (.iload_n 1, 1) := by decide +kernel
theorem dX6_doubleTold_7 : decode cX6_doubleTold 7 = .ok (.invokevirtual 277, 3) := by decide +kernel
theorem dX6_doubleTold_10 : decode cX6_doubleTold 10 = .ok (.istore_n 2, 1) := by decide +kernel
theorem dX6_doubleTold_11 : decode cX6_doubleTold 11 = .ok (.iload_n 2, 1) := by decide +kernel
theorem dX6_doubleTold_12 : decode cX6_doubleTold 12 = .ok (.aload_n 0, 1) := by decide +kernel
theorem dX6_doubleTold_13 : decode cX6_doubleTold 13 = .ok (.iload_n 1, 1) := by decide +kernel
theorem dX6_doubleTold_14 : decode cX6_doubleTold 14 = .ok (.invokevirtual 280, 3) := by decide +kernel
theorem dX6_doubleTold_17 : decode cX6_doubleTold 17 = .ok (.iadd, 1) := by decide +kernel
theorem dX6_doubleTold_18 : decode cX6_doubleTold 18 = .ok (.ireturn, 1) := by decide +kernel
theorem dX7_init_0 : decode cX7_init 0 = .ok (.aload_n 0, 1) := by decide +kernel
theorem dX7_init_1 : decode cX7_init 1 = .ok (.invokespecial 1, 3) := by decide +kernel
theorem dX7_init_4 : decode cX7_init 4 = .ok (.aload_n 0, 1) := by decide +kernel
theorem dX7_init_5 : decode cX7_init 5 = .ok (.iconst 4, 1) := by decide +kernel
theorem dX7_init_6 : decode cX7_init 6 = .ok (.newarray .int, 2) := by decide +kernel
theorem dX7_init_8 : decode cX7_init 8 = .ok (.dup, 1) := by decide +kernel
theorem dX7_init_9 : decode cX7_init 9 = .ok (.iconst 0, 1) := by decide +kernel
theorem dX7_init_10 : decode cX7_init 10 = .ok (.bipush (-9), 2) := by decide +kernel
theorem dX7_init_12 : decode cX7_init 12 = .ok (.iastore, 1) := by decide +kernel
theorem dX7_init_13 : decode cX7_init 13 = .ok (.dup, 1) := by decide +kernel
theorem dX7_init_14 : decode cX7_init 14 = .ok (.iconst 1, 1) := by decide +kernel
theorem dX7_init_15 : decode cX7_init 15 = .ok (.bipush (-9), 2) := by decide +kernel
theorem dX7_init_17 : decode cX7_init 17 = .ok (.iastore, 1) := by decide +kernel
theorem dX7_init_18 : decode cX7_init 18 = .ok (.dup, 1) := by decide +kernel
theorem dX7_init_19 : decode cX7_init 19 = .ok (.iconst 2, 1) := by decide +kernel
theorem dX7_init_20 : decode cX7_init 20 = .ok (.bipush (-9), 2) := by decide +kernel
theorem dX7_init_22 : decode cX7_init 22 = .ok (.iastore, 1) := by decide +kernel
theorem dX7_init_23 : decode cX7_init 23 = .ok (.dup, 1) := by decide +kernel
theorem dX7_init_24 : decode cX7_init 24 = .ok (.iconst 3, 1) := by decide +kernel
theorem dX7_init_25 : decode cX7_init 25 = .ok (.bipush (-9), 2) := by decide +kernel
theorem dX7_init_27 : decode cX7_init 27 = .ok (.iastore, 1) := by decide +kernel
theorem dX7_init_28 : decode cX7_init 28 = .ok (.putfield 9, 3) := by decide +kernel
theorem dX7_init_31 : decode cX7_init 31 = .ok (.aload_n 0, 1) := by decide +kernel
theorem dX7_init_32 : decode cX7_init 32 = .ok (.iconst 4, 1) := by decide +kernel
theorem dX7_init_33 : decode cX7_init 33 = .ok (.newarray .int, 2) := by decide +kernel
theorem dX7_init_35 : decode cX7_init 35 = .ok (.putfield 13, 3) := by decide +kernel
theorem dX7_init_38 : decode cX7_init 38 = .ok (.aload_n 0, 1) := by decide +kernel
theorem dX7_init_39 : decode cX7_init 39 = .ok (.sipush 240, 3) := by decide +kernel
theorem dX7_init_42 : decode cX7_init 42 = .ok (.newarray .int, 2) := by decide +kernel
theorem dX7_init_44 : decode cX7_init 44 = .ok (.putfield 16, 3) := by decide +kernel
theorem dX7_init_47 : decode cX7_init 47 = .ok (.aload_n 0, 1) := by decide +kernel
theorem dX7_init_48 : decode cX7_init 48 = .ok (.ldc 19, 2) := by decide +kernel
theorem dX7_init_50 : decode cX7_init 50 = .ok (.putfield 20, 3) := by decide +kernel
theorem dX7_init_53 : decode cX7_init 53 = .ok (.aload_n 0, 1) := by decide +kernel
theorem dX7_init_54 : decode cX7_init 54 = .ok (.bipush (-9), 2) := by decide +kernel
theorem dX7_init_56 : decode cX7_init 56 = .ok (.putfield 24, 3) := by decide +kernel
theorem dX7_init_59 : decode cX7_init 59 = .ok (.aload_n 0, 1) := by decide +kernel
theorem dX7_init_60 : decode cX7_init 60 = .ok (.bipush 9, 2) := by decide +kernel
theorem dX7_init_62 : decode cX7_init 62 = .ok (.newarray .int, 2) := by decide +kernel
theorem dX7_init_64 : decode cX7_init 64 = .ok (.putfield 27, 3) := by decide +kernel
theorem dX7_init_67 : decode cX7_init 67 = .ok (.aload_n 0, 1) := by decide +kernel
theorem dX7_init_68 : decode cX7_init 68 = .ok (.bipush 7, 2) := by decide +kernel
theorem dX7_init_70 : decode cX7_init 70 = .ok (.newarray .int, 2) := by decide +kernel
theorem dX7_init_72 : decode cX7_init 72 = .ok (.putfield 30, 3) := by decide +kernel
theorem dX7_init_75 : decode cX7_init 75 = .ok (.aload_n 0, 1) := by decide +kernel
theorem dX7_init_76 : decode cX7_init 76 = .ok (.bipush 7, 2) := by decide +kernel
theorem dX7_init_78 : decode cX7_init 78 = .ok (.newarray .int, 2) := by decide +kernel
theorem dX7_init_80 : decode cX7_init 80 = .ok (.putfield 33, 3) := by decide +kernel
theorem dX7_init_83 : decode cX7_init 83 = .ok (.aload_n 0, 1) := by decide +kernel
theorem dX7_init_84 : decode cX7_init 84 = .ok (.bipush 6, 2) := by decide +kernel
theorem dX7_init_86 : decode cX7_init 86 = .ok (.newarray .int, 2) := by decide +kernel
theorem dX7_init_88 : decode cX7_init 88 = .ok (.putfield 36, 3) := by decide +kernel
theorem dX7_init_91 : decode cX7_init 91 = .ok (.aload_n 0, 1) := by decide +kernel
theorem dX7_init_92 : decode cX7_init 92 = .ok (.bipush 7, 2) := by decide +kernel
theorem dX7_init_94 : decode cX7_init 94 = .ok (.newarray .int, 2) := by decide +kernel
theorem dX7_init_96 : decode cX7_init 96 = .ok (.putfield 39, 3) := by decide +kernel
theorem dX7_init_99 : decode cX7_init 99 = .ok (.aload_n 0, 1) := by decide +kernel
theorem dX7_init_100 : decode cX7_init 100 = .ok (.bipush 7, 2) := by decide +kernel
theorem dX7_init_102 : decode cX7_init 102 = .ok (.newarray .int, 2) := by decide +kernel
theorem dX7_init_104 : decode cX7_init 104 = .ok (.putfield 42, 3) := by decide +kernel
theorem dX7_init_107 : decode cX7_init 107 = .ok (.aload_n 0, 1) := by decide +kernel
theorem dX7_init_108 : decode cX7_init 108 = .ok (.bipush 6, 2) := by decide +kernel
theorem dX7_init_110 : decode cX7_init 110 = .ok (.newarray .int, 2) := by decide +kernel
theorem dX7_init_112 : decode cX7_init 112 = .ok (.putfield 45, 3) := by decide +kernel
theorem dX7_init_115 : decode cX7_init 115 = .ok (.aload_n 0, 1) := by decide +kernel
theorem dX7_init_116 : decode cX7_init 116 = .ok (.bipush 7, 2) := by decide +kernel
theorem dX7_init_118 : decode cX7_init 118 = .ok (.newarray .int, 2) := by decide +kernel
theorem dX7_init_120 : decode cX7_init 120 = .ok (.putfield 48, 3) := by decide +kernel
theorem dX7_init_123 : decode cX7_init 123 = .ok (.aload_n 0, 1) := by decide +kernel
theorem dX7_init_124 : decode cX7_init 124 = .ok (.bipush 7, 2) := by decide +kernel
theorem dX7_init_126 : decode cX7_init 126 = .ok (.newarray .int, 2) := by decide +kernel
theorem dX7_init_128 : decode cX7_init 128 = .ok (.putfield 51, 3) := by decide +kernel
theorem dX7_init_131 : decode cX7_init 131 = .ok (.aload_n 0, 1) := by decide +kernel
theorem dX7_init_132 : decode cX7_init 132 = .ok (.bipush 8, 2) := by decide +kernel
theorem dX7_init_134 : decode cX7_init 134 = .ok (.newarray .int, 2) := by decide +kernel
theorem dX7_init_136 : decode cX7_init 136 = .ok (.putfield 54, 3) := by decide +kernel
theorem dX7_init_139 : decode cX7_init 139 = .ok (.aload_n 0, 1) := by decide +kernel
theorem dX7_init_140 : decode cX7_init 140 = .ok (.bipush 8, 2) := by decide +kernel
theorem dX7_init_142 : decode cX7_init 142 = .ok (.newarray .int, 2) := by decide +kernel
theorem dX7_init_144 : decode cX7_init 144 = .ok (.putfield 57, 3) := by decide +kernel
theorem dX7_init_147 : decode cX7_init 147 = .ok (.return_, 1) := by decide +kernel
theorem dX7_fails_0 : decode cX7_fails 0 = .ok (.aload_n 0, 1) := by decide +kernel
theorem dX7_fails_1 : decode cX7_fails 1 = .ok (.iload_n 1, 1) := by decide +kernel
theorem dX7_fails_2 : decode cX7_fails 2 = .ok (.putfield 60, 3) := by decide +kernel
theorem dX7_fails_5 : decode cX7_fails 5 = .ok (.bipush (-10), 2) := by decide +kernel
theorem dX7_fails_7 : decode cX7_fails 7 = .ok (.iload_n 1, 1) := by decide +kernel
theorem dX7_fails_8 : decode cX7_fails 8 = .ok (.isub, 1) := by decide +kernel
theorem dX7_fails_9 : decode cX7_fails 9 = .ok (.ireturn, 1) := by decide +kernel
theorem dX7_lost_0 : decode cX7_lost 0 = .ok (.aload_n 0, 1) := by decide +kernel
theorem dX7_lost_1 : decode cX7_lost 1 = .ok (.iload_n 1, 1) := by decide +kernel
theorem dX7_lost_2 : decode cX7_lost 2 = .ok (.putfield 60, 3) := by decide +kernel
theorem dX7_lost_5 : decode cX7_lost 5 = .ok (.ldc2_w 63, 3) := by decide +kernel
theorem dX7_lost_8 : decode cX7_lost 8 = .ok (.lreturn, 1) := by decide +kernel
theorem dX7_within_0 : decode cX7_within 0 = .ok (.iload_n 0, 1) := by decide +kernel
theorem dX7_within_1 : decode cX7_within 1 = .ok (.iload_n 1, 1) := by decide +kernel
theorem dX7_within_2 : decode cX7_within 2 = .ok (.if_icmp .lt 12, 3) := by decide +kernel
theorem dX7_within_5 : decode cX7_within 5 = .ok (.iload_n 0, 1) := by decide +kernel
theorem dX7_within_6 : decode cX7_within 6 = .ok (.iload_n 2, 1) := by decide +kernel
theorem dX7_within_7 : decode cX7_within 7 = .ok (.if_icmp .gt 7, 3) := by decide +kernel
theorem dX7_within_10 : decode cX7_within 10 = .ok (.iconst 1, 1) := by decide +kernel
theorem dX7_within_11 : decode cX7_within 11 = .ok (.goto 4, 3) := by decide +kernel
theorem dX7_within_14 : decode cX7_within 14 = .ok (.iconst 0, 1) := by decide +kernel
theorem dX7_within_15 : decode cX7_within 15 = .ok (.ireturn, 1) := by decide +kernel
theorem dX7_isSheet_0 : decode cX7_isSheet 0 = .ok (.iload_n 0, 1) := by decide +kernel
theorem dX7_isSheet_1 : decode cX7_isSheet 1 = .ok (.iconst 0, 1) := by decide +kernel
theorem dX7_isSheet_2 : decode cX7_isSheet 2 = .ok (.iconst 3, 1) := by decide +kernel
theorem dX7_isSheet_3 : decode cX7_isSheet 3 = .ok (.invokestatic 65, 3) := by decide +kernel
theorem dX7_isSheet_6 : decode cX7_isSheet 6 = .ok (.ireturn, 1) := by decide +kernel
theorem dX7_isSort_0 : decode cX7_isSort 0 = .ok (.iload_n 0, 1) := by decide +kernel
theorem dX7_isSort_1 : decode cX7_isSort 1 = .ok (.iconst 0, 1) := by decide +kernel
theorem dX7_isSort_2 : decode cX7_isSort 2 = .ok (.iconst 2, 1) := by decide +kernel
theorem dX7_isSort_3 : decode cX7_isSort 3 = .ok (.invokestatic 65, 3) := by decide +kernel
theorem dX7_isSort_6 : decode cX7_isSort 6 = .ok (.ireturn, 1) := by decide +kernel
theorem dX7_against_0 : decode cX7_against 0 = .ok (.aload_n 0, 1) := by decide +kernel
theorem dX7_against_1 : decode cX7_against 1 = .ok (.getfield 9, 3) := by decide +kernel
theorem dX7_against_4 : decode cX7_against 4 = .ok (.iload_n 1, 1) := by decide +kernel
theorem dX7_against_5 : decode cX7_against 5 = .ok (.iaload, 1) := by decide +kernel
theorem dX7_against_6 : decode cX7_against 6 = .ok (.bipush (-9), 2) := by decide +kernel
theorem dX7_against_8 : decode cX7_against 8 = .ok (.if_icmp .eq 15, 3) := by decide +kernel
theorem dX7_against_11 : decode cX7_against 11 = .ok (.aload_n 0, 1) := by decide +kernel
theorem dX7_against_12 : decode cX7_against 12 = .ok (.getfield 9, 3) := by decide +kernel
theorem dX7_against_15 : decode cX7_against 15 = .ok (.iload_n 1, 1) := by decide +kernel
theorem dX7_against_16 : decode cX7_against 16 = .ok (.iaload, 1) := by decide +kernel
theorem dX7_against_17 : decode cX7_against 17 = .ok (.iload_n 2, 1) := by decide +kernel
theorem dX7_against_18 : decode cX7_against 18 = .ok (.if_icmp .eq 5, 3) := by decide +kernel
theorem dX7_against_21 : decode cX7_against 21 = .ok (.iconst 2, 1) := by decide +kernel
theorem dX7_against_22 : decode cX7_against 22 = .ok (.ireturn, 1) := by decide +kernel
theorem dX7_against_23 : decode cX7_against 23 = .ok (.aload_n 0, 1) := by decide +kernel
theorem dX7_against_24 : decode cX7_against 24 = .ok (.getfield 9, 3) := by decide +kernel
theorem dX7_against_27 : decode cX7_against 27 = .ok (.iload_n 1, 1) := by decide +kernel
theorem dX7_against_28 : decode cX7_against 28 = .ok (.iaload, 1) := by decide +kernel
theorem dX7_against_29 : decode cX7_against 29 = .ok (.bipush (-9), 2) := by decide +kernel
theorem dX7_against_31 : decode cX7_against 31 = .ok (.if_icmp .ne 5, 3) := by decide +kernel
theorem dX7_against_34 : decode cX7_against 34 = .ok (.iconst 1, 1) := by decide +kernel
theorem dX7_against_35 : decode cX7_against 35 = .ok (.ireturn, 1) := by decide +kernel
theorem dX7_against_36 : decode cX7_against 36 = .ok (.iload 4, 2) := by decide +kernel
theorem dX7_against_38 : decode cX7_against 38 = .ok (.ifCond .ge 5, 3) := by decide +kernel
theorem dX7_against_41 : decode cX7_against 41 = .ok (.iconst 4, 1) := by decide +kernel
theorem dX7_against_42 : decode cX7_against 42 = .ok (.ireturn, 1) := by decide +kernel
theorem dX7_against_43 : decode cX7_against 43 = .ok (.iload_n 3, 1) := by decide +kernel
theorem dX7_against_44 : decode cX7_against 44 = .ok (.ifCond .lt 26, 3) := by decide +kernel
theorem dX7_against_47 : decode cX7_against 47 = .ok (.iload_n 3, 1) := by decide +kernel
theorem dX7_against_48 : decode cX7_against 48 = .ok (.aload_n 0, 1) := by decide +kernel
theorem dX7_against_49 : decode cX7_against 49 = .ok (.getfield 13, 3) := by decide +kernel
theorem dX7_against_52 : decode cX7_against 52 = .ok (.iload_n 1, 1) := by decide +kernel
theorem dX7_against_53 : decode cX7_against 53 = .ok (.iaload, 1) := by decide +kernel
theorem dX7_against_54 : decode cX7_against 54 = .ok (.if_icmp .gt 16, 3) := by decide +kernel
theorem dX7_against_57 : decode cX7_against 57 = .ok (.iload 4, 2) := by decide +kernel
theorem dX7_against_59 : decode cX7_against 59 = .ok (.aload_n 0, 1) := by decide +kernel
theorem dX7_against_60 : decode cX7_against 60 = .ok (.getfield 13, 3) := by decide +kernel
theorem dX7_against_63 : decode cX7_against 63 = .ok (.iload_n 1, 1) := by decide +kernel
theorem dX7_against_64 : decode cX7_against 64 = .ok (.iaload, 1) := by decide +kernel
theorem dX7_against_65 : decode cX7_against 65 = .ok (.iload_n 3, 1) := by decide +kernel
theorem dX7_against_66 : decode cX7_against 66 = .ok (.isub, 1) := by decide +kernel
theorem dX7_against_67 : decode cX7_against 67 = .ok (.if_icmp .le 7, 3) := by decide +kernel
theorem dX7_against_70 : decode cX7_against 70 = .ok (.iconst 3, 1) := by decide +kernel
theorem dX7_against_71 : decode cX7_against 71 = .ok (.goto 4, 3) := by decide +kernel
theorem dX7_against_74 : decode cX7_against 74 = .ok (.iconst 0, 1) := by decide +kernel
theorem dX7_against_75 : decode cX7_against 75 = .ok (.ireturn, 1) := by decide +kernel
theorem dX7_isCell_0 : decode cX7_isCell 0 = .ok (.iload_n 1, 1) := by decide +kernel
theorem dX7_isCell_1 : decode cX7_isCell 1 = .ok (.ifCond .lt 15, 3) := by decide +kernel
theorem dX7_isCell_4 : decode cX7_isCell 4 = .ok (.iload_n 1, 1) := by decide +kernel
theorem dX7_isCell_5 : decode cX7_isCell 5 = .ok (.aload_n 0, 1) := by decide +kernel
theorem dX7_isCell_6 : decode cX7_isCell 6 = .ok (.getfield 69, 3) := by decide +kernel
theorem dX7_isCell_9 : decode cX7_isCell 9 = .ok (.if_icmp .ge 7, 3) := by decide +kernel
theorem dX7_isCell_12 : decode cX7_isCell 12 = .ok (.iconst 1, 1) := by decide +kernel
theorem dX7_isCell_13 : decode cX7_isCell 13 = .ok (.goto 4, 3) := by decide +kernel
theorem dX7_isCell_16 : decode cX7_isCell 16 = .ok (.iconst 0, 1) := by decide +kernel
theorem dX7_isCell_17 : decode cX7_isCell 17 = .ok (.ireturn, 1) := by decide +kernel
theorem dX7_isOf_0 : decode cX7_isOf 0 = .ok (.iload_n 0, 1) := by decide +kernel
theorem dX7_isOf_1 : decode cX7_isOf 1 = .ok (.iload_n 1, 1) := by decide +kernel
theorem dX7_isOf_2 : decode cX7_isOf 2 = .ok (.ishr, 1) := by decide +kernel
theorem dX7_isOf_3 : decode cX7_isOf 3 = .ok (.iconst 1, 1) := by decide +kernel
theorem dX7_isOf_4 : decode cX7_isOf 4 = .ok (.iand, 1) := by decide +kernel
theorem dX7_isOf_5 : decode cX7_isOf 5 = .ok (.iconst 1, 1) := by decide +kernel
theorem dX7_isOf_6 : decode cX7_isOf 6 = .ok (.if_icmp .ne 7, 3) := by decide +kernel
theorem dX7_isOf_9 : decode cX7_isOf 9 = .ok (.iconst 1, 1) := by decide +kernel
theorem dX7_isOf_10 : decode cX7_isOf 10 = .ok (.goto 4, 3) := by decide +kernel
theorem dX7_isOf_13 : decode cX7_isOf 13 = .ok (.iconst 0, 1) := by decide +kernel
theorem dX7_isOf_14 : decode cX7_isOf 14 = .ok (.ireturn, 1) := by decide +kernel
theorem dX7_size_0 : decode cX7_size 0 = .ok (.iconst 0, 1) := by decide +kernel
theorem dX7_size_1 : decode cX7_size 1 = .ok (.istore_n 1, 1) := by decide +kernel
theorem dX7_size_2 : decode cX7_size 2 = .ok (.iload_n 0, 1) := by decide +kernel
theorem dX7_size_3 : decode cX7_size 3 = .ok (.istore_n 2, 1) := by decide +kernel
theorem dX7_size_4 : decode cX7_size 4 = .ok (.iload_n 2, 1) := by decide +kernel
theorem dX7_size_5 : decode cX7_size 5 = .ok (.ifCond .le 16, 3) := by decide +kernel
theorem dX7_size_8 : decode cX7_size 8 = .ok (.iload_n 1, 1) := by decide +kernel
theorem dX7_size_9 : decode cX7_size 9 = .ok (.iload_n 2, 1) := by decide +kernel
theorem dX7_size_10 : decode cX7_size 10 = .ok (.iconst 1, 1) := by decide +kernel
theorem dX7_size_11 : decode cX7_size 11 = .ok (.iand, 1) := by decide +kernel
theorem dX7_size_12 : decode cX7_size 12 = .ok (.iadd, 1) := by decide +kernel
theorem dX7_size_13 : decode cX7_size 13 = .ok (.istore_n 1, 1) := by decide +kernel
theorem dX7_size_14 : decode cX7_size 14 = .ok (.iload_n 2, 1) := by decide +kernel
theorem dX7_size_15 : decode cX7_size 15 = .ok (.iconst 1, 1) := by decide +kernel
theorem dX7_size_16 : decode cX7_size 16 = .ok (.ishr, 1) := by decide +kernel
theorem dX7_size_17 : decode cX7_size 17 = .ok (.istore_n 2, 1) := by decide +kernel
theorem dX7_size_18 : decode cX7_size 18 = .ok (.goto (-14), 3) := by decide +kernel
theorem dX7_size_21 : decode cX7_size 21 = .ok (.iload_n 1, 1) := by decide +kernel
theorem dX7_size_22 : decode cX7_size 22 = .ok (.ireturn, 1) := by decide +kernel
theorem dX7_isSign_0 : decode cX7_isSign 0 = .ok (.aload_n 0, 1) := by decide +kernel
theorem dX7_isSign_1 : decode cX7_isSign 1 = .ok (.getfield 72, 3) := by decide +kernel
theorem dX7_isSign_4 : decode cX7_isSign 4 = .ok (.iload_n 1, 1) := by decide +kernel
theorem dX7_isSign_5 : decode cX7_isSign 5 = .ok (.if_icmp .ge 16, 3) := by decide +kernel
theorem dX7_isSign_8 : decode cX7_isSign 8 = .ok (.aload_n 0, 1) := by decide +kernel
theorem dX7_isSign_9 : decode cX7_isSign 9 = .ok (.getfield 16, 3) := by decide +kernel
theorem dX7_isSign_12 : decode cX7_isSign 12 = .ok (.aload_n 0, 1) := by decide +kernel
theorem dX7_isSign_13 : decode cX7_isSign 13 = .ok (.getfield 72, 3) := by decide +kernel
theorem dX7_isSign_16 : decode cX7_isSign 16 = .ok (.iaload, 1) := by decide +kernel
theorem dX7_isSign_17 : decode cX7_isSign 17 = .ok (.iload_n 2, 1) := by decide +kernel
theorem dX7_isSign_18 : decode cX7_isSign 18 = .ok (.if_icmp .eq 5, 3) := by decide +kernel
theorem dX7_isSign_21 : decode cX7_isSign 21 = .ok (.iconst 0, 1) := by decide +kernel
theorem dX7_isSign_22 : decode cX7_isSign 22 = .ok (.ireturn, 1) := by decide +kernel
theorem dX7_isSign_23 : decode cX7_isSign 23 = .ok (.aload_n 0, 1) := by decide +kernel
theorem dX7_isSign_24 : decode cX7_isSign 24 = .ok (.dup, 1) := by decide +kernel
theorem dX7_isSign_25 : decode cX7_isSign 25 = .ok (.getfield 72, 3) := by decide +kernel
theorem dX7_isSign_28 : decode cX7_isSign 28 = .ok (.iconst 1, 1) := by decide +kernel
theorem dX7_isSign_29 : decode cX7_isSign 29 = .ok (.iadd, 1) := by decide +kernel
theorem dX7_isSign_30 : decode cX7_isSign 30 = .ok (.putfield 72, 3) := by decide +kernel
theorem dX7_isSign_33 : decode cX7_isSign 33 = .ok (.iconst 1, 1) := by decide +kernel
theorem dX7_isSign_34 : decode cX7_isSign 34 = .ok (.ireturn, 1) := by decide +kernel
theorem dX7_circuit_0 : decode cX7_circuit 0 = .ok (.aload_n 0, 1) := by decide +kernel
theorem dX7_circuit_1 : decode cX7_circuit 1 = .ok (.iconst 0, 1) := by decide +kernel
theorem dX7_circuit_2 : decode cX7_circuit 2 = .ok (.putfield 60, 3) := by decide +kernel
theorem dX7_circuit_5 : decode cX7_circuit 5 = .ok (.iload_n 1, 1) := by decide +kernel
theorem dX7_circuit_6 : decode cX7_circuit 6 = .ok (.invokestatic 75, 3) := by decide +kernel
theorem dX7_circuit_9 : decode cX7_circuit 9 = .ok (.ifCond .ne 5, 3) := by decide +kernel
theorem dX7_circuit_12 : decode cX7_circuit 12 = .ok (.iconst (-1), 1) := by decide +kernel
theorem dX7_circuit_13 : decode cX7_circuit 13 = .ok (.ireturn, 1) := by decide +kernel
theorem dX7_circuit_14 : decode cX7_circuit 14 = .ok (.iload_n 2, 1) := by decide +kernel
theorem dX7_circuit_15 : decode cX7_circuit 15 = .ok (.invokestatic 79, 3) := by decide +kernel
theorem dX7_circuit_18 : decode cX7_circuit 18 = .ok (.ifCond .ne 6, 3) := by decide +kernel
theorem dX7_circuit_21 : decode cX7_circuit 21 = .ok (.bipush (-2), 2) := by decide +kernel
theorem dX7_circuit_23 : decode cX7_circuit 23 = .ok (.ireturn, 1) := by decide +kernel
theorem dX7_circuit_24 : decode cX7_circuit 24 = .ok (.aload_n 0, 1) := by decide +kernel
theorem dX7_circuit_25 : decode cX7_circuit 25 = .ok (.iload_n 1, 1) := by decide +kernel
theorem dX7_circuit_26 : decode cX7_circuit 26 = .ok (.iload_n 2, 1) := by decide +kernel
theorem dX7_circuit_27 : decode cX7_circuit 27 = .ok (.iload_n 3, 1) := by decide +kernel
theorem dX7_circuit_28 : decode cX7_circuit 28 = .ok (.iload 4, 2) := by decide +kernel
theorem dX7_circuit_30 : decode cX7_circuit 30 = .ok (.invokevirtual 82, 3) := by decide +kernel
theorem dX7_circuit_33 : decode cX7_circuit 33 = .ok (.istore 5, 2) := by decide +kernel
theorem dX7_circuit_35 : decode cX7_circuit 35 = .ok (.iload 5, 2) := by decide +kernel
theorem dX7_circuit_37 : decode cX7_circuit 37 = .ok (.ifCond .eq 10, 3) := by decide +kernel
theorem dX7_circuit_40 : decode cX7_circuit 40 = .ok (.aload_n 0, 1) := by decide +kernel
theorem dX7_circuit_41 : decode cX7_circuit 41 = .ok (.iload 5, 2) := by decide +kernel
theorem dX7_circuit_43 : decode cX7_circuit 43 = .ok (.invokevirtual 86, 3) := by decide +kernel
theorem dX7_circuit_46 : decode cX7_circuit 46 = .ok (.ireturn, 1) := by decide +kernel
theorem dX7_circuit_47 : decode cX7_circuit 47 = .ok (.bipush 60, 2) := by decide +kernel
theorem dX7_circuit_49 : decode cX7_circuit 49 = .ok (.iload_n 1, 1) := by decide +kernel
theorem dX7_circuit_50 : decode cX7_circuit 50 = .ok (.imul, 1) := by decide +kernel
theorem dX7_circuit_51 : decode cX7_circuit 51 = .ok (.iload_n 3, 1) := by decide +kernel
theorem dX7_circuit_52 : decode cX7_circuit 52 = .ok (.iadd, 1) := by decide +kernel
theorem dX7_circuit_53 : decode cX7_circuit 53 = .ok (.istore 6, 2) := by decide +kernel
theorem dX7_circuit_55 : decode cX7_circuit 55 = .ok (.aload_n 0, 1) := by decide +kernel
theorem dX7_circuit_56 : decode cX7_circuit 56 = .ok (.iload 6, 2) := by decide +kernel
theorem dX7_circuit_58 : decode cX7_circuit 58 = .ok (.putfield 72, 3) := by decide +kernel
theorem dX7_circuit_61 : decode cX7_circuit 61 = .ok (.aload_n 0, 1) := by decide +kernel
theorem dX7_circuit_62 : decode cX7_circuit 62 = .ok (.iload 6, 2) := by decide +kernel
theorem dX7_circuit_64 : decode cX7_circuit 64 = .ok (.iload 4, 2) := by decide +kernel
theorem dX7_circuit_66 : decode cX7_circuit 66 = .ok (.iadd, 1) := by decide +kernel
theorem dX7_circuit_67 : decode cX7_circuit 67 = .ok (.invokevirtual 90, 3) := by decide +kernel
theorem dX7_circuit_70 : decode cX7_circuit 70 = .ok (.ifCond .ne 14, 3) := by decide +kernel
theorem dX7_circuit_73 : decode cX7_circuit 73 = .ok (.bipush (-100), 2) := by decide +kernel
theorem dX7_circuit_75 : decode cX7_circuit 75 = .ok (.aload_n 0, 1) := by decide +kernel
theorem dX7_circuit_76 : decode cX7_circuit 76 = .ok (.getfield 72, 3) := by decide +kernel
theorem dX7_circuit_79 : decode cX7_circuit 79 = .ok (.iload 6, 2) := by decide +kernel
theorem dX7_circuit_81 : decode cX7_circuit 81 = .ok (.isub, 1) := by decide +kernel
theorem dX7_circuit_82 : decode cX7_circuit 82 = .ok (.isub, 1) := by decide +kernel
theorem dX7_circuit_83 : decode cX7_circuit 83 = .ok (.ireturn, 1) := by decide +kernel
theorem dX7_circuit_84 : decode cX7_circuit 84 = .ok (.aload_n 0, 1) := by decide +kernel
theorem dX7_circuit_85 : decode cX7_circuit 85 = .ok (.aload_n 0, 1) := by decide +kernel
theorem dX7_circuit_86 : decode cX7_circuit 86 = .ok (.getfield 93, 3) := by decide +kernel
theorem dX7_circuit_89 : decode cX7_circuit 89 = .ok (.putfield 69, 3) := by decide +kernel
theorem dX7_circuit_92 : decode cX7_circuit 92 = .ok (.aload_n 0, 1) := by decide +kernel
theorem dX7_circuit_93 : decode cX7_circuit 93 = .ok (.aload_n 0, 1) := by decide +kernel
theorem dX7_circuit_94 : decode cX7_circuit 94 = .ok (.getfield 96, 3) := by decide +kernel
theorem dX7_circuit_97 : decode cX7_circuit 97 = .ok (.putfield 99, 3) := by decide +kernel
theorem dX7_circuit_100 : decode cX7_circuit 100 = .ok (.aload_n 0, 1) := by decide +kernel
theorem dX7_circuit_101 : decode cX7_circuit 101 = .ok (.aload_n 0, 1) := by decide +kernel
theorem dX7_circuit_102 : decode cX7_circuit 102 = .ok (.getfield 102, 3) := by decide +kernel
theorem dX7_circuit_105 : decode cX7_circuit 105 = .ok (.putfield 105, 3) := by decide +kernel
theorem dX7_circuit_108 : decode cX7_circuit 108 = .ok (.aload_n 0, 1) := by decide +kernel
theorem dX7_circuit_109 : decode cX7_circuit 109 = .ok (.aload_n 0, 1) := by decide +kernel
theorem dX7_circuit_110 : decode cX7_circuit 110 = .ok (.getfield 108, 3) := by decide +kernel
theorem dX7_circuit_113 : decode cX7_circuit 113 = .ok (.putfield 111, 3) := by decide +kernel
theorem dX7_circuit_116 : decode cX7_circuit 116 = .ok (.iconst 0, 1) := by decide +kernel
theorem dX7_circuit_117 : decode cX7_circuit 117 = .ok (.istore 7, 2) := by decide +kernel
theorem dX7_circuit_119 : decode cX7_circuit 119 = .ok (.iload 7, 2) := by decide +kernel
theorem dX7_circuit_121 : decode cX7_circuit 121 = .ok (.aload_n 0, 1) := by decide +kernel
theorem dX7_circuit_122 : decode cX7_circuit 122 = .ok (.getfield 69, 3) := by decide +kernel
theorem dX7_circuit_125 : decode cX7_circuit 125 = .ok (.if_icmp .ge 37, 3) := by decide +kernel
theorem dX7_circuit_128 : decode cX7_circuit 128 = .ok (.aload_n 0, 1) := by decide +kernel
theorem dX7_circuit_129 : decode cX7_circuit 129 = .ok (.getfield 30, 3) := by decide +kernel
theorem dX7_circuit_132 : decode cX7_circuit 132 = .ok (.iload 7, 2) := by decide +kernel
theorem dX7_circuit_134 : decode cX7_circuit 134 = .ok (.aload_n 0, 1) := by decide +kernel
theorem dX7_circuit_135 : decode cX7_circuit 135 = .ok (.getfield 39, 3) := by decide +kernel
theorem dX7_circuit_138 : decode cX7_circuit 138 = .ok (.iload 7, 2) := by decide +kernel
theorem dX7_circuit_140 : decode cX7_circuit 140 = .ok (.iaload, 1) := by decide +kernel
theorem dX7_circuit_141 : decode cX7_circuit 141 = .ok (.iastore, 1) := by decide +kernel
theorem dX7_circuit_142 : decode cX7_circuit 142 = .ok (.aload_n 0, 1) := by decide +kernel
theorem dX7_circuit_143 : decode cX7_circuit 143 = .ok (.getfield 33, 3) := by decide +kernel
theorem dX7_circuit_146 : decode cX7_circuit 146 = .ok (.iload 7, 2) := by decide +kernel
theorem dX7_circuit_148 : decode cX7_circuit 148 = .ok (.aload_n 0, 1) := by decide +kernel
theorem dX7_circuit_149 : decode cX7_circuit 149 = .ok (.getfield 42, 3) := by decide +kernel
theorem dX7_circuit_152 : decode cX7_circuit 152 = .ok (.iload 7, 2) := by decide +kernel
theorem dX7_circuit_154 : decode cX7_circuit 154 = .ok (.iaload, 1) := by decide +kernel
theorem dX7_circuit_155 : decode cX7_circuit 155 = .ok (.iastore, 1) := by decide +kernel
theorem dX7_circuit_156 : decode cX7_circuit 156 = .ok (.iinc 7 1, 3) := by decide +kernel
theorem dX7_circuit_159 : decode cX7_circuit 159 = .ok (.goto (-40), 3) := by decide +kernel
theorem dX7_circuit_162 : decode cX7_circuit 162 = .ok (.iconst 0, 1) := by decide +kernel
theorem dX7_circuit_163 : decode cX7_circuit 163 = .ok (.istore 7, 2) := by decide +kernel
theorem dX7_circuit_165 : decode cX7_circuit 165 = .ok (.iload 7, 2) := by decide +kernel
theorem dX7_circuit_167 : decode cX7_circuit 167 = .ok (.aload_n 0, 1) := by decide +kernel
theorem dX7_circuit_168 : decode cX7_circuit 168 = .ok (.getfield 99, 3) := by decide +kernel
theorem dX7_circuit_171 : decode cX7_circuit 171 = .ok (.if_icmp .ge 23, 3) := by decide +kernel
theorem dX7_circuit_174 : decode cX7_circuit 174 = .ok (.aload_n 0, 1) := by decide +kernel
theorem dX7_circuit_175 : decode cX7_circuit 175 = .ok (.getfield 36, 3) := by decide +kernel
theorem dX7_circuit_178 : decode cX7_circuit 178 = .ok (.iload 7, 2) := by decide +kernel
theorem dX7_circuit_180 : decode cX7_circuit 180 = .ok (.aload_n 0, 1) := by decide +kernel
theorem dX7_circuit_181 : decode cX7_circuit 181 = .ok (.getfield 45, 3) := by decide +kernel
theorem dX7_circuit_184 : decode cX7_circuit 184 = .ok (.iload 7, 2) := by decide +kernel
theorem dX7_circuit_186 : decode cX7_circuit 186 = .ok (.iaload, 1) := by decide +kernel
theorem dX7_circuit_187 : decode cX7_circuit 187 = .ok (.iastore, 1) := by decide +kernel
theorem dX7_circuit_188 : decode cX7_circuit 188 = .ok (.iinc 7 1, 3) := by decide +kernel
theorem dX7_circuit_191 : decode cX7_circuit 191 = .ok (.goto (-26), 3) := by decide +kernel
theorem dX7_circuit_194 : decode cX7_circuit 194 = .ok (.aload_n 0, 1) := by decide +kernel
theorem dX7_circuit_195 : decode cX7_circuit 195 = .ok (.ldc 19, 2) := by decide +kernel
theorem dX7_circuit_197 : decode cX7_circuit 197 = .ok (.putfield 20, 3) := by decide +kernel
theorem dX7_circuit_200 : decode cX7_circuit 200 = .ok (.aload_n 0, 1) := by decide +kernel
theorem dX7_circuit_201 : decode cX7_circuit 201 = .ok (.bipush (-9), 2) := by decide +kernel
theorem dX7_circuit_203 : decode cX7_circuit 203 = .ok (.putfield 24, 3) := by decide +kernel
theorem dX7_circuit_206 : decode cX7_circuit 206 = .ok (.aload_n 0, 1) := by decide +kernel
theorem dX7_circuit_207 : decode cX7_circuit 207 = .ok (.iconst 0, 1) := by decide +kernel
theorem dX7_circuit_208 : decode cX7_circuit 208 = .ok (.putfield 114, 3) := by decide +kernel
theorem dX7_circuit_211 : decode cX7_circuit 211 = .ok (.aload_n 0, 1) := by decide +kernel
theorem dX7_circuit_212 : decode cX7_circuit 212 = .ok (.iconst 0, 1) := by decide +kernel
theorem dX7_circuit_213 : decode cX7_circuit 213 = .ok (.putfield 117, 3) := by decide +kernel
theorem dX7_circuit_216 : decode cX7_circuit 216 = .ok (.aload_n 0, 1) := by decide +kernel
theorem dX7_circuit_217 : decode cX7_circuit 217 = .ok (.getfield 69, 3) := by decide +kernel
theorem dX7_circuit_220 : decode cX7_circuit 220 = .ok (.ireturn, 1) := by decide +kernel
theorem dX7_readAll_0 : decode cX7_readAll 0 = .ok (.aload_n 0, 1) := by decide +kernel
theorem dX7_readAll_1 : decode cX7_readAll 1 = .ok (.iconst 0, 1) := by decide +kernel
theorem dX7_readAll_2 : decode cX7_readAll 2 = .ok (.putfield 93, 3) := by decide +kernel
theorem dX7_readAll_5 : decode cX7_readAll 5 = .ok (.aload_n 0, 1) := by decide +kernel
theorem dX7_readAll_6 : decode cX7_readAll 6 = .ok (.iconst 0, 1) := by decide +kernel
theorem dX7_readAll_7 : decode cX7_readAll 7 = .ok (.putfield 96, 3) := by decide +kernel
theorem dX7_readAll_10 : decode cX7_readAll 10 = .ok (.aload_n 0, 1) := by decide +kernel
theorem dX7_readAll_11 : decode cX7_readAll 11 = .ok (.iconst 0, 1) := by decide +kernel
theorem dX7_readAll_12 : decode cX7_readAll 12 = .ok (.putfield 102, 3) := by decide +kernel
theorem dX7_readAll_15 : decode cX7_readAll 15 = .ok (.aload_n 0, 1) := by decide +kernel
theorem dX7_readAll_16 : decode cX7_readAll 16 = .ok (.iconst 0, 1) := by decide +kernel
theorem dX7_readAll_17 : decode cX7_readAll 17 = .ok (.putfield 108, 3) := by decide +kernel
theorem dX7_readAll_20 : decode cX7_readAll 20 = .ok (.aload_n 0, 1) := by decide +kernel
theorem dX7_readAll_21 : decode cX7_readAll 21 = .ok (.iload_n 1, 1) := by decide +kernel
theorem dX7_readAll_22 : decode cX7_readAll 22 = .ok (.bipush 104, 2) := by decide +kernel
theorem dX7_readAll_24 : decode cX7_readAll 24 = .ok (.invokevirtual 120, 3) := by decide +kernel
theorem dX7_readAll_27 : decode cX7_readAll 27 = .ok (.ifCond .ne 5, 3) := by decide +kernel
theorem dX7_readAll_30 : decode cX7_readAll 30 = .ok (.iconst 0, 1) := by decide +kernel
theorem dX7_readAll_31 : decode cX7_readAll 31 = .ok (.ireturn, 1) := by decide +kernel
theorem dX7_readAll_32 : decode cX7_readAll 32 = .ok (.aload_n 0, 1) := by decide +kernel
theorem dX7_readAll_33 : decode cX7_readAll 33 = .ok (.getfield 93, 3) := by decide +kernel
theorem dX7_readAll_36 : decode cX7_readAll 36 = .ok (.ifCond .eq 34, 3) := by decide +kernel
theorem dX7_readAll_39 : decode cX7_readAll 39 = .ok (.aload_n 0, 1) := by decide +kernel
theorem dX7_readAll_40 : decode cX7_readAll 40 = .ok (.getfield 93, 3) := by decide +kernel
theorem dX7_readAll_43 : decode cX7_readAll 43 = .ok (.bipush 7, 2) := by decide +kernel
theorem dX7_readAll_45 : decode cX7_readAll 45 = .ok (.if_icmp .ge 45, 3) := by decide +kernel
theorem dX7_readAll_48 : decode cX7_readAll 48 = .ok (.aload_n 0, 1) := by decide +kernel
theorem dX7_readAll_49 : decode cX7_readAll 49 = .ok (.getfield 72, 3) := by decide +kernel
theorem dX7_readAll_52 : decode cX7_readAll 52 = .ok (.iload_n 1, 1) := by decide +kernel
theorem dX7_readAll_53 : decode cX7_readAll 53 = .ok (.if_icmp .ge 37, 3) := by decide +kernel
theorem dX7_readAll_56 : decode cX7_readAll 56 = .ok (.aload_n 0, 1) := by decide +kernel
theorem dX7_readAll_57 : decode cX7_readAll 57 = .ok (.getfield 16, 3) := by decide +kernel
theorem dX7_readAll_60 : decode cX7_readAll 60 = .ok (.aload_n 0, 1) := by decide +kernel
theorem dX7_readAll_61 : decode cX7_readAll 61 = .ok (.getfield 72, 3) := by decide +kernel
theorem dX7_readAll_64 : decode cX7_readAll 64 = .ok (.iaload, 1) := by decide +kernel
theorem dX7_readAll_65 : decode cX7_readAll 65 = .ok (.bipush 59, 2) := by decide +kernel
theorem dX7_readAll_67 : decode cX7_readAll 67 = .ok (.if_icmp .ne 23, 3) := by decide +kernel
theorem dX7_readAll_70 : decode cX7_readAll 70 = .ok (.aload_n 0, 1) := by decide +kernel
theorem dX7_readAll_71 : decode cX7_readAll 71 = .ok (.iload_n 1, 1) := by decide +kernel
theorem dX7_readAll_72 : decode cX7_readAll 72 = .ok (.bipush 59, 2) := by decide +kernel
theorem dX7_readAll_74 : decode cX7_readAll 74 = .ok (.invokevirtual 120, 3) := by decide +kernel
theorem dX7_readAll_77 : decode cX7_readAll 77 = .ok (.ifCond .eq 11, 3) := by decide +kernel
theorem dX7_readAll_80 : decode cX7_readAll 80 = .ok (.aload_n 0, 1) := by decide +kernel
theorem dX7_readAll_81 : decode cX7_readAll 81 = .ok (.iload_n 1, 1) := by decide +kernel
theorem dX7_readAll_82 : decode cX7_readAll 82 = .ok (.invokevirtual 124, 3) := by decide +kernel
theorem dX7_readAll_85 : decode cX7_readAll 85 = .ok (.ifCond .ne (-53), 3) := by decide +kernel
theorem dX7_readAll_88 : decode cX7_readAll 88 = .ok (.iconst 0, 1) := by decide +kernel
theorem dX7_readAll_89 : decode cX7_readAll 89 = .ok (.ireturn, 1) := by decide +kernel
theorem dX7_readAll_90 : decode cX7_readAll 90 = .ok (.aload_n 0, 1) := by decide +kernel
theorem dX7_readAll_91 : decode cX7_readAll 91 = .ok (.getfield 96, 3) := by decide +kernel
theorem dX7_readAll_94 : decode cX7_readAll 94 = .ok (.bipush 6, 2) := by decide +kernel
theorem dX7_readAll_96 : decode cX7_readAll 96 = .ok (.if_icmp .ge 31, 3) := by decide +kernel
theorem dX7_readAll_99 : decode cX7_readAll 99 = .ok (.aload_n 0, 1) := by decide +kernel
theorem dX7_readAll_100 : decode cX7_readAll 100 = .ok (.getfield 72, 3) := by decide +kernel
theorem dX7_readAll_103 : decode cX7_readAll 103 = .ok (.iload_n 1, 1) := by decide +kernel
theorem dX7_readAll_104 : decode cX7_readAll 104 = .ok (.if_icmp .ge 23, 3) := by decide +kernel
theorem dX7_readAll_107 : decode cX7_readAll 107 = .ok (.aload_n 0, 1) := by decide +kernel
theorem dX7_readAll_108 : decode cX7_readAll 108 = .ok (.iload_n 1, 1) := by decide +kernel
theorem dX7_readAll_109 : decode cX7_readAll 109 = .ok (.bipush 44, 2) := by decide +kernel
theorem dX7_readAll_111 : decode cX7_readAll 111 = .ok (.invokevirtual 120, 3) := by decide +kernel
theorem dX7_readAll_114 : decode cX7_readAll 114 = .ok (.ifCond .eq 11, 3) := by decide +kernel
theorem dX7_readAll_117 : decode cX7_readAll 117 = .ok (.aload_n 0, 1) := by decide +kernel
theorem dX7_readAll_118 : decode cX7_readAll 118 = .ok (.iload_n 1, 1) := by decide +kernel
theorem dX7_readAll_119 : decode cX7_readAll 119 = .ok (.invokevirtual 127, 3) := by decide +kernel
theorem dX7_readAll_122 : decode cX7_readAll 122 = .ok (.ifCond .ne (-32), 3) := by decide +kernel
theorem dX7_readAll_125 : decode cX7_readAll 125 = .ok (.iconst 0, 1) := by decide +kernel
theorem dX7_readAll_126 : decode cX7_readAll 126 = .ok (.ireturn, 1) := by decide +kernel
theorem dX7_readAll_127 : decode cX7_readAll 127 = .ok (.aload_n 0, 1) := by decide +kernel
theorem dX7_readAll_128 : decode cX7_readAll 128 = .ok (.getfield 72, 3) := by decide +kernel
theorem dX7_readAll_131 : decode cX7_readAll 131 = .ok (.iload_n 1, 1) := by decide +kernel
theorem dX7_readAll_132 : decode cX7_readAll 132 = .ok (.if_icmp .ne 7, 3) := by decide +kernel
theorem dX7_readAll_135 : decode cX7_readAll 135 = .ok (.iconst 1, 1) := by decide +kernel
theorem dX7_readAll_136 : decode cX7_readAll 136 = .ok (.goto 4, 3) := by decide +kernel
theorem dX7_readAll_139 : decode cX7_readAll 139 = .ok (.iconst 0, 1) := by decide +kernel
theorem dX7_readAll_140 : decode cX7_readAll 140 = .ok (.ireturn, 1) := by decide +kernel
theorem dX7_readCell_0 : decode cX7_readCell 0 = .ok (.aload_n 0, 1) := by decide +kernel
theorem dX7_readCell_1 : decode cX7_readCell 1 = .ok (.getfield 72, 3) := by decide +kernel
theorem dX7_readCell_4 : decode cX7_readCell 4 = .ok (.iload_n 1, 1) := by decide +kernel
theorem dX7_readCell_5 : decode cX7_readCell 5 = .ok (.if_icmp .ge 15, 3) := by decide +kernel
theorem dX7_readCell_8 : decode cX7_readCell 8 = .ok (.aload_n 0, 1) := by decide +kernel
theorem dX7_readCell_9 : decode cX7_readCell 9 = .ok (.getfield 16, 3) := by decide +kernel
theorem dX7_readCell_12 : decode cX7_readCell 12 = .ok (.aload_n 0, 1) := by decide +kernel
theorem dX7_readCell_13 : decode cX7_readCell 13 = .ok (.getfield 72, 3) := by decide +kernel
theorem dX7_readCell_16 : decode cX7_readCell 16 = .ok (.iaload, 1) := by decide +kernel
theorem dX7_readCell_17 : decode cX7_readCell 17 = .ok (.goto 4, 3) := by decide +kernel
theorem dX7_readCell_20 : decode cX7_readCell 20 = .ok (.iconst 0, 1) := by decide +kernel
theorem dX7_readCell_21 : decode cX7_readCell 21 = .ok (.istore_n 2, 1) := by decide +kernel
theorem dX7_readCell_22 : decode cX7_readCell 22 = .ok (.aload_n 0, 1) := by decide +kernel
theorem dX7_readCell_23 : decode cX7_readCell 23 = .ok (.getfield 39, 3) := by decide +kernel
theorem dX7_readCell_26 : decode cX7_readCell 26 = .ok (.aload_n 0, 1) := by decide +kernel
theorem dX7_readCell_27 : decode cX7_readCell 27 = .ok (.getfield 93, 3) := by decide +kernel
theorem dX7_readCell_30 : decode cX7_readCell 30 = .ok (.iload_n 2, 1) := by decide +kernel
theorem dX7_readCell_31 : decode cX7_readCell 31 = .ok (.bipush 112, 2) := by decide +kernel
theorem dX7_readCell_33 : decode cX7_readCell 33 = .ok (.if_icmp .ne 7, 3) := by decide +kernel
theorem dX7_readCell_36 : decode cX7_readCell 36 = .ok (.iconst 0, 1) := by decide +kernel
theorem dX7_readCell_37 : decode cX7_readCell 37 = .ok (.goto 25, 3) := by decide +kernel
theorem dX7_readCell_40 : decode cX7_readCell 40 = .ok (.iload_n 2, 1) := by decide +kernel
theorem dX7_readCell_41 : decode cX7_readCell 41 = .ok (.bipush 98, 2) := by decide +kernel
theorem dX7_readCell_43 : decode cX7_readCell 43 = .ok (.if_icmp .ne 7, 3) := by decide +kernel
theorem dX7_readCell_46 : decode cX7_readCell 46 = .ok (.iconst 1, 1) := by decide +kernel
theorem dX7_readCell_47 : decode cX7_readCell 47 = .ok (.goto 15, 3) := by decide +kernel
theorem dX7_readCell_50 : decode cX7_readCell 50 = .ok (.iload_n 2, 1) := by decide +kernel
theorem dX7_readCell_51 : decode cX7_readCell 51 = .ok (.bipush 100, 2) := by decide +kernel
theorem dX7_readCell_53 : decode cX7_readCell 53 = .ok (.if_icmp .ne 7, 3) := by decide +kernel
theorem dX7_readCell_56 : decode cX7_readCell 56 = .ok (.iconst 2, 1) := by decide +kernel
theorem dX7_readCell_57 : decode cX7_readCell 57 = .ok (.goto 5, 3) := by decide +kernel
theorem dX7_readCell_60 : decode cX7_readCell 60 = .ok (.bipush (-9), 2) := by decide +kernel
theorem dX7_readCell_62 : decode cX7_readCell 62 = .ok (.iastore, 1) := by decide +kernel
theorem dX7_readCell_63 : decode cX7_readCell 63 = .ok (.aload_n 0, 1) := by decide +kernel
theorem dX7_readCell_64 : decode cX7_readCell 64 = .ok (.getfield 39, 3) := by decide +kernel
theorem dX7_readCell_67 : decode cX7_readCell 67 = .ok (.aload_n 0, 1) := by decide +kernel
theorem dX7_readCell_68 : decode cX7_readCell 68 = .ok (.getfield 93, 3) := by decide +kernel
theorem dX7_readCell_71 : decode cX7_readCell 71 = .ok (.iaload, 1) := by decide +kernel
theorem dX7_readCell_72 : decode cX7_readCell 72 = .ok (.bipush (-9), 2) := by decide +kernel
end
section
theorem dX7_readCell_74 : decode cX7_readCell 74 = .ok (.if_icmp .ne 5, 3) := by decide +kernel
theorem dX7_readCell_77 : decode cX7_readCell 77 = .ok (.iconst 0, 1) := by decide +kernel
theorem dX7_readCell_78 : decode cX7_readCell 78 = .ok (.ireturn, 1) := by decide +kernel
theorem dX7_readCell_79 : decode cX7_readCell 79 = .ok (.aload_n 0, 1) := by decide +kernel
theorem dX7_readCell_80 : decode cX7_readCell 80 = .ok (.dup, 1) := by decide +kernel
theorem dX7_readCell_81 : decode cX7_readCell 81 = .ok (.getfield 72, 3) := by decide +kernel
theorem dX7_readCell_84 : decode cX7_readCell 84 = .ok (.iconst 1, 1) := by decide +kernel
theorem dX7_readCell_85 : decode cX7_readCell 85 = .ok (.iadd, 1) := by decide +kernel
theorem dX7_readCell_86 : decode cX7_readCell 86 = .ok (.putfield 72, 3) := by decide +kernel
theorem dX7_readCell_89 : decode cX7_readCell 89 = .ok (.aload_n 0, 1) := by decide +kernel
theorem dX7_readCell_90 : decode cX7_readCell 90 = .ok (.getfield 72, 3) := by decide +kernel
theorem dX7_readCell_93 : decode cX7_readCell 93 = .ok (.iload_n 1, 1) := by decide +kernel
theorem dX7_readCell_94 : decode cX7_readCell 94 = .ok (.if_icmp .ge 22, 3) := by decide +kernel
theorem dX7_readCell_97 : decode cX7_readCell 97 = .ok (.aload_n 0, 1) := by decide +kernel
theorem dX7_readCell_98 : decode cX7_readCell 98 = .ok (.getfield 16, 3) := by decide +kernel
theorem dX7_readCell_101 : decode cX7_readCell 101 = .ok (.aload_n 0, 1) := by decide +kernel
theorem dX7_readCell_102 : decode cX7_readCell 102 = .ok (.getfield 72, 3) := by decide +kernel
theorem dX7_readCell_105 : decode cX7_readCell 105 = .ok (.iaload, 1) := by decide +kernel
theorem dX7_readCell_106 : decode cX7_readCell 106 = .ok (.bipush 49, 2) := by decide +kernel
theorem dX7_readCell_108 : decode cX7_readCell 108 = .ok (.bipush 57, 2) := by decide +kernel
theorem dX7_readCell_110 : decode cX7_readCell 110 = .ok (.invokestatic 65, 3) := by decide +kernel
theorem dX7_readCell_113 : decode cX7_readCell 113 = .ok (.ifCond .ne 5, 3) := by decide +kernel
theorem dX7_readCell_116 : decode cX7_readCell 116 = .ok (.iconst 0, 1) := by decide +kernel
theorem dX7_readCell_117 : decode cX7_readCell 117 = .ok (.ireturn, 1) := by decide +kernel
theorem dX7_readCell_118 : decode cX7_readCell 118 = .ok (.aload_n 0, 1) := by decide +kernel
theorem dX7_readCell_119 : decode cX7_readCell 119 = .ok (.getfield 42, 3) := by decide +kernel
theorem dX7_readCell_122 : decode cX7_readCell 122 = .ok (.aload_n 0, 1) := by decide +kernel
theorem dX7_readCell_123 : decode cX7_readCell 123 = .ok (.getfield 93, 3) := by decide +kernel
theorem dX7_readCell_126 : decode cX7_readCell 126 = .ok (.aload_n 0, 1) := by decide +kernel
theorem dX7_readCell_127 : decode cX7_readCell 127 = .ok (.getfield 16, 3) := by decide +kernel
theorem dX7_readCell_130 : decode cX7_readCell 130 = .ok (.aload_n 0, 1) := by decide +kernel
theorem dX7_readCell_131 : decode cX7_readCell 131 = .ok (.getfield 72, 3) := by decide +kernel
theorem dX7_readCell_134 : decode cX7_readCell 134 = .ok (.iaload, 1) := by decide +kernel
theorem dX7_readCell_135 : decode cX7_readCell 135 = .ok (.bipush 48, 2) := by decide +kernel
theorem dX7_readCell_137 : decode cX7_readCell 137 = .ok (.isub, 1) := by decide +kernel
theorem dX7_readCell_138 : decode cX7_readCell 138 = .ok (.iastore, 1) := by decide +kernel
theorem dX7_readCell_139 : decode cX7_readCell 139 = .ok (.aload_n 0, 1) := by decide +kernel
theorem dX7_readCell_140 : decode cX7_readCell 140 = .ok (.dup, 1) := by decide +kernel
theorem dX7_readCell_141 : decode cX7_readCell 141 = .ok (.getfield 72, 3) := by decide +kernel
theorem dX7_readCell_144 : decode cX7_readCell 144 = .ok (.iconst 1, 1) := by decide +kernel
theorem dX7_readCell_145 : decode cX7_readCell 145 = .ok (.iadd, 1) := by decide +kernel
theorem dX7_readCell_146 : decode cX7_readCell 146 = .ok (.putfield 72, 3) := by decide +kernel
theorem dX7_readCell_149 : decode cX7_readCell 149 = .ok (.aload_n 0, 1) := by decide +kernel
theorem dX7_readCell_150 : decode cX7_readCell 150 = .ok (.getfield 72, 3) := by decide +kernel
theorem dX7_readCell_153 : decode cX7_readCell 153 = .ok (.iload_n 1, 1) := by decide +kernel
theorem dX7_readCell_154 : decode cX7_readCell 154 = .ok (.if_icmp .ge 15, 3) := by decide +kernel
theorem dX7_readCell_157 : decode cX7_readCell 157 = .ok (.aload_n 0, 1) := by decide +kernel
theorem dX7_readCell_158 : decode cX7_readCell 158 = .ok (.getfield 16, 3) := by decide +kernel
theorem dX7_readCell_161 : decode cX7_readCell 161 = .ok (.aload_n 0, 1) := by decide +kernel
theorem dX7_readCell_162 : decode cX7_readCell 162 = .ok (.getfield 72, 3) := by decide +kernel
theorem dX7_readCell_165 : decode cX7_readCell 165 = .ok (.iaload, 1) := by decide +kernel
theorem dX7_readCell_166 : decode cX7_readCell 166 = .ok (.goto 4, 3) := by decide +kernel
theorem dX7_readCell_169 : decode cX7_readCell 169 = .ok (.iconst 0, 1) := by decide +kernel
theorem dX7_readCell_170 : decode cX7_readCell 170 = .ok (.istore_n 2, 1) := by decide +kernel
theorem dX7_readCell_171 : decode cX7_readCell 171 = .ok (.iload_n 2, 1) := by decide +kernel
theorem dX7_readCell_172 : decode cX7_readCell 172 = .ok (.bipush 108, 2) := by decide +kernel
theorem dX7_readCell_174 : decode cX7_readCell 174 = .ok (.if_icmp .eq 23, 3) := by decide +kernel
theorem dX7_readCell_177 : decode cX7_readCell 177 = .ok (.iload_n 2, 1) := by decide +kernel
theorem dX7_readCell_178 : decode cX7_readCell 178 = .ok (.bipush 114, 2) := by decide +kernel
theorem dX7_readCell_180 : decode cX7_readCell 180 = .ok (.if_icmp .eq 17, 3) := by decide +kernel
theorem dX7_readCell_183 : decode cX7_readCell 183 = .ok (.iload_n 2, 1) := by decide +kernel
theorem dX7_readCell_184 : decode cX7_readCell 184 = .ok (.bipush 76, 2) := by decide +kernel
theorem dX7_readCell_186 : decode cX7_readCell 186 = .ok (.if_icmp .eq 11, 3) := by decide +kernel
theorem dX7_readCell_189 : decode cX7_readCell 189 = .ok (.iload_n 2, 1) := by decide +kernel
theorem dX7_readCell_190 : decode cX7_readCell 190 = .ok (.bipush 82, 2) := by decide +kernel
theorem dX7_readCell_192 : decode cX7_readCell 192 = .ok (.if_icmp .eq 5, 3) := by decide +kernel
theorem dX7_readCell_195 : decode cX7_readCell 195 = .ok (.iconst 0, 1) := by decide +kernel
theorem dX7_readCell_196 : decode cX7_readCell 196 = .ok (.ireturn, 1) := by decide +kernel
theorem dX7_readCell_197 : decode cX7_readCell 197 = .ok (.aload_n 0, 1) := by decide +kernel
theorem dX7_readCell_198 : decode cX7_readCell 198 = .ok (.dup, 1) := by decide +kernel
theorem dX7_readCell_199 : decode cX7_readCell 199 = .ok (.getfield 72, 3) := by decide +kernel
theorem dX7_readCell_202 : decode cX7_readCell 202 = .ok (.iconst 1, 1) := by decide +kernel
theorem dX7_readCell_203 : decode cX7_readCell 203 = .ok (.iadd, 1) := by decide +kernel
theorem dX7_readCell_204 : decode cX7_readCell 204 = .ok (.putfield 72, 3) := by decide +kernel
theorem dX7_readCell_207 : decode cX7_readCell 207 = .ok (.aload_n 0, 1) := by decide +kernel
theorem dX7_readCell_208 : decode cX7_readCell 208 = .ok (.dup, 1) := by decide +kernel
theorem dX7_readCell_209 : decode cX7_readCell 209 = .ok (.getfield 102, 3) := by decide +kernel
theorem dX7_readCell_212 : decode cX7_readCell 212 = .ok (.iload_n 2, 1) := by decide +kernel
theorem dX7_readCell_213 : decode cX7_readCell 213 = .ok (.bipush 114, 2) := by decide +kernel
theorem dX7_readCell_215 : decode cX7_readCell 215 = .ok (.if_icmp .eq 9, 3) := by decide +kernel
theorem dX7_readCell_218 : decode cX7_readCell 218 = .ok (.iload_n 2, 1) := by decide +kernel
theorem dX7_readCell_219 : decode cX7_readCell 219 = .ok (.bipush 82, 2) := by decide +kernel
theorem dX7_readCell_221 : decode cX7_readCell 221 = .ok (.if_icmp .ne 12, 3) := by decide +kernel
theorem dX7_readCell_224 : decode cX7_readCell 224 = .ok (.iconst 1, 1) := by decide +kernel
theorem dX7_readCell_225 : decode cX7_readCell 225 = .ok (.aload_n 0, 1) := by decide +kernel
theorem dX7_readCell_226 : decode cX7_readCell 226 = .ok (.getfield 93, 3) := by decide +kernel
theorem dX7_readCell_229 : decode cX7_readCell 229 = .ok (.ishl, 1) := by decide +kernel
theorem dX7_readCell_230 : decode cX7_readCell 230 = .ok (.goto 4, 3) := by decide +kernel
theorem dX7_readCell_233 : decode cX7_readCell 233 = .ok (.iconst 0, 1) := by decide +kernel
theorem dX7_readCell_234 : decode cX7_readCell 234 = .ok (.ior, 1) := by decide +kernel
theorem dX7_readCell_235 : decode cX7_readCell 235 = .ok (.putfield 102, 3) := by decide +kernel
theorem dX7_readCell_238 : decode cX7_readCell 238 = .ok (.aload_n 0, 1) := by decide +kernel
theorem dX7_readCell_239 : decode cX7_readCell 239 = .ok (.dup, 1) := by decide +kernel
theorem dX7_readCell_240 : decode cX7_readCell 240 = .ok (.getfield 108, 3) := by decide +kernel
theorem dX7_readCell_243 : decode cX7_readCell 243 = .ok (.iload_n 2, 1) := by decide +kernel
theorem dX7_readCell_244 : decode cX7_readCell 244 = .ok (.bipush 76, 2) := by decide +kernel
theorem dX7_readCell_246 : decode cX7_readCell 246 = .ok (.if_icmp .eq 9, 3) := by decide +kernel
theorem dX7_readCell_249 : decode cX7_readCell 249 = .ok (.iload_n 2, 1) := by decide +kernel
theorem dX7_readCell_250 : decode cX7_readCell 250 = .ok (.bipush 82, 2) := by decide +kernel
theorem dX7_readCell_252 : decode cX7_readCell 252 = .ok (.if_icmp .ne 12, 3) := by decide +kernel
theorem dX7_readCell_255 : decode cX7_readCell 255 = .ok (.iconst 1, 1) := by decide +kernel
theorem dX7_readCell_256 : decode cX7_readCell 256 = .ok (.aload_n 0, 1) := by decide +kernel
theorem dX7_readCell_257 : decode cX7_readCell 257 = .ok (.getfield 93, 3) := by decide +kernel
theorem dX7_readCell_260 : decode cX7_readCell 260 = .ok (.ishl, 1) := by decide +kernel
theorem dX7_readCell_261 : decode cX7_readCell 261 = .ok (.goto 4, 3) := by decide +kernel
theorem dX7_readCell_264 : decode cX7_readCell 264 = .ok (.iconst 0, 1) := by decide +kernel
theorem dX7_readCell_265 : decode cX7_readCell 265 = .ok (.ior, 1) := by decide +kernel
theorem dX7_readCell_266 : decode cX7_readCell 266 = .ok (.putfield 108, 3) := by decide +kernel
theorem dX7_readCell_269 : decode cX7_readCell 269 = .ok (.aload_n 0, 1) := by decide +kernel
theorem dX7_readCell_270 : decode cX7_readCell 270 = .ok (.dup, 1) := by decide +kernel
theorem dX7_readCell_271 : decode cX7_readCell 271 = .ok (.getfield 93, 3) := by decide +kernel
theorem dX7_readCell_274 : decode cX7_readCell 274 = .ok (.iconst 1, 1) := by decide +kernel
theorem dX7_readCell_275 : decode cX7_readCell 275 = .ok (.iadd, 1) := by decide +kernel
theorem dX7_readCell_276 : decode cX7_readCell 276 = .ok (.putfield 93, 3) := by decide +kernel
theorem dX7_readCell_279 : decode cX7_readCell 279 = .ok (.iconst 1, 1) := by decide +kernel
theorem dX7_readCell_280 : decode cX7_readCell 280 = .ok (.ireturn, 1) := by decide +kernel
theorem dX7_readNetNext_0 : decode cX7_readNetNext 0 = .ok (.iconst 0, 1) := by decide +kernel
theorem dX7_readNetNext_1 : decode cX7_readNetNext 1 = .ok (.istore_n 2, 1) := by decide +kernel
theorem dX7_readNetNext_2 : decode cX7_readNetNext 2 = .ok (.iconst 1, 1) := by decide +kernel
theorem dX7_readNetNext_3 : decode cX7_readNetNext 3 = .ok (.istore_n 3, 1) := by decide +kernel
theorem dX7_readNetNext_4 : decode cX7_readNetNext 4 = .ok (.iload_n 3, 1) := by decide +kernel
theorem dX7_readNetNext_5 : decode cX7_readNetNext 5 = .ok (.ifCond .eq 87, 3) := by decide +kernel
theorem dX7_readNetNext_8 : decode cX7_readNetNext 8 = .ok (.iload_n 2, 1) := by decide +kernel
theorem dX7_readNetNext_9 : decode cX7_readNetNext 9 = .ok (.invokestatic 130, 3) := by decide +kernel
theorem dX7_readNetNext_12 : decode cX7_readNetNext 12 = .ok (.iconst 4, 1) := by decide +kernel
theorem dX7_readNetNext_13 : decode cX7_readNetNext 13 = .ok (.if_icmp .ge 79, 3) := by decide +kernel
theorem dX7_readNetNext_16 : decode cX7_readNetNext 16 = .ok (.aload_n 0, 1) := by decide +kernel
theorem dX7_readNetNext_17 : decode cX7_readNetNext 17 = .ok (.getfield 72, 3) := by decide +kernel
theorem dX7_readNetNext_20 : decode cX7_readNetNext 20 = .ok (.iload_n 1, 1) := by decide +kernel
theorem dX7_readNetNext_21 : decode cX7_readNetNext 21 = .ok (.if_icmp .ge 71, 3) := by decide +kernel
theorem dX7_readNetNext_24 : decode cX7_readNetNext 24 = .ok (.aload_n 0, 1) := by decide +kernel
theorem dX7_readNetNext_25 : decode cX7_readNetNext 25 = .ok (.getfield 16, 3) := by decide +kernel
theorem dX7_readNetNext_28 : decode cX7_readNetNext 28 = .ok (.aload_n 0, 1) := by decide +kernel
theorem dX7_readNetNext_29 : decode cX7_readNetNext 29 = .ok (.getfield 72, 3) := by decide +kernel
theorem dX7_readNetNext_32 : decode cX7_readNetNext 32 = .ok (.iaload, 1) := by decide +kernel
theorem dX7_readNetNext_33 : decode cX7_readNetNext 33 = .ok (.bipush 48, 2) := by decide +kernel
theorem dX7_readNetNext_35 : decode cX7_readNetNext 35 = .ok (.isub, 1) := by decide +kernel
theorem dX7_readNetNext_36 : decode cX7_readNetNext 36 = .ok (.istore 4, 2) := by decide +kernel
theorem dX7_readNetNext_38 : decode cX7_readNetNext 38 = .ok (.iload 4, 2) := by decide +kernel
theorem dX7_readNetNext_40 : decode cX7_readNetNext 40 = .ok (.iconst 0, 1) := by decide +kernel
theorem dX7_readNetNext_41 : decode cX7_readNetNext 41 = .ok (.aload_n 0, 1) := by decide +kernel
theorem dX7_readNetNext_42 : decode cX7_readNetNext 42 = .ok (.getfield 93, 3) := by decide +kernel
theorem dX7_readNetNext_45 : decode cX7_readNetNext 45 = .ok (.iconst 1, 1) := by decide +kernel
theorem dX7_readNetNext_46 : decode cX7_readNetNext 46 = .ok (.isub, 1) := by decide +kernel
theorem dX7_readNetNext_47 : decode cX7_readNetNext 47 = .ok (.invokestatic 65, 3) := by decide +kernel
theorem dX7_readNetNext_50 : decode cX7_readNetNext 50 = .ok (.ifCond .eq 16, 3) := by decide +kernel
theorem dX7_readNetNext_53 : decode cX7_readNetNext 53 = .ok (.iload_n 2, 1) := by decide +kernel
theorem dX7_readNetNext_54 : decode cX7_readNetNext 54 = .ok (.iload 4, 2) := by decide +kernel
theorem dX7_readNetNext_56 : decode cX7_readNetNext 56 = .ok (.invokestatic 133, 3) := by decide +kernel
theorem dX7_readNetNext_59 : decode cX7_readNetNext 59 = .ok (.ifCond .ne 7, 3) := by decide +kernel
theorem dX7_readNetNext_62 : decode cX7_readNetNext 62 = .ok (.iconst 1, 1) := by decide +kernel
theorem dX7_readNetNext_63 : decode cX7_readNetNext 63 = .ok (.goto 4, 3) := by decide +kernel
theorem dX7_readNetNext_66 : decode cX7_readNetNext 66 = .ok (.iconst 0, 1) := by decide +kernel
theorem dX7_readNetNext_67 : decode cX7_readNetNext 67 = .ok (.istore_n 3, 1) := by decide +kernel
theorem dX7_readNetNext_68 : decode cX7_readNetNext 68 = .ok (.iload_n 3, 1) := by decide +kernel
theorem dX7_readNetNext_69 : decode cX7_readNetNext 69 = .ok (.ifCond .eq 20, 3) := by decide +kernel
theorem dX7_readNetNext_72 : decode cX7_readNetNext 72 = .ok (.iload_n 2, 1) := by decide +kernel
theorem dX7_readNetNext_73 : decode cX7_readNetNext 73 = .ok (.iconst 1, 1) := by decide +kernel
theorem dX7_readNetNext_74 : decode cX7_readNetNext 74 = .ok (.iload 4, 2) := by decide +kernel
theorem dX7_readNetNext_76 : decode cX7_readNetNext 76 = .ok (.ishl, 1) := by decide +kernel
theorem dX7_readNetNext_77 : decode cX7_readNetNext 77 = .ok (.ior, 1) := by decide +kernel
theorem dX7_readNetNext_78 : decode cX7_readNetNext 78 = .ok (.istore_n 2, 1) := by decide +kernel
theorem dX7_readNetNext_79 : decode cX7_readNetNext 79 = .ok (.aload_n 0, 1) := by decide +kernel
theorem dX7_readNetNext_80 : decode cX7_readNetNext 80 = .ok (.dup, 1) := by decide +kernel
theorem dX7_readNetNext_81 : decode cX7_readNetNext 81 = .ok (.getfield 72, 3) := by decide +kernel
theorem dX7_readNetNext_84 : decode cX7_readNetNext 84 = .ok (.iconst 1, 1) := by decide +kernel
theorem dX7_readNetNext_85 : decode cX7_readNetNext 85 = .ok (.iadd, 1) := by decide +kernel
theorem dX7_readNetNext_86 : decode cX7_readNetNext 86 = .ok (.putfield 72, 3) := by decide +kernel
theorem dX7_readNetNext_89 : decode cX7_readNetNext 89 = .ok (.goto (-85), 3) := by decide +kernel
theorem dX7_readNetNext_92 : decode cX7_readNetNext 92 = .ok (.iload_n 2, 1) := by decide +kernel
theorem dX7_readNetNext_93 : decode cX7_readNetNext 93 = .ok (.invokestatic 130, 3) := by decide +kernel
theorem dX7_readNetNext_96 : decode cX7_readNetNext 96 = .ok (.iconst 2, 1) := by decide +kernel
theorem dX7_readNetNext_97 : decode cX7_readNetNext 97 = .ok (.if_icmp .ge 5, 3) := by decide +kernel
theorem dX7_readNetNext_100 : decode cX7_readNetNext 100 = .ok (.iconst 0, 1) := by decide +kernel
theorem dX7_readNetNext_101 : decode cX7_readNetNext 101 = .ok (.ireturn, 1) := by decide +kernel
theorem dX7_readNetNext_102 : decode cX7_readNetNext 102 = .ok (.aload_n 0, 1) := by decide +kernel
theorem dX7_readNetNext_103 : decode cX7_readNetNext 103 = .ok (.getfield 45, 3) := by decide +kernel
theorem dX7_readNetNext_106 : decode cX7_readNetNext 106 = .ok (.aload_n 0, 1) := by decide +kernel
theorem dX7_readNetNext_107 : decode cX7_readNetNext 107 = .ok (.getfield 96, 3) := by decide +kernel
theorem dX7_readNetNext_110 : decode cX7_readNetNext 110 = .ok (.iload_n 2, 1) := by decide +kernel
theorem dX7_readNetNext_111 : decode cX7_readNetNext 111 = .ok (.iastore, 1) := by decide +kernel
theorem dX7_readNetNext_112 : decode cX7_readNetNext 112 = .ok (.aload_n 0, 1) := by decide +kernel
theorem dX7_readNetNext_113 : decode cX7_readNetNext 113 = .ok (.dup, 1) := by decide +kernel
theorem dX7_readNetNext_114 : decode cX7_readNetNext 114 = .ok (.getfield 96, 3) := by decide +kernel
theorem dX7_readNetNext_117 : decode cX7_readNetNext 117 = .ok (.iconst 1, 1) := by decide +kernel
theorem dX7_readNetNext_118 : decode cX7_readNetNext 118 = .ok (.iadd, 1) := by decide +kernel
theorem dX7_readNetNext_119 : decode cX7_readNetNext 119 = .ok (.putfield 96, 3) := by decide +kernel
theorem dX7_readNetNext_122 : decode cX7_readNetNext 122 = .ok (.iconst 1, 1) := by decide +kernel
theorem dX7_readNetNext_123 : decode cX7_readNetNext 123 = .ok (.ireturn, 1) := by decide +kernel
theorem dX7_weightOf_0 : decode cX7_weightOf 0 = .ok (.aload_n 0, 1) := by decide +kernel
theorem dX7_weightOf_1 : decode cX7_weightOf 1 = .ok (.getfield 30, 3) := by decide +kernel
theorem dX7_weightOf_4 : decode cX7_weightOf 4 = .ok (.iload_n 1, 1) := by decide +kernel
theorem dX7_weightOf_5 : decode cX7_weightOf 5 = .ok (.iaload, 1) := by decide +kernel
theorem dX7_weightOf_6 : decode cX7_weightOf 6 = .ok (.ifCond .ne 12, 3) := by decide +kernel
theorem dX7_weightOf_9 : decode cX7_weightOf 9 = .ok (.aload_n 0, 1) := by decide +kernel
theorem dX7_weightOf_10 : decode cX7_weightOf 10 = .ok (.getfield 33, 3) := by decide +kernel
theorem dX7_weightOf_13 : decode cX7_weightOf 13 = .ok (.iload_n 1, 1) := by decide +kernel
theorem dX7_weightOf_14 : decode cX7_weightOf 14 = .ok (.iaload, 1) := by decide +kernel
theorem dX7_weightOf_15 : decode cX7_weightOf 15 = .ok (.goto 32, 3) := by decide +kernel
theorem dX7_weightOf_18 : decode cX7_weightOf 18 = .ok (.aload_n 0, 1) := by decide +kernel
theorem dX7_weightOf_19 : decode cX7_weightOf 19 = .ok (.getfield 30, 3) := by decide +kernel
theorem dX7_weightOf_22 : decode cX7_weightOf 22 = .ok (.iload_n 1, 1) := by decide +kernel
theorem dX7_weightOf_23 : decode cX7_weightOf 23 = .ok (.iaload, 1) := by decide +kernel
theorem dX7_weightOf_24 : decode cX7_weightOf 24 = .ok (.iconst 1, 1) := by decide +kernel
theorem dX7_weightOf_25 : decode cX7_weightOf 25 = .ok (.if_icmp .ne 14, 3) := by decide +kernel
theorem dX7_weightOf_28 : decode cX7_weightOf 28 = .ok (.aload_n 0, 1) := by decide +kernel
theorem dX7_weightOf_29 : decode cX7_weightOf 29 = .ok (.getfield 33, 3) := by decide +kernel
theorem dX7_weightOf_32 : decode cX7_weightOf 32 = .ok (.iload_n 1, 1) := by decide +kernel
theorem dX7_weightOf_33 : decode cX7_weightOf 33 = .ok (.iaload, 1) := by decide +kernel
theorem dX7_weightOf_34 : decode cX7_weightOf 34 = .ok (.iconst 1, 1) := by decide +kernel
theorem dX7_weightOf_35 : decode cX7_weightOf 35 = .ok (.iadd, 1) := by decide +kernel
theorem dX7_weightOf_36 : decode cX7_weightOf 36 = .ok (.goto 11, 3) := by decide +kernel
theorem dX7_weightOf_39 : decode cX7_weightOf 39 = .ok (.iconst 2, 1) := by decide +kernel
theorem dX7_weightOf_40 : decode cX7_weightOf 40 = .ok (.aload_n 0, 1) := by decide +kernel
theorem dX7_weightOf_41 : decode cX7_weightOf 41 = .ok (.getfield 33, 3) := by decide +kernel
theorem dX7_weightOf_44 : decode cX7_weightOf 44 = .ok (.iload_n 1, 1) := by decide +kernel
theorem dX7_weightOf_45 : decode cX7_weightOf 45 = .ok (.iaload, 1) := by decide +kernel
theorem dX7_weightOf_46 : decode cX7_weightOf 46 = .ok (.imul, 1) := by decide +kernel
theorem dX7_weightOf_47 : decode cX7_weightOf 47 = .ok (.ireturn, 1) := by decide +kernel
theorem dX7_weightOfSet_0 : decode cX7_weightOfSet 0 = .ok (.iconst 0, 1) := by decide +kernel
theorem dX7_weightOfSet_1 : decode cX7_weightOfSet 1 = .ok (.istore_n 2, 1) := by decide +kernel
theorem dX7_weightOfSet_2 : decode cX7_weightOfSet 2 = .ok (.iconst 0, 1) := by decide +kernel
theorem dX7_weightOfSet_3 : decode cX7_weightOfSet 3 = .ok (.istore_n 3, 1) := by decide +kernel
theorem dX7_weightOfSet_4 : decode cX7_weightOfSet 4 = .ok (.iload_n 3, 1) := by decide +kernel
theorem dX7_weightOfSet_5 : decode cX7_weightOfSet 5 = .ok (.aload_n 0, 1) := by decide +kernel
theorem dX7_weightOfSet_6 : decode cX7_weightOfSet 6 = .ok (.getfield 69, 3) := by decide +kernel
theorem dX7_weightOfSet_9 : decode cX7_weightOfSet 9 = .ok (.if_icmp .ge 29, 3) := by decide +kernel
theorem dX7_weightOfSet_12 : decode cX7_weightOfSet 12 = .ok (.iload_n 2, 1) := by decide +kernel
theorem dX7_weightOfSet_13 : decode cX7_weightOfSet 13 = .ok (.iload_n 1, 1) := by decide +kernel
theorem dX7_weightOfSet_14 : decode cX7_weightOfSet 14 = .ok (.iload_n 3, 1) := by decide +kernel
theorem dX7_weightOfSet_15 : decode cX7_weightOfSet 15 = .ok (.invokestatic 133, 3) := by decide +kernel
theorem dX7_weightOfSet_18 : decode cX7_weightOfSet 18 = .ok (.ifCond .eq 11, 3) := by decide +kernel
theorem dX7_weightOfSet_21 : decode cX7_weightOfSet 21 = .ok (.aload_n 0, 1) := by decide +kernel
theorem dX7_weightOfSet_22 : decode cX7_weightOfSet 22 = .ok (.iload_n 3, 1) := by decide +kernel
theorem dX7_weightOfSet_23 : decode cX7_weightOfSet 23 = .ok (.invokevirtual 136, 3) := by decide +kernel
theorem dX7_weightOfSet_26 : decode cX7_weightOfSet 26 = .ok (.goto 4, 3) := by decide +kernel
theorem dX7_weightOfSet_29 : decode cX7_weightOfSet 29 = .ok (.iconst 0, 1) := by decide +kernel
theorem dX7_weightOfSet_30 : decode cX7_weightOfSet 30 = .ok (.iadd, 1) := by decide +kernel
theorem dX7_weightOfSet_31 : decode cX7_weightOfSet 31 = .ok (.istore_n 2, 1) := by decide +kernel
theorem dX7_weightOfSet_32 : decode cX7_weightOfSet 32 = .ok (.iinc 3 1, 3) := by decide +kernel
theorem dX7_weightOfSet_35 : decode cX7_weightOfSet 35 = .ok (.goto (-31), 3) := by decide +kernel
theorem dX7_weightOfSet_38 : decode cX7_weightOfSet 38 = .ok (.iload_n 2, 1) := by decide +kernel
theorem dX7_weightOfSet_39 : decode cX7_weightOfSet 39 = .ok (.ireturn, 1) := by decide +kernel
theorem dX7_all_0 : decode cX7_all 0 = .ok (.iconst 1, 1) := by decide +kernel
theorem dX7_all_1 : decode cX7_all 1 = .ok (.aload_n 0, 1) := by decide +kernel
theorem dX7_all_2 : decode cX7_all 2 = .ok (.getfield 69, 3) := by decide +kernel
theorem dX7_all_5 : decode cX7_all 5 = .ok (.ishl, 1) := by decide +kernel
theorem dX7_all_6 : decode cX7_all 6 = .ok (.iconst 1, 1) := by decide +kernel
theorem dX7_all_7 : decode cX7_all 7 = .ok (.isub, 1) := by decide +kernel
theorem dX7_all_8 : decode cX7_all 8 = .ok (.ireturn, 1) := by decide +kernel
theorem dX7_floatOf_0 : decode cX7_floatOf 0 = .ok (.iload_n 0, 1) := by decide +kernel
theorem dX7_floatOf_1 : decode cX7_floatOf 1 = .ok (.ifCond .ne 5, 3) := by decide +kernel
theorem dX7_floatOf_4 : decode cX7_floatOf 4 = .ok (.iconst 0, 1) := by decide +kernel
theorem dX7_floatOf_5 : decode cX7_floatOf 5 = .ok (.ireturn, 1) := by decide +kernel
theorem dX7_floatOf_6 : decode cX7_floatOf 6 = .ok (.iconst 0, 1) := by decide +kernel
theorem dX7_floatOf_7 : decode cX7_floatOf 7 = .ok (.istore_n 2, 1) := by decide +kernel
theorem dX7_floatOf_8 : decode cX7_floatOf 8 = .ok (.iload_n 0, 1) := by decide +kernel
theorem dX7_floatOf_9 : decode cX7_floatOf 9 = .ok (.iload_n 2, 1) := by decide +kernel
theorem dX7_floatOf_10 : decode cX7_floatOf 10 = .ok (.ishl, 1) := by decide +kernel
theorem dX7_floatOf_11 : decode cX7_floatOf 11 = .ok (.iload_n 1, 1) := by decide +kernel
theorem dX7_floatOf_12 : decode cX7_floatOf 12 = .ok (.if_icmp .ge 9, 3) := by decide +kernel
theorem dX7_floatOf_15 : decode cX7_floatOf 15 = .ok (.iinc 2 1, 3) := by decide +kernel
theorem dX7_floatOf_18 : decode cX7_floatOf 18 = .ok (.goto (-10), 3) := by decide +kernel
theorem dX7_floatOf_21 : decode cX7_floatOf 21 = .ok (.iload_n 0, 1) := by decide +kernel
theorem dX7_floatOf_22 : decode cX7_floatOf 22 = .ok (.i2l, 1) := by decide +kernel
theorem dX7_floatOf_23 : decode cX7_floatOf 23 = .ok (.bipush 23, 2) := by decide +kernel
theorem dX7_floatOf_25 : decode cX7_floatOf 25 = .ok (.iload_n 2, 1) := by decide +kernel
theorem dX7_floatOf_26 : decode cX7_floatOf 26 = .ok (.iadd, 1) := by decide +kernel
theorem dX7_floatOf_27 : decode cX7_floatOf 27 = .ok (.lshl, 1) := by decide +kernel
theorem dX7_floatOf_28 : decode cX7_floatOf 28 = .ok (.lstore_n 3, 1) := by decide +kernel
theorem dX7_floatOf_29 : decode cX7_floatOf 29 = .ok (.lload_n 3, 1) := by decide +kernel
theorem dX7_floatOf_30 : decode cX7_floatOf 30 = .ok (.iload_n 1, 1) := by decide +kernel
theorem dX7_floatOf_31 : decode cX7_floatOf 31 = .ok (.i2l, 1) := by decide +kernel
theorem dX7_floatOf_32 : decode cX7_floatOf 32 = .ok (.ldiv, 1) := by decide +kernel
theorem dX7_floatOf_33 : decode cX7_floatOf 33 = .ok (.lstore 5, 2) := by decide +kernel
theorem dX7_floatOf_35 : decode cX7_floatOf 35 = .ok (.ldc2_w 139, 3) := by decide +kernel
theorem dX7_floatOf_38 : decode cX7_floatOf 38 = .ok (.lload_n 3, 1) := by decide +kernel
theorem dX7_floatOf_39 : decode cX7_floatOf 39 = .ok (.iload_n 1, 1) := by decide +kernel
theorem dX7_floatOf_40 : decode cX7_floatOf 40 = .ok (.i2l, 1) := by decide +kernel
theorem dX7_floatOf_41 : decode cX7_floatOf 41 = .ok (.lrem, 1) := by decide +kernel
theorem dX7_floatOf_42 : decode cX7_floatOf 42 = .ok (.lmul, 1) := by decide +kernel
theorem dX7_floatOf_43 : decode cX7_floatOf 43 = .ok (.lstore 7, 2) := by decide +kernel
theorem dX7_floatOf_45 : decode cX7_floatOf 45 = .ok (.lload 7, 2) := by decide +kernel
theorem dX7_floatOf_47 : decode cX7_floatOf 47 = .ok (.iload_n 1, 1) := by decide +kernel
theorem dX7_floatOf_48 : decode cX7_floatOf 48 = .ok (.i2l, 1) := by decide +kernel
theorem dX7_floatOf_49 : decode cX7_floatOf 49 = .ok (.lcmp, 1) := by decide +kernel
theorem dX7_floatOf_50 : decode cX7_floatOf 50 = .ok (.ifCond .gt 22, 3) := by decide +kernel
theorem dX7_floatOf_53 : decode cX7_floatOf 53 = .ok (.lload 7, 2) := by decide +kernel
theorem dX7_floatOf_55 : decode cX7_floatOf 55 = .ok (.iload_n 1, 1) := by decide +kernel
theorem dX7_floatOf_56 : decode cX7_floatOf 56 = .ok (.i2l, 1) := by decide +kernel
theorem dX7_floatOf_57 : decode cX7_floatOf 57 = .ok (.lcmp, 1) := by decide +kernel
theorem dX7_floatOf_58 : decode cX7_floatOf 58 = .ok (.ifCond .ne 20, 3) := by decide +kernel
theorem dX7_floatOf_61 : decode cX7_floatOf 61 = .ok (.lload 5, 2) := by decide +kernel
theorem dX7_floatOf_63 : decode cX7_floatOf 63 = .ok (.ldc2_w 139, 3) := by decide +kernel
theorem dX7_floatOf_66 : decode cX7_floatOf 66 = .ok (.lrem, 1) := by decide +kernel
theorem dX7_floatOf_67 : decode cX7_floatOf 67 = .ok (.lconst 1, 1) := by decide +kernel
theorem dX7_floatOf_68 : decode cX7_floatOf 68 = .ok (.lcmp, 1) := by decide +kernel
theorem dX7_floatOf_69 : decode cX7_floatOf 69 = .ok (.ifCond .ne 9, 3) := by decide +kernel
theorem dX7_floatOf_72 : decode cX7_floatOf 72 = .ok (.lload 5, 2) := by decide +kernel
theorem dX7_floatOf_74 : decode cX7_floatOf 74 = .ok (.lconst 1, 1) := by decide +kernel
theorem dX7_floatOf_75 : decode cX7_floatOf 75 = .ok (.ladd, 1) := by decide +kernel
theorem dX7_floatOf_76 : decode cX7_floatOf 76 = .ok (.lstore 5, 2) := by decide +kernel
theorem dX7_floatOf_78 : decode cX7_floatOf 78 = .ok (.bipush 127, 2) := by decide +kernel
theorem dX7_floatOf_80 : decode cX7_floatOf 80 = .ok (.iload_n 2, 1) := by decide +kernel
theorem dX7_floatOf_81 : decode cX7_floatOf 81 = .ok (.isub, 1) := by decide +kernel
theorem dX7_floatOf_82 : decode cX7_floatOf 82 = .ok (.bipush 23, 2) := by decide +kernel
theorem dX7_floatOf_84 : decode cX7_floatOf 84 = .ok (.ishl, 1) := by decide +kernel
theorem dX7_floatOf_85 : decode cX7_floatOf 85 = .ok (.lload 5, 2) := by decide +kernel
theorem dX7_floatOf_87 : decode cX7_floatOf 87 = .ok (.ldc2_w 141, 3) := by decide +kernel
theorem dX7_floatOf_90 : decode cX7_floatOf 90 = .ok (.lsub, 1) := by decide +kernel
theorem dX7_floatOf_91 : decode cX7_floatOf 91 = .ok (.l2i, 1) := by decide +kernel
theorem dX7_floatOf_92 : decode cX7_floatOf 92 = .ok (.iadd, 1) := by decide +kernel
theorem dX7_floatOf_93 : decode cX7_floatOf 93 = .ok (.ireturn, 1) := by decide +kernel
theorem dX7_shareOf_0 : decode cX7_shareOf 0 = .ok (.aload_n 0, 1) := by decide +kernel
theorem dX7_shareOf_1 : decode cX7_shareOf 1 = .ok (.iload_n 1, 1) := by decide +kernel
theorem dX7_shareOf_2 : decode cX7_shareOf 2 = .ok (.iconst 1, 1) := by decide +kernel
theorem dX7_shareOf_3 : decode cX7_shareOf 3 = .ok (.if_icmp .ne 7, 3) := by decide +kernel
theorem dX7_shareOf_6 : decode cX7_shareOf 6 = .ok (.iload_n 2, 1) := by decide +kernel
theorem dX7_shareOf_7 : decode cX7_shareOf 7 = .ok (.goto 11, 3) := by decide +kernel
theorem dX7_shareOf_10 : decode cX7_shareOf 10 = .ok (.aload_n 0, 1) := by decide +kernel
theorem dX7_shareOf_11 : decode cX7_shareOf 11 = .ok (.invokevirtual 143, 3) := by decide +kernel
theorem dX7_shareOf_14 : decode cX7_shareOf 14 = .ok (.iload_n 2, 1) := by decide +kernel
theorem dX7_shareOf_15 : decode cX7_shareOf 15 = .ok (.iconst (-1), 1) := by decide +kernel
theorem dX7_shareOf_16 : decode cX7_shareOf 16 = .ok (.ixor, 1) := by decide +kernel
theorem dX7_shareOf_17 : decode cX7_shareOf 17 = .ok (.iand, 1) := by decide +kernel
theorem dX7_shareOf_18 : decode cX7_shareOf 18 = .ok (.invokevirtual 147, 3) := by decide +kernel
theorem dX7_shareOf_21 : decode cX7_shareOf 21 = .ok (.aload_n 0, 1) := by decide +kernel
theorem dX7_shareOf_22 : decode cX7_shareOf 22 = .ok (.aload_n 0, 1) := by decide +kernel
theorem dX7_shareOf_23 : decode cX7_shareOf 23 = .ok (.invokevirtual 143, 3) := by decide +kernel
theorem dX7_shareOf_26 : decode cX7_shareOf 26 = .ok (.invokevirtual 147, 3) := by decide +kernel
theorem dX7_shareOf_29 : decode cX7_shareOf 29 = .ok (.invokestatic 150, 3) := by decide +kernel
theorem dX7_shareOf_32 : decode cX7_shareOf 32 = .ok (.ireturn, 1) := by decide +kernel
theorem dX7_isWithin_0 : decode cX7_isWithin 0 = .ok (.aload_n 0, 1) := by decide +kernel
theorem dX7_isWithin_1 : decode cX7_isWithin 1 = .ok (.iload_n 1, 1) := by decide +kernel
theorem dX7_isWithin_2 : decode cX7_isWithin 2 = .ok (.iload_n 2, 1) := by decide +kernel
theorem dX7_isWithin_3 : decode cX7_isWithin 3 = .ok (.invokevirtual 154, 3) := by decide +kernel
theorem dX7_isWithin_6 : decode cX7_isWithin 6 = .ok (.aload_n 0, 1) := by decide +kernel
theorem dX7_isWithin_7 : decode cX7_isWithin 7 = .ok (.getfield 20, 3) := by decide +kernel
theorem dX7_isWithin_10 : decode cX7_isWithin 10 = .ok (.if_icmp .gt 7, 3) := by decide +kernel
theorem dX7_isWithin_13 : decode cX7_isWithin 13 = .ok (.iconst 1, 1) := by decide +kernel
theorem dX7_isWithin_14 : decode cX7_isWithin 14 = .ok (.goto 4, 3) := by decide +kernel
theorem dX7_isWithin_17 : decode cX7_isWithin 17 = .ok (.iconst 0, 1) := by decide +kernel
theorem dX7_isWithin_18 : decode cX7_isWithin 18 = .ok (.ireturn, 1) := by decide +kernel
theorem dX7_isCut_0 : decode cX7_isCut 0 = .ok (.aload_n 0, 1) := by decide +kernel
theorem dX7_isCut_1 : decode cX7_isCut 1 = .ok (.getfield 36, 3) := by decide +kernel
theorem dX7_isCut_4 : decode cX7_isCut 4 = .ok (.iload_n 1, 1) := by decide +kernel
theorem dX7_isCut_5 : decode cX7_isCut 5 = .ok (.iaload, 1) := by decide +kernel
theorem dX7_isCut_6 : decode cX7_isCut 6 = .ok (.iload_n 2, 1) := by decide +kernel
theorem dX7_isCut_7 : decode cX7_isCut 7 = .ok (.iand, 1) := by decide +kernel
theorem dX7_isCut_8 : decode cX7_isCut 8 = .ok (.istore_n 3, 1) := by decide +kernel
theorem dX7_isCut_9 : decode cX7_isCut 9 = .ok (.iload_n 3, 1) := by decide +kernel
theorem dX7_isCut_10 : decode cX7_isCut 10 = .ok (.ifCond .eq 17, 3) := by decide +kernel
theorem dX7_isCut_13 : decode cX7_isCut 13 = .ok (.iload_n 3, 1) := by decide +kernel
theorem dX7_isCut_14 : decode cX7_isCut 14 = .ok (.aload_n 0, 1) := by decide +kernel
theorem dX7_isCut_15 : decode cX7_isCut 15 = .ok (.getfield 36, 3) := by decide +kernel
theorem dX7_isCut_18 : decode cX7_isCut 18 = .ok (.iload_n 1, 1) := by decide +kernel
theorem dX7_isCut_19 : decode cX7_isCut 19 = .ok (.iaload, 1) := by decide +kernel
theorem dX7_isCut_20 : decode cX7_isCut 20 = .ok (.if_icmp .eq 7, 3) := by decide +kernel
theorem dX7_isCut_23 : decode cX7_isCut 23 = .ok (.iconst 1, 1) := by decide +kernel
theorem dX7_isCut_24 : decode cX7_isCut 24 = .ok (.goto 4, 3) := by decide +kernel
theorem dX7_isCut_27 : decode cX7_isCut 27 = .ok (.iconst 0, 1) := by decide +kernel
theorem dX7_isCut_28 : decode cX7_isCut 28 = .ok (.ireturn, 1) := by decide +kernel
theorem dX7_cutsBy_0 : decode cX7_cutsBy 0 = .ok (.iconst 0, 1) := by decide +kernel
theorem dX7_cutsBy_1 : decode cX7_cutsBy 1 = .ok (.istore_n 2, 1) := by decide +kernel
theorem dX7_cutsBy_2 : decode cX7_cutsBy 2 = .ok (.iconst 0, 1) := by decide +kernel
theorem dX7_cutsBy_3 : decode cX7_cutsBy 3 = .ok (.istore_n 3, 1) := by decide +kernel
theorem dX7_cutsBy_4 : decode cX7_cutsBy 4 = .ok (.iload_n 3, 1) := by decide +kernel
theorem dX7_cutsBy_5 : decode cX7_cutsBy 5 = .ok (.aload_n 0, 1) := by decide +kernel
theorem dX7_cutsBy_6 : decode cX7_cutsBy 6 = .ok (.getfield 99, 3) := by decide +kernel
theorem dX7_cutsBy_9 : decode cX7_cutsBy 9 = .ok (.if_icmp .ge 26, 3) := by decide +kernel
theorem dX7_cutsBy_12 : decode cX7_cutsBy 12 = .ok (.iload_n 2, 1) := by decide +kernel
theorem dX7_cutsBy_13 : decode cX7_cutsBy 13 = .ok (.aload_n 0, 1) := by decide +kernel
theorem dX7_cutsBy_14 : decode cX7_cutsBy 14 = .ok (.iload_n 3, 1) := by decide +kernel
theorem dX7_cutsBy_15 : decode cX7_cutsBy 15 = .ok (.iload_n 1, 1) := by decide +kernel
theorem dX7_cutsBy_16 : decode cX7_cutsBy 16 = .ok (.invokevirtual 157, 3) := by decide +kernel
theorem dX7_cutsBy_19 : decode cX7_cutsBy 19 = .ok (.ifCond .eq 7, 3) := by decide +kernel
theorem dX7_cutsBy_22 : decode cX7_cutsBy 22 = .ok (.iconst 1, 1) := by decide +kernel
theorem dX7_cutsBy_23 : decode cX7_cutsBy 23 = .ok (.goto 4, 3) := by decide +kernel
theorem dX7_cutsBy_26 : decode cX7_cutsBy 26 = .ok (.iconst 0, 1) := by decide +kernel
theorem dX7_cutsBy_27 : decode cX7_cutsBy 27 = .ok (.iadd, 1) := by decide +kernel
theorem dX7_cutsBy_28 : decode cX7_cutsBy 28 = .ok (.istore_n 2, 1) := by decide +kernel
theorem dX7_cutsBy_29 : decode cX7_cutsBy 29 = .ok (.iinc 3 1, 3) := by decide +kernel
theorem dX7_cutsBy_32 : decode cX7_cutsBy 32 = .ok (.goto (-28), 3) := by decide +kernel
theorem dX7_cutsBy_35 : decode cX7_cutsBy 35 = .ok (.iload_n 2, 1) := by decide +kernel
theorem dX7_cutsBy_36 : decode cX7_cutsBy 36 = .ok (.ireturn, 1) := by decide +kernel
theorem dX7_gainOf_0 : decode cX7_gainOf 0 = .ok (.aload_n 0, 1) := by decide +kernel
theorem dX7_gainOf_1 : decode cX7_gainOf 1 = .ok (.iload_n 2, 1) := by decide +kernel
theorem dX7_gainOf_2 : decode cX7_gainOf 2 = .ok (.invokevirtual 160, 3) := by decide +kernel
theorem dX7_gainOf_5 : decode cX7_gainOf 5 = .ok (.aload_n 0, 1) := by decide +kernel
theorem dX7_gainOf_6 : decode cX7_gainOf 6 = .ok (.iload_n 2, 1) := by decide +kernel
theorem dX7_gainOf_7 : decode cX7_gainOf 7 = .ok (.iconst 1, 1) := by decide +kernel
theorem dX7_gainOf_8 : decode cX7_gainOf 8 = .ok (.iload_n 1, 1) := by decide +kernel
theorem dX7_gainOf_9 : decode cX7_gainOf 9 = .ok (.ishl, 1) := by decide +kernel
theorem dX7_gainOf_10 : decode cX7_gainOf 10 = .ok (.ixor, 1) := by decide +kernel
theorem dX7_gainOf_11 : decode cX7_gainOf 11 = .ok (.invokevirtual 160, 3) := by decide +kernel
theorem dX7_gainOf_14 : decode cX7_gainOf 14 = .ok (.isub, 1) := by decide +kernel
theorem dX7_gainOf_15 : decode cX7_gainOf 15 = .ok (.ireturn, 1) := by decide +kernel
theorem dX7_netsOf_0 : decode cX7_netsOf 0 = .ok (.iconst 0, 1) := by decide +kernel
theorem dX7_netsOf_1 : decode cX7_netsOf 1 = .ok (.istore_n 2, 1) := by decide +kernel
theorem dX7_netsOf_2 : decode cX7_netsOf 2 = .ok (.iconst 0, 1) := by decide +kernel
theorem dX7_netsOf_3 : decode cX7_netsOf 3 = .ok (.istore_n 3, 1) := by decide +kernel
theorem dX7_netsOf_4 : decode cX7_netsOf 4 = .ok (.iload_n 3, 1) := by decide +kernel
theorem dX7_netsOf_5 : decode cX7_netsOf 5 = .ok (.aload_n 0, 1) := by decide +kernel
theorem dX7_netsOf_6 : decode cX7_netsOf 6 = .ok (.getfield 99, 3) := by decide +kernel
theorem dX7_netsOf_9 : decode cX7_netsOf 9 = .ok (.if_icmp .ge 32, 3) := by decide +kernel
theorem dX7_netsOf_12 : decode cX7_netsOf 12 = .ok (.iload_n 2, 1) := by decide +kernel
theorem dX7_netsOf_13 : decode cX7_netsOf 13 = .ok (.aload_n 0, 1) := by decide +kernel
theorem dX7_netsOf_14 : decode cX7_netsOf 14 = .ok (.getfield 36, 3) := by decide +kernel
theorem dX7_netsOf_17 : decode cX7_netsOf 17 = .ok (.iload_n 3, 1) := by decide +kernel
theorem dX7_netsOf_18 : decode cX7_netsOf 18 = .ok (.iaload, 1) := by decide +kernel
theorem dX7_netsOf_19 : decode cX7_netsOf 19 = .ok (.iload_n 1, 1) := by decide +kernel
theorem dX7_netsOf_20 : decode cX7_netsOf 20 = .ok (.invokestatic 133, 3) := by decide +kernel
theorem dX7_netsOf_23 : decode cX7_netsOf 23 = .ok (.ifCond .eq 9, 3) := by decide +kernel
theorem dX7_netsOf_26 : decode cX7_netsOf 26 = .ok (.iconst 1, 1) := by decide +kernel
theorem dX7_netsOf_27 : decode cX7_netsOf 27 = .ok (.iload_n 3, 1) := by decide +kernel
theorem dX7_netsOf_28 : decode cX7_netsOf 28 = .ok (.ishl, 1) := by decide +kernel
theorem dX7_netsOf_29 : decode cX7_netsOf 29 = .ok (.goto 4, 3) := by decide +kernel
theorem dX7_netsOf_32 : decode cX7_netsOf 32 = .ok (.iconst 0, 1) := by decide +kernel
theorem dX7_netsOf_33 : decode cX7_netsOf 33 = .ok (.ior, 1) := by decide +kernel
theorem dX7_netsOf_34 : decode cX7_netsOf 34 = .ok (.istore_n 2, 1) := by decide +kernel
theorem dX7_netsOf_35 : decode cX7_netsOf 35 = .ok (.iinc 3 1, 3) := by decide +kernel
theorem dX7_netsOf_38 : decode cX7_netsOf 38 = .ok (.goto (-34), 3) := by decide +kernel
theorem dX7_netsOf_41 : decode cX7_netsOf 41 = .ok (.iload_n 2, 1) := by decide +kernel
theorem dX7_netsOf_42 : decode cX7_netsOf 42 = .ok (.ireturn, 1) := by decide +kernel
theorem dX7_ofCell_0 : decode cX7_ofCell 0 = .ok (.aload_n 0, 1) := by decide +kernel
theorem dX7_ofCell_1 : decode cX7_ofCell 1 = .ok (.iload_n 1, 1) := by decide +kernel
theorem dX7_ofCell_2 : decode cX7_ofCell 2 = .ok (.invokevirtual 163, 3) := by decide +kernel
theorem dX7_ofCell_5 : decode cX7_ofCell 5 = .ok (.ifCond .ne 5, 3) := by decide +kernel
theorem dX7_ofCell_8 : decode cX7_ofCell 8 = .ok (.iconst (-1), 1) := by decide +kernel
theorem dX7_ofCell_9 : decode cX7_ofCell 9 = .ok (.ireturn, 1) := by decide +kernel
theorem dX7_ofCell_10 : decode cX7_ofCell 10 = .ok (.iload_n 2, 1) := by decide +kernel
theorem dX7_ofCell_11 : decode cX7_ofCell 11 = .ok (.tableswitch 119 0 7 #[45, 52, 59, 65, 74, 83, 89, 102], 45) := by decide +kernel
theorem dX7_ofCell_56 : decode cX7_ofCell 56 = .ok (.aload_n 0, 1) := by decide +kernel
theorem dX7_ofCell_57 : decode cX7_ofCell 57 = .ok (.getfield 30, 3) := by decide +kernel
theorem dX7_ofCell_60 : decode cX7_ofCell 60 = .ok (.iload_n 1, 1) := by decide +kernel
theorem dX7_ofCell_61 : decode cX7_ofCell 61 = .ok (.iaload, 1) := by decide +kernel
theorem dX7_ofCell_62 : decode cX7_ofCell 62 = .ok (.ireturn, 1) := by decide +kernel
theorem dX7_ofCell_63 : decode cX7_ofCell 63 = .ok (.aload_n 0, 1) := by decide +kernel
theorem dX7_ofCell_64 : decode cX7_ofCell 64 = .ok (.getfield 33, 3) := by decide +kernel
theorem dX7_ofCell_67 : decode cX7_ofCell 67 = .ok (.iload_n 1, 1) := by decide +kernel
theorem dX7_ofCell_68 : decode cX7_ofCell 68 = .ok (.iaload, 1) := by decide +kernel
theorem dX7_ofCell_69 : decode cX7_ofCell 69 = .ok (.ireturn, 1) := by decide +kernel
theorem dX7_ofCell_70 : decode cX7_ofCell 70 = .ok (.aload_n 0, 1) := by decide +kernel
theorem dX7_ofCell_71 : decode cX7_ofCell 71 = .ok (.iload_n 1, 1) := by decide +kernel
theorem dX7_ofCell_72 : decode cX7_ofCell 72 = .ok (.invokevirtual 136, 3) := by decide +kernel
theorem dX7_ofCell_75 : decode cX7_ofCell 75 = .ok (.ireturn, 1) := by decide +kernel
theorem dX7_ofCell_76 : decode cX7_ofCell 76 = .ok (.aload_n 0, 1) := by decide +kernel
theorem dX7_ofCell_77 : decode cX7_ofCell 77 = .ok (.getfield 105, 3) := by decide +kernel
theorem dX7_ofCell_80 : decode cX7_ofCell 80 = .ok (.iload_n 1, 1) := by decide +kernel
theorem dX7_ofCell_81 : decode cX7_ofCell 81 = .ok (.ishr, 1) := by decide +kernel
theorem dX7_ofCell_82 : decode cX7_ofCell 82 = .ok (.iconst 1, 1) := by decide +kernel
theorem dX7_ofCell_83 : decode cX7_ofCell 83 = .ok (.iand, 1) := by decide +kernel
theorem dX7_ofCell_84 : decode cX7_ofCell 84 = .ok (.ireturn, 1) := by decide +kernel
theorem dX7_ofCell_85 : decode cX7_ofCell 85 = .ok (.aload_n 0, 1) := by decide +kernel
theorem dX7_ofCell_86 : decode cX7_ofCell 86 = .ok (.getfield 111, 3) := by decide +kernel
theorem dX7_ofCell_89 : decode cX7_ofCell 89 = .ok (.iload_n 1, 1) := by decide +kernel
theorem dX7_ofCell_90 : decode cX7_ofCell 90 = .ok (.ishr, 1) := by decide +kernel
theorem dX7_ofCell_91 : decode cX7_ofCell 91 = .ok (.iconst 1, 1) := by decide +kernel
theorem dX7_ofCell_92 : decode cX7_ofCell 92 = .ok (.iand, 1) := by decide +kernel
theorem dX7_ofCell_93 : decode cX7_ofCell 93 = .ok (.ireturn, 1) := by decide +kernel
theorem dX7_ofCell_94 : decode cX7_ofCell 94 = .ok (.aload_n 0, 1) := by decide +kernel
theorem dX7_ofCell_95 : decode cX7_ofCell 95 = .ok (.iload_n 1, 1) := by decide +kernel
theorem dX7_ofCell_96 : decode cX7_ofCell 96 = .ok (.invokevirtual 166, 3) := by decide +kernel
theorem dX7_ofCell_99 : decode cX7_ofCell 99 = .ok (.ireturn, 1) := by decide +kernel
theorem dX7_ofCell_100 : decode cX7_ofCell 100 = .ok (.aload_n 0, 1) := by decide +kernel
theorem dX7_ofCell_101 : decode cX7_ofCell 101 = .ok (.iload_n 1, 1) := by decide +kernel
theorem dX7_ofCell_102 : decode cX7_ofCell 102 = .ok (.aload_n 0, 1) := by decide +kernel
theorem dX7_ofCell_103 : decode cX7_ofCell 103 = .ok (.getfield 105, 3) := by decide +kernel
theorem dX7_ofCell_106 : decode cX7_ofCell 106 = .ok (.invokevirtual 169, 3) := by decide +kernel
theorem dX7_ofCell_109 : decode cX7_ofCell 109 = .ok (.bipush 10, 2) := by decide +kernel
theorem dX7_ofCell_111 : decode cX7_ofCell 111 = .ok (.iadd, 1) := by decide +kernel
theorem dX7_ofCell_112 : decode cX7_ofCell 112 = .ok (.ireturn, 1) := by decide +kernel
theorem dX7_ofCell_113 : decode cX7_ofCell 113 = .ok (.aload_n 0, 1) := by decide +kernel
theorem dX7_ofCell_114 : decode cX7_ofCell 114 = .ok (.iload_n 1, 1) := by decide +kernel
theorem dX7_ofCell_115 : decode cX7_ofCell 115 = .ok (.invokevirtual 136, 3) := by decide +kernel
theorem dX7_ofCell_118 : decode cX7_ofCell 118 = .ok (.aload_n 0, 1) := by decide +kernel
theorem dX7_ofCell_119 : decode cX7_ofCell 119 = .ok (.aload_n 0, 1) := by decide +kernel
theorem dX7_ofCell_120 : decode cX7_ofCell 120 = .ok (.invokevirtual 143, 3) := by decide +kernel
theorem dX7_ofCell_123 : decode cX7_ofCell 123 = .ok (.invokevirtual 147, 3) := by decide +kernel
theorem dX7_ofCell_126 : decode cX7_ofCell 126 = .ok (.invokestatic 150, 3) := by decide +kernel
theorem dX7_ofCell_129 : decode cX7_ofCell 129 = .ok (.ireturn, 1) := by decide +kernel
theorem dX7_ofCell_130 : decode cX7_ofCell 130 = .ok (.bipush (-2), 2) := by decide +kernel
theorem dX7_ofCell_132 : decode cX7_ofCell 132 = .ok (.ireturn, 1) := by decide +kernel
theorem dX7_ofNet_0 : decode cX7_ofNet 0 = .ok (.iload_n 1, 1) := by decide +kernel
theorem dX7_ofNet_1 : decode cX7_ofNet 1 = .ok (.ifCond .lt 11, 3) := by decide +kernel
theorem dX7_ofNet_4 : decode cX7_ofNet 4 = .ok (.iload_n 1, 1) := by decide +kernel
theorem dX7_ofNet_5 : decode cX7_ofNet 5 = .ok (.aload_n 0, 1) := by decide +kernel
theorem dX7_ofNet_6 : decode cX7_ofNet 6 = .ok (.getfield 99, 3) := by decide +kernel
theorem dX7_ofNet_9 : decode cX7_ofNet 9 = .ok (.if_icmp .lt 5, 3) := by decide +kernel
theorem dX7_ofNet_12 : decode cX7_ofNet 12 = .ok (.iconst (-1), 1) := by decide +kernel
theorem dX7_ofNet_13 : decode cX7_ofNet 13 = .ok (.ireturn, 1) := by decide +kernel
theorem dX7_ofNet_14 : decode cX7_ofNet 14 = .ok (.iload_n 2, 1) := by decide +kernel
theorem dX7_ofNet_15 : decode cX7_ofNet 15 = .ok (.ifCond .ne 12, 3) := by decide +kernel
theorem dX7_ofNet_18 : decode cX7_ofNet 18 = .ok (.aload_n 0, 1) := by decide +kernel
theorem dX7_ofNet_19 : decode cX7_ofNet 19 = .ok (.getfield 36, 3) := by decide +kernel
theorem dX7_ofNet_22 : decode cX7_ofNet 22 = .ok (.iload_n 1, 1) := by decide +kernel
theorem dX7_ofNet_23 : decode cX7_ofNet 23 = .ok (.iaload, 1) := by decide +kernel
theorem dX7_ofNet_24 : decode cX7_ofNet 24 = .ok (.goto 49, 3) := by decide +kernel
theorem dX7_ofNet_27 : decode cX7_ofNet 27 = .ok (.iload_n 2, 1) := by decide +kernel
theorem dX7_ofNet_28 : decode cX7_ofNet 28 = .ok (.iconst 1, 1) := by decide +kernel
theorem dX7_ofNet_29 : decode cX7_ofNet 29 = .ok (.if_icmp .ne 17, 3) := by decide +kernel
theorem dX7_ofNet_32 : decode cX7_ofNet 32 = .ok (.aload_n 0, 1) := by decide +kernel
theorem dX7_ofNet_33 : decode cX7_ofNet 33 = .ok (.getfield 36, 3) := by decide +kernel
theorem dX7_ofNet_36 : decode cX7_ofNet 36 = .ok (.iload_n 1, 1) := by decide +kernel
theorem dX7_ofNet_37 : decode cX7_ofNet 37 = .ok (.iaload, 1) := by decide +kernel
theorem dX7_ofNet_38 : decode cX7_ofNet 38 = .ok (.aload_n 0, 1) := by decide +kernel
theorem dX7_ofNet_39 : decode cX7_ofNet 39 = .ok (.getfield 105, 3) := by decide +kernel
theorem dX7_ofNet_42 : decode cX7_ofNet 42 = .ok (.iand, 1) := by decide +kernel
theorem dX7_ofNet_43 : decode cX7_ofNet 43 = .ok (.goto 30, 3) := by decide +kernel
theorem dX7_ofNet_46 : decode cX7_ofNet 46 = .ok (.iload_n 2, 1) := by decide +kernel
theorem dX7_ofNet_47 : decode cX7_ofNet 47 = .ok (.iconst 2, 1) := by decide +kernel
theorem dX7_ofNet_48 : decode cX7_ofNet 48 = .ok (.if_icmp .ne 23, 3) := by decide +kernel
theorem dX7_ofNet_51 : decode cX7_ofNet 51 = .ok (.aload_n 0, 1) := by decide +kernel
theorem dX7_ofNet_52 : decode cX7_ofNet 52 = .ok (.iload_n 1, 1) := by decide +kernel
theorem dX7_ofNet_53 : decode cX7_ofNet 53 = .ok (.aload_n 0, 1) := by decide +kernel
theorem dX7_ofNet_54 : decode cX7_ofNet 54 = .ok (.getfield 105, 3) := by decide +kernel
theorem dX7_ofNet_57 : decode cX7_ofNet 57 = .ok (.invokevirtual 157, 3) := by decide +kernel
theorem dX7_ofNet_60 : decode cX7_ofNet 60 = .ok (.ifCond .eq 7, 3) := by decide +kernel
theorem dX7_ofNet_63 : decode cX7_ofNet 63 = .ok (.iconst 1, 1) := by decide +kernel
theorem dX7_ofNet_64 : decode cX7_ofNet 64 = .ok (.goto 9, 3) := by decide +kernel
theorem dX7_ofNet_67 : decode cX7_ofNet 67 = .ok (.iconst 0, 1) := by decide +kernel
theorem dX7_ofNet_68 : decode cX7_ofNet 68 = .ok (.goto 5, 3) := by decide +kernel
theorem dX7_ofNet_71 : decode cX7_ofNet 71 = .ok (.bipush (-2), 2) := by decide +kernel
theorem dX7_ofNet_73 : decode cX7_ofNet 73 = .ok (.ireturn, 1) := by decide +kernel
theorem dX7_ofSide_0 : decode cX7_ofSide 0 = .ok (.aload_n 0, 1) := by decide +kernel
theorem dX7_ofSide_1 : decode cX7_ofSide 1 = .ok (.getfield 69, 3) := by decide +kernel
theorem dX7_ofSide_4 : decode cX7_ofSide 4 = .ok (.ifCond .ne 6, 3) := by decide +kernel
theorem dX7_ofSide_7 : decode cX7_ofSide 7 = .ok (.bipush (-3), 2) := by decide +kernel
theorem dX7_ofSide_9 : decode cX7_ofSide 9 = .ok (.ireturn, 1) := by decide +kernel
theorem dX7_ofSide_10 : decode cX7_ofSide 10 = .ok (.iload_n 1, 1) := by decide +kernel
theorem dX7_ofSide_11 : decode cX7_ofSide 11 = .ok (.iconst 0, 1) := by decide +kernel
theorem dX7_ofSide_12 : decode cX7_ofSide 12 = .ok (.iconst 1, 1) := by decide +kernel
theorem dX7_ofSide_13 : decode cX7_ofSide 13 = .ok (.invokestatic 65, 3) := by decide +kernel
theorem dX7_ofSide_16 : decode cX7_ofSide 16 = .ok (.ifCond .ne 6, 3) := by decide +kernel
theorem dX7_ofSide_19 : decode cX7_ofSide 19 = .ok (.bipush (-2), 2) := by decide +kernel
theorem dX7_ofSide_21 : decode cX7_ofSide 21 = .ok (.ireturn, 1) := by decide +kernel
theorem dX7_ofSide_22 : decode cX7_ofSide 22 = .ok (.iload_n 1, 1) := by decide +kernel
theorem dX7_ofSide_23 : decode cX7_ofSide 23 = .ok (.iconst 1, 1) := by decide +kernel
theorem dX7_ofSide_24 : decode cX7_ofSide 24 = .ok (.if_icmp .ne 10, 3) := by decide +kernel
theorem dX7_ofSide_27 : decode cX7_ofSide 27 = .ok (.aload_n 0, 1) := by decide +kernel
theorem dX7_ofSide_28 : decode cX7_ofSide 28 = .ok (.getfield 105, 3) := by decide +kernel
theorem dX7_ofSide_31 : decode cX7_ofSide 31 = .ok (.goto 14, 3) := by decide +kernel
theorem dX7_ofSide_34 : decode cX7_ofSide 34 = .ok (.aload_n 0, 1) := by decide +kernel
theorem dX7_ofSide_35 : decode cX7_ofSide 35 = .ok (.invokevirtual 143, 3) := by decide +kernel
theorem dX7_ofSide_38 : decode cX7_ofSide 38 = .ok (.aload_n 0, 1) := by decide +kernel
theorem dX7_ofSide_39 : decode cX7_ofSide 39 = .ok (.getfield 105, 3) := by decide +kernel
theorem dX7_ofSide_42 : decode cX7_ofSide 42 = .ok (.iconst (-1), 1) := by decide +kernel
theorem dX7_ofSide_43 : decode cX7_ofSide 43 = .ok (.ixor, 1) := by decide +kernel
theorem dX7_ofSide_44 : decode cX7_ofSide 44 = .ok (.iand, 1) := by decide +kernel
theorem dX7_ofSide_45 : decode cX7_ofSide 45 = .ok (.istore_n 3, 1) := by decide +kernel
theorem dX7_ofSide_46 : decode cX7_ofSide 46 = .ok (.iload_n 2, 1) := by decide +kernel
theorem dX7_ofSide_47 : decode cX7_ofSide 47 = .ok (.ifCond .ne 7, 3) := by decide +kernel
theorem dX7_ofSide_50 : decode cX7_ofSide 50 = .ok (.iload_n 3, 1) := by decide +kernel
theorem dX7_ofSide_51 : decode cX7_ofSide 51 = .ok (.goto 60, 3) := by decide +kernel
theorem dX7_ofSide_54 : decode cX7_ofSide 54 = .ok (.iload_n 2, 1) := by decide +kernel
theorem dX7_ofSide_55 : decode cX7_ofSide 55 = .ok (.iconst 1, 1) := by decide +kernel
theorem dX7_ofSide_56 : decode cX7_ofSide 56 = .ok (.if_icmp .ne 11, 3) := by decide +kernel
theorem dX7_ofSide_59 : decode cX7_ofSide 59 = .ok (.aload_n 0, 1) := by decide +kernel
theorem dX7_ofSide_60 : decode cX7_ofSide 60 = .ok (.iload_n 3, 1) := by decide +kernel
theorem dX7_ofSide_61 : decode cX7_ofSide 61 = .ok (.invokevirtual 147, 3) := by decide +kernel
theorem dX7_ofSide_64 : decode cX7_ofSide 64 = .ok (.goto 47, 3) := by decide +kernel
theorem dX7_ofSide_67 : decode cX7_ofSide 67 = .ok (.iload_n 2, 1) := by decide +kernel
theorem dX7_ofSide_68 : decode cX7_ofSide 68 = .ok (.iconst 2, 1) := by decide +kernel
theorem dX7_ofSide_69 : decode cX7_ofSide 69 = .ok (.if_icmp .ne 15, 3) := by decide +kernel
theorem dX7_ofSide_72 : decode cX7_ofSide 72 = .ok (.aload_n 0, 1) := by decide +kernel
theorem dX7_ofSide_73 : decode cX7_ofSide 73 = .ok (.iload_n 1, 1) := by decide +kernel
theorem dX7_ofSide_74 : decode cX7_ofSide 74 = .ok (.aload_n 0, 1) := by decide +kernel
theorem dX7_ofSide_75 : decode cX7_ofSide 75 = .ok (.getfield 105, 3) := by decide +kernel
theorem dX7_ofSide_78 : decode cX7_ofSide 78 = .ok (.invokevirtual 154, 3) := by decide +kernel
theorem dX7_ofSide_81 : decode cX7_ofSide 81 = .ok (.goto 30, 3) := by decide +kernel
theorem dX7_ofSide_84 : decode cX7_ofSide 84 = .ok (.iload_n 2, 1) := by decide +kernel
theorem dX7_ofSide_85 : decode cX7_ofSide 85 = .ok (.iconst 3, 1) := by decide +kernel
theorem dX7_ofSide_86 : decode cX7_ofSide 86 = .ok (.if_icmp .ne 23, 3) := by decide +kernel
theorem dX7_ofSide_89 : decode cX7_ofSide 89 = .ok (.aload_n 0, 1) := by decide +kernel
theorem dX7_ofSide_90 : decode cX7_ofSide 90 = .ok (.iload_n 1, 1) := by decide +kernel
theorem dX7_ofSide_91 : decode cX7_ofSide 91 = .ok (.aload_n 0, 1) := by decide +kernel
theorem dX7_ofSide_92 : decode cX7_ofSide 92 = .ok (.getfield 105, 3) := by decide +kernel
theorem dX7_ofSide_95 : decode cX7_ofSide 95 = .ok (.invokevirtual 172, 3) := by decide +kernel
theorem dX7_ofSide_98 : decode cX7_ofSide 98 = .ok (.ifCond .eq 7, 3) := by decide +kernel
theorem dX7_ofSide_101 : decode cX7_ofSide 101 = .ok (.iconst 1, 1) := by decide +kernel
theorem dX7_ofSide_102 : decode cX7_ofSide 102 = .ok (.goto 9, 3) := by decide +kernel
theorem dX7_ofSide_105 : decode cX7_ofSide 105 = .ok (.iconst 0, 1) := by decide +kernel
theorem dX7_ofSide_106 : decode cX7_ofSide 106 = .ok (.goto 5, 3) := by decide +kernel
theorem dX7_ofSide_109 : decode cX7_ofSide 109 = .ok (.bipush (-2), 2) := by decide +kernel
theorem dX7_ofSide_111 : decode cX7_ofSide 111 = .ok (.ireturn, 1) := by decide +kernel
theorem dX7_bulk_0 : decode cX7_bulk 0 = .ok (.aload_n 0, 1) := by decide +kernel
theorem dX7_bulk_1 : decode cX7_bulk 1 = .ok (.iload_n 1, 1) := by decide +kernel
theorem dX7_bulk_2 : decode cX7_bulk 2 = .ok (.invokevirtual 163, 3) := by decide +kernel
theorem dX7_bulk_5 : decode cX7_bulk 5 = .ok (.ifCond .ne 5, 3) := by decide +kernel
theorem dX7_bulk_8 : decode cX7_bulk 8 = .ok (.iconst (-1), 1) := by decide +kernel
theorem dX7_bulk_9 : decode cX7_bulk 9 = .ok (.ireturn, 1) := by decide +kernel
theorem dX7_bulk_10 : decode cX7_bulk 10 = .ok (.iload_n 2, 1) := by decide +kernel
theorem dX7_bulk_11 : decode cX7_bulk 11 = .ok (.iconst 1, 1) := by decide +kernel
theorem dX7_bulk_12 : decode cX7_bulk 12 = .ok (.bipush 9, 2) := by decide +kernel
theorem dX7_bulk_14 : decode cX7_bulk 14 = .ok (.invokestatic 65, 3) := by decide +kernel
theorem dX7_bulk_17 : decode cX7_bulk 17 = .ok (.ifCond .ne 6, 3) := by decide +kernel
theorem dX7_bulk_20 : decode cX7_bulk 20 = .ok (.bipush (-2), 2) := by decide +kernel
theorem dX7_bulk_22 : decode cX7_bulk 22 = .ok (.ireturn, 1) := by decide +kernel
theorem dX7_bulk_23 : decode cX7_bulk 23 = .ok (.aload_n 0, 1) := by decide +kernel
theorem dX7_bulk_24 : decode cX7_bulk 24 = .ok (.getfield 33, 3) := by decide +kernel
theorem dX7_bulk_27 : decode cX7_bulk 27 = .ok (.iload_n 1, 1) := by decide +kernel
theorem dX7_bulk_28 : decode cX7_bulk 28 = .ok (.iaload, 1) := by decide +kernel
theorem dX7_bulk_29 : decode cX7_bulk 29 = .ok (.istore_n 3, 1) := by decide +kernel
theorem dX7_bulk_30 : decode cX7_bulk 30 = .ok (.aload_n 0, 1) := by decide +kernel
theorem dX7_bulk_31 : decode cX7_bulk 31 = .ok (.getfield 33, 3) := by decide +kernel
theorem dX7_bulk_34 : decode cX7_bulk 34 = .ok (.iload_n 1, 1) := by decide +kernel
theorem dX7_bulk_35 : decode cX7_bulk 35 = .ok (.iload_n 2, 1) := by decide +kernel
theorem dX7_bulk_36 : decode cX7_bulk 36 = .ok (.iastore, 1) := by decide +kernel
theorem dX7_bulk_37 : decode cX7_bulk 37 = .ok (.iload_n 3, 1) := by decide +kernel
theorem dX7_bulk_38 : decode cX7_bulk 38 = .ok (.ireturn, 1) := by decide +kernel
theorem dX7_bound_0 : decode cX7_bound 0 = .ok (.aload_n 0, 1) := by decide +kernel
theorem dX7_bound_1 : decode cX7_bound 1 = .ok (.getfield 69, 3) := by decide +kernel
theorem dX7_bound_4 : decode cX7_bound 4 = .ok (.ifCond .ne 6, 3) := by decide +kernel
theorem dX7_bound_7 : decode cX7_bound 7 = .ok (.bipush (-3), 2) := by decide +kernel
theorem dX7_bound_9 : decode cX7_bound 9 = .ok (.ireturn, 1) := by decide +kernel
theorem dX7_bound_10 : decode cX7_bound 10 = .ok (.iload_n 1, 1) := by decide +kernel
theorem dX7_bound_11 : decode cX7_bound 11 = .ok (.ldc 175, 2) := by decide +kernel
theorem dX7_bound_13 : decode cX7_bound 13 = .ok (.ldc 19, 2) := by decide +kernel
theorem dX7_bound_15 : decode cX7_bound 15 = .ok (.invokestatic 65, 3) := by decide +kernel
theorem dX7_bound_18 : decode cX7_bound 18 = .ok (.ifCond .ne 6, 3) := by decide +kernel
theorem dX7_bound_21 : decode cX7_bound 21 = .ok (.bipush (-2), 2) := by decide +kernel
theorem dX7_bound_23 : decode cX7_bound 23 = .ok (.ireturn, 1) := by decide +kernel
theorem dX7_bound_24 : decode cX7_bound 24 = .ok (.aload_n 0, 1) := by decide +kernel
theorem dX7_bound_25 : decode cX7_bound 25 = .ok (.getfield 20, 3) := by decide +kernel
theorem dX7_bound_28 : decode cX7_bound 28 = .ok (.istore_n 2, 1) := by decide +kernel
theorem dX7_bound_29 : decode cX7_bound 29 = .ok (.aload_n 0, 1) := by decide +kernel
theorem dX7_bound_30 : decode cX7_bound 30 = .ok (.iload_n 1, 1) := by decide +kernel
theorem dX7_bound_31 : decode cX7_bound 31 = .ok (.putfield 20, 3) := by decide +kernel
theorem dX7_bound_34 : decode cX7_bound 34 = .ok (.iload_n 2, 1) := by decide +kernel
theorem dX7_bound_35 : decode cX7_bound 35 = .ok (.ireturn, 1) := by decide +kernel
theorem dX7_move_0 : decode cX7_move 0 = .ok (.aload_n 0, 1) := by decide +kernel
theorem dX7_move_1 : decode cX7_move 1 = .ok (.iload_n 1, 1) := by decide +kernel
theorem dX7_move_2 : decode cX7_move 2 = .ok (.invokevirtual 163, 3) := by decide +kernel
theorem dX7_move_5 : decode cX7_move 5 = .ok (.ifCond .ne 5, 3) := by decide +kernel
theorem dX7_move_8 : decode cX7_move 8 = .ok (.iconst (-1), 1) := by decide +kernel
theorem dX7_move_9 : decode cX7_move 9 = .ok (.ireturn, 1) := by decide +kernel
theorem dX7_move_10 : decode cX7_move 10 = .ok (.aload_n 0, 1) := by decide +kernel
theorem dX7_move_11 : decode cX7_move 11 = .ok (.getfield 111, 3) := by decide +kernel
theorem dX7_move_14 : decode cX7_move 14 = .ok (.iload_n 1, 1) := by decide +kernel
theorem dX7_move_15 : decode cX7_move 15 = .ok (.invokestatic 133, 3) := by decide +kernel
theorem dX7_move_18 : decode cX7_move 18 = .ok (.ifCond .eq 6, 3) := by decide +kernel
theorem dX7_move_21 : decode cX7_move 21 = .ok (.bipush (-3), 2) := by decide +kernel
theorem dX7_move_23 : decode cX7_move 23 = .ok (.ireturn, 1) := by decide +kernel
theorem dX7_move_24 : decode cX7_move 24 = .ok (.aload_n 0, 1) := by decide +kernel
theorem dX7_move_25 : decode cX7_move 25 = .ok (.dup, 1) := by decide +kernel
theorem dX7_move_26 : decode cX7_move 26 = .ok (.getfield 105, 3) := by decide +kernel
theorem dX7_move_29 : decode cX7_move 29 = .ok (.iconst 1, 1) := by decide +kernel
theorem dX7_move_30 : decode cX7_move 30 = .ok (.iload_n 1, 1) := by decide +kernel
theorem dX7_move_31 : decode cX7_move 31 = .ok (.ishl, 1) := by decide +kernel
theorem dX7_move_32 : decode cX7_move 32 = .ok (.ixor, 1) := by decide +kernel
theorem dX7_move_33 : decode cX7_move 33 = .ok (.putfield 105, 3) := by decide +kernel
theorem dX7_move_36 : decode cX7_move 36 = .ok (.aload_n 0, 1) := by decide +kernel
theorem dX7_move_37 : decode cX7_move 37 = .ok (.aload_n 0, 1) := by decide +kernel
theorem dX7_move_38 : decode cX7_move 38 = .ok (.getfield 105, 3) := by decide +kernel
theorem dX7_move_41 : decode cX7_move 41 = .ok (.invokevirtual 160, 3) := by decide +kernel
theorem dX7_move_44 : decode cX7_move 44 = .ok (.ireturn, 1) := by decide +kernel
theorem dX7_isBetter_0 : decode cX7_isBetter 0 = .ok (.aload_n 0, 1) := by decide +kernel
theorem dX7_isBetter_1 : decode cX7_isBetter 1 = .ok (.iload_n 1, 1) := by decide +kernel
theorem dX7_isBetter_2 : decode cX7_isBetter 2 = .ok (.iload 4, 2) := by decide +kernel
theorem dX7_isBetter_4 : decode cX7_isBetter 4 = .ok (.invokevirtual 169, 3) := by decide +kernel
theorem dX7_isBetter_7 : decode cX7_isBetter 7 = .ok (.istore 5, 2) := by decide +kernel
theorem dX7_isBetter_9 : decode cX7_isBetter 9 = .ok (.aload_n 0, 1) := by decide +kernel
theorem dX7_isBetter_10 : decode cX7_isBetter 10 = .ok (.iload_n 2, 1) := by decide +kernel
theorem dX7_isBetter_11 : decode cX7_isBetter 11 = .ok (.iload 4, 2) := by decide +kernel
theorem dX7_isBetter_13 : decode cX7_isBetter 13 = .ok (.invokevirtual 169, 3) := by decide +kernel
theorem dX7_isBetter_16 : decode cX7_isBetter 16 = .ok (.istore 6, 2) := by decide +kernel
theorem dX7_isBetter_18 : decode cX7_isBetter 18 = .ok (.iload_n 3, 1) := by decide +kernel
theorem dX7_isBetter_19 : decode cX7_isBetter 19 = .ok (.iconst 2, 1) := by decide +kernel
theorem dX7_isBetter_20 : decode cX7_isBetter 20 = .ok (.if_icmp .ne 28, 3) := by decide +kernel
theorem dX7_isBetter_23 : decode cX7_isBetter 23 = .ok (.iload 5, 2) := by decide +kernel
theorem dX7_isBetter_25 : decode cX7_isBetter 25 = .ok (.aload_n 0, 1) := by decide +kernel
theorem dX7_isBetter_26 : decode cX7_isBetter 26 = .ok (.iload_n 2, 1) := by decide +kernel
theorem dX7_isBetter_27 : decode cX7_isBetter 27 = .ok (.invokevirtual 136, 3) := by decide +kernel
theorem dX7_isBetter_30 : decode cX7_isBetter 30 = .ok (.imul, 1) := by decide +kernel
theorem dX7_isBetter_31 : decode cX7_isBetter 31 = .ok (.iload 6, 2) := by decide +kernel
theorem dX7_isBetter_33 : decode cX7_isBetter 33 = .ok (.aload_n 0, 1) := by decide +kernel
theorem dX7_isBetter_34 : decode cX7_isBetter 34 = .ok (.iload_n 1, 1) := by decide +kernel
theorem dX7_isBetter_35 : decode cX7_isBetter 35 = .ok (.invokevirtual 136, 3) := by decide +kernel
theorem dX7_isBetter_38 : decode cX7_isBetter 38 = .ok (.imul, 1) := by decide +kernel
theorem dX7_isBetter_39 : decode cX7_isBetter 39 = .ok (.if_icmp .le 7, 3) := by decide +kernel
theorem dX7_isBetter_42 : decode cX7_isBetter 42 = .ok (.iconst 1, 1) := by decide +kernel
theorem dX7_isBetter_43 : decode cX7_isBetter 43 = .ok (.goto 4, 3) := by decide +kernel
theorem dX7_isBetter_46 : decode cX7_isBetter 46 = .ok (.iconst 0, 1) := by decide +kernel
theorem dX7_isBetter_47 : decode cX7_isBetter 47 = .ok (.ireturn, 1) := by decide +kernel
theorem dX7_isBetter_48 : decode cX7_isBetter 48 = .ok (.iload 5, 2) := by decide +kernel
theorem dX7_isBetter_50 : decode cX7_isBetter 50 = .ok (.iload 6, 2) := by decide +kernel
theorem dX7_isBetter_52 : decode cX7_isBetter 52 = .ok (.if_icmp .eq 18, 3) := by decide +kernel
theorem dX7_isBetter_55 : decode cX7_isBetter 55 = .ok (.iload 5, 2) := by decide +kernel
theorem dX7_isBetter_57 : decode cX7_isBetter 57 = .ok (.iload 6, 2) := by decide +kernel
theorem dX7_isBetter_59 : decode cX7_isBetter 59 = .ok (.if_icmp .le 7, 3) := by decide +kernel
theorem dX7_isBetter_62 : decode cX7_isBetter 62 = .ok (.iconst 1, 1) := by decide +kernel
theorem dX7_isBetter_63 : decode cX7_isBetter 63 = .ok (.goto 30, 3) := by decide +kernel
theorem dX7_isBetter_66 : decode cX7_isBetter 66 = .ok (.iconst 0, 1) := by decide +kernel
theorem dX7_isBetter_67 : decode cX7_isBetter 67 = .ok (.goto 26, 3) := by decide +kernel
theorem dX7_isBetter_70 : decode cX7_isBetter 70 = .ok (.iload_n 3, 1) := by decide +kernel
theorem dX7_isBetter_71 : decode cX7_isBetter 71 = .ok (.iconst 1, 1) := by decide +kernel
theorem dX7_isBetter_72 : decode cX7_isBetter 72 = .ok (.if_icmp .ne 20, 3) := by decide +kernel
theorem dX7_isBetter_75 : decode cX7_isBetter 75 = .ok (.aload_n 0, 1) := by decide +kernel
theorem dX7_isBetter_76 : decode cX7_isBetter 76 = .ok (.iload_n 1, 1) := by decide +kernel
theorem dX7_isBetter_77 : decode cX7_isBetter 77 = .ok (.invokevirtual 136, 3) := by decide +kernel
theorem dX7_isBetter_80 : decode cX7_isBetter 80 = .ok (.aload_n 0, 1) := by decide +kernel
theorem dX7_isBetter_81 : decode cX7_isBetter 81 = .ok (.iload_n 2, 1) := by decide +kernel
theorem dX7_isBetter_82 : decode cX7_isBetter 82 = .ok (.invokevirtual 136, 3) := by decide +kernel
theorem dX7_isBetter_85 : decode cX7_isBetter 85 = .ok (.if_icmp .le 7, 3) := by decide +kernel
theorem dX7_isBetter_88 : decode cX7_isBetter 88 = .ok (.iconst 1, 1) := by decide +kernel
theorem dX7_isBetter_89 : decode cX7_isBetter 89 = .ok (.goto 4, 3) := by decide +kernel
theorem dX7_isBetter_92 : decode cX7_isBetter 92 = .ok (.iconst 0, 1) := by decide +kernel
theorem dX7_isBetter_93 : decode cX7_isBetter 93 = .ok (.ireturn, 1) := by decide +kernel
theorem dX7_bestOf_0 : decode cX7_bestOf 0 = .ok (.bipush (-9), 2) := by decide +kernel
theorem dX7_bestOf_2 : decode cX7_bestOf 2 = .ok (.istore 4, 2) := by decide +kernel
theorem dX7_bestOf_4 : decode cX7_bestOf 4 = .ok (.iconst 0, 1) := by decide +kernel
theorem dX7_bestOf_5 : decode cX7_bestOf 5 = .ok (.istore 5, 2) := by decide +kernel
theorem dX7_bestOf_7 : decode cX7_bestOf 7 = .ok (.iload 5, 2) := by decide +kernel
theorem dX7_bestOf_9 : decode cX7_bestOf 9 = .ok (.aload_n 0, 1) := by decide +kernel
theorem dX7_bestOf_10 : decode cX7_bestOf 10 = .ok (.getfield 69, 3) := by decide +kernel
theorem dX7_bestOf_13 : decode cX7_bestOf 13 = .ok (.if_icmp .ge 95, 3) := by decide +kernel
theorem dX7_bestOf_16 : decode cX7_bestOf 16 = .ok (.iload_n 2, 1) := by decide +kernel
theorem dX7_bestOf_17 : decode cX7_bestOf 17 = .ok (.iconst 1, 1) := by decide +kernel
theorem dX7_bestOf_18 : decode cX7_bestOf 18 = .ok (.iload 5, 2) := by decide +kernel
theorem dX7_bestOf_20 : decode cX7_bestOf 20 = .ok (.ishl, 1) := by decide +kernel
theorem dX7_bestOf_21 : decode cX7_bestOf 21 = .ok (.ixor, 1) := by decide +kernel
theorem dX7_bestOf_22 : decode cX7_bestOf 22 = .ok (.istore 6, 2) := by decide +kernel
theorem dX7_bestOf_24 : decode cX7_bestOf 24 = .ok (.iload_n 3, 1) := by decide +kernel
theorem dX7_bestOf_25 : decode cX7_bestOf 25 = .ok (.iload 5, 2) := by decide +kernel
theorem dX7_bestOf_27 : decode cX7_bestOf 27 = .ok (.invokestatic 133, 3) := by decide +kernel
theorem dX7_bestOf_30 : decode cX7_bestOf 30 = .ok (.ifCond .ne 35, 3) := by decide +kernel
theorem dX7_bestOf_33 : decode cX7_bestOf 33 = .ok (.aload_n 0, 1) := by decide +kernel
theorem dX7_bestOf_34 : decode cX7_bestOf 34 = .ok (.getfield 111, 3) := by decide +kernel
theorem dX7_bestOf_37 : decode cX7_bestOf 37 = .ok (.iload 5, 2) := by decide +kernel
theorem dX7_bestOf_39 : decode cX7_bestOf 39 = .ok (.invokestatic 133, 3) := by decide +kernel
theorem dX7_bestOf_42 : decode cX7_bestOf 42 = .ok (.ifCond .ne 23, 3) := by decide +kernel
theorem dX7_bestOf_45 : decode cX7_bestOf 45 = .ok (.aload_n 0, 1) := by decide +kernel
theorem dX7_bestOf_46 : decode cX7_bestOf 46 = .ok (.iload 6, 2) := by decide +kernel
theorem dX7_bestOf_48 : decode cX7_bestOf 48 = .ok (.iload 5, 2) := by decide +kernel
theorem dX7_bestOf_50 : decode cX7_bestOf 50 = .ok (.ishr, 1) := by decide +kernel
theorem dX7_bestOf_51 : decode cX7_bestOf 51 = .ok (.iconst 1, 1) := by decide +kernel
theorem dX7_bestOf_52 : decode cX7_bestOf 52 = .ok (.iand, 1) := by decide +kernel
theorem dX7_bestOf_53 : decode cX7_bestOf 53 = .ok (.iload 6, 2) := by decide +kernel
theorem dX7_bestOf_55 : decode cX7_bestOf 55 = .ok (.invokevirtual 172, 3) := by decide +kernel
theorem dX7_bestOf_58 : decode cX7_bestOf 58 = .ok (.ifCond .eq 7, 3) := by decide +kernel
theorem dX7_bestOf_61 : decode cX7_bestOf 61 = .ok (.iconst 1, 1) := by decide +kernel
theorem dX7_bestOf_62 : decode cX7_bestOf 62 = .ok (.goto 4, 3) := by decide +kernel
theorem dX7_bestOf_65 : decode cX7_bestOf 65 = .ok (.iconst 0, 1) := by decide +kernel
theorem dX7_bestOf_66 : decode cX7_bestOf 66 = .ok (.istore 7, 2) := by decide +kernel
theorem dX7_bestOf_68 : decode cX7_bestOf 68 = .ok (.iload 7, 2) := by decide +kernel
theorem dX7_bestOf_70 : decode cX7_bestOf 70 = .ok (.ifCond .eq 28, 3) := by decide +kernel
theorem dX7_bestOf_73 : decode cX7_bestOf 73 = .ok (.iload 4, 2) := by decide +kernel
theorem dX7_bestOf_75 : decode cX7_bestOf 75 = .ok (.bipush (-9), 2) := by decide +kernel
theorem dX7_bestOf_77 : decode cX7_bestOf 77 = .ok (.if_icmp .eq 16, 3) := by decide +kernel
theorem dX7_bestOf_80 : decode cX7_bestOf 80 = .ok (.aload_n 0, 1) := by decide +kernel
theorem dX7_bestOf_81 : decode cX7_bestOf 81 = .ok (.iload 5, 2) := by decide +kernel
theorem dX7_bestOf_83 : decode cX7_bestOf 83 = .ok (.iload 4, 2) := by decide +kernel
theorem dX7_bestOf_85 : decode cX7_bestOf 85 = .ok (.iload_n 1, 1) := by decide +kernel
theorem dX7_bestOf_86 : decode cX7_bestOf 86 = .ok (.iload_n 2, 1) := by decide +kernel
theorem dX7_bestOf_87 : decode cX7_bestOf 87 = .ok (.invokevirtual 176, 3) := by decide +kernel
theorem dX7_bestOf_90 : decode cX7_bestOf 90 = .ok (.ifCond .eq 8, 3) := by decide +kernel
theorem dX7_bestOf_93 : decode cX7_bestOf 93 = .ok (.iload 5, 2) := by decide +kernel
theorem dX7_bestOf_95 : decode cX7_bestOf 95 = .ok (.goto 5, 3) := by decide +kernel
theorem dX7_bestOf_98 : decode cX7_bestOf 98 = .ok (.iload 4, 2) := by decide +kernel
theorem dX7_bestOf_100 : decode cX7_bestOf 100 = .ok (.istore 4, 2) := by decide +kernel
theorem dX7_bestOf_102 : decode cX7_bestOf 102 = .ok (.iinc 5 1, 3) := by decide +kernel
theorem dX7_bestOf_105 : decode cX7_bestOf 105 = .ok (.goto (-98), 3) := by decide +kernel
theorem dX7_bestOf_108 : decode cX7_bestOf 108 = .ok (.iload 4, 2) := by decide +kernel
theorem dX7_bestOf_110 : decode cX7_bestOf 110 = .ok (.ireturn, 1) := by decide +kernel
theorem dX7_findPass_0 : decode cX7_findPass 0 = .ok (.aload_n 0, 1) := by decide +kernel
theorem dX7_findPass_1 : decode cX7_findPass 1 = .ok (.getfield 105, 3) := by decide +kernel
theorem dX7_findPass_4 : decode cX7_findPass 4 = .ok (.istore_n 2, 1) := by decide +kernel
theorem dX7_findPass_5 : decode cX7_findPass 5 = .ok (.iconst 0, 1) := by decide +kernel
theorem dX7_findPass_6 : decode cX7_findPass 6 = .ok (.istore_n 3, 1) := by decide +kernel
theorem dX7_findPass_7 : decode cX7_findPass 7 = .ok (.aload_n 0, 1) := by decide +kernel
theorem dX7_findPass_8 : decode cX7_findPass 8 = .ok (.aload_n 0, 1) := by decide +kernel
theorem dX7_findPass_9 : decode cX7_findPass 9 = .ok (.getfield 105, 3) := by decide +kernel
theorem dX7_findPass_12 : decode cX7_findPass 12 = .ok (.invokevirtual 160, 3) := by decide +kernel
theorem dX7_findPass_15 : decode cX7_findPass 15 = .ok (.istore 4, 2) := by decide +kernel
theorem dX7_findPass_17 : decode cX7_findPass 17 = .ok (.aload_n 0, 1) := by decide +kernel
theorem dX7_findPass_18 : decode cX7_findPass 18 = .ok (.iconst 0, 1) := by decide +kernel
theorem dX7_findPass_19 : decode cX7_findPass 19 = .ok (.putfield 180, 3) := by decide +kernel
theorem dX7_findPass_22 : decode cX7_findPass 22 = .ok (.aload_n 0, 1) := by decide +kernel
theorem dX7_findPass_23 : decode cX7_findPass 23 = .ok (.iconst 0, 1) := by decide +kernel
theorem dX7_findPass_24 : decode cX7_findPass 24 = .ok (.putfield 183, 3) := by decide +kernel
theorem dX7_findPass_27 : decode cX7_findPass 27 = .ok (.aload_n 0, 1) := by decide +kernel
theorem dX7_findPass_28 : decode cX7_findPass 28 = .ok (.aload_n 0, 1) := by decide +kernel
theorem dX7_findPass_29 : decode cX7_findPass 29 = .ok (.getfield 105, 3) := by decide +kernel
theorem dX7_findPass_32 : decode cX7_findPass 32 = .ok (.putfield 186, 3) := by decide +kernel
theorem dX7_findPass_35 : decode cX7_findPass 35 = .ok (.aload_n 0, 1) := by decide +kernel
theorem dX7_findPass_36 : decode cX7_findPass 36 = .ok (.iload_n 1, 1) := by decide +kernel
theorem dX7_findPass_37 : decode cX7_findPass 37 = .ok (.iload_n 2, 1) := by decide +kernel
theorem dX7_findPass_38 : decode cX7_findPass 38 = .ok (.iload_n 3, 1) := by decide +kernel
theorem dX7_findPass_39 : decode cX7_findPass 39 = .ok (.invokevirtual 189, 3) := by decide +kernel
theorem dX7_findPass_42 : decode cX7_findPass 42 = .ok (.istore 5, 2) := by decide +kernel
theorem dX7_findPass_44 : decode cX7_findPass 44 = .ok (.iload 5, 2) := by decide +kernel
theorem dX7_findPass_46 : decode cX7_findPass 46 = .ok (.bipush (-9), 2) := by decide +kernel
theorem dX7_findPass_48 : decode cX7_findPass 48 = .ok (.if_icmp .eq 80, 3) := by decide +kernel
theorem dX7_findPass_51 : decode cX7_findPass 51 = .ok (.aload_n 0, 1) := by decide +kernel
theorem dX7_findPass_52 : decode cX7_findPass 52 = .ok (.getfield 48, 3) := by decide +kernel
theorem dX7_findPass_55 : decode cX7_findPass 55 = .ok (.aload_n 0, 1) := by decide +kernel
theorem dX7_findPass_56 : decode cX7_findPass 56 = .ok (.getfield 180, 3) := by decide +kernel
theorem dX7_findPass_59 : decode cX7_findPass 59 = .ok (.iload 5, 2) := by decide +kernel
theorem dX7_findPass_61 : decode cX7_findPass 61 = .ok (.iastore, 1) := by decide +kernel
theorem dX7_findPass_62 : decode cX7_findPass 62 = .ok (.aload_n 0, 1) := by decide +kernel
theorem dX7_findPass_63 : decode cX7_findPass 63 = .ok (.dup, 1) := by decide +kernel
theorem dX7_findPass_64 : decode cX7_findPass 64 = .ok (.getfield 180, 3) := by decide +kernel
theorem dX7_findPass_67 : decode cX7_findPass 67 = .ok (.iconst 1, 1) := by decide +kernel
theorem dX7_findPass_68 : decode cX7_findPass 68 = .ok (.iadd, 1) := by decide +kernel
theorem dX7_findPass_69 : decode cX7_findPass 69 = .ok (.putfield 180, 3) := by decide +kernel
theorem dX7_findPass_72 : decode cX7_findPass 72 = .ok (.iload_n 3, 1) := by decide +kernel
theorem dX7_findPass_73 : decode cX7_findPass 73 = .ok (.iconst 1, 1) := by decide +kernel
theorem dX7_findPass_74 : decode cX7_findPass 74 = .ok (.iload 5, 2) := by decide +kernel
theorem dX7_findPass_76 : decode cX7_findPass 76 = .ok (.ishl, 1) := by decide +kernel
theorem dX7_findPass_77 : decode cX7_findPass 77 = .ok (.ior, 1) := by decide +kernel
theorem dX7_findPass_78 : decode cX7_findPass 78 = .ok (.istore_n 3, 1) := by decide +kernel
theorem dX7_findPass_79 : decode cX7_findPass 79 = .ok (.iload_n 2, 1) := by decide +kernel
theorem dX7_findPass_80 : decode cX7_findPass 80 = .ok (.iconst 1, 1) := by decide +kernel
theorem dX7_findPass_81 : decode cX7_findPass 81 = .ok (.iload 5, 2) := by decide +kernel
theorem dX7_findPass_83 : decode cX7_findPass 83 = .ok (.ishl, 1) := by decide +kernel
theorem dX7_findPass_84 : decode cX7_findPass 84 = .ok (.ixor, 1) := by decide +kernel
theorem dX7_findPass_85 : decode cX7_findPass 85 = .ok (.istore_n 2, 1) := by decide +kernel
theorem dX7_findPass_86 : decode cX7_findPass 86 = .ok (.aload_n 0, 1) := by decide +kernel
theorem dX7_findPass_87 : decode cX7_findPass 87 = .ok (.iload_n 2, 1) := by decide +kernel
theorem dX7_findPass_88 : decode cX7_findPass 88 = .ok (.invokevirtual 160, 3) := by decide +kernel
theorem dX7_findPass_91 : decode cX7_findPass 91 = .ok (.iload 4, 2) := by decide +kernel
theorem dX7_findPass_93 : decode cX7_findPass 93 = .ok (.if_icmp .ge 23, 3) := by decide +kernel
theorem dX7_findPass_96 : decode cX7_findPass 96 = .ok (.aload_n 0, 1) := by decide +kernel
theorem dX7_findPass_97 : decode cX7_findPass 97 = .ok (.iload_n 2, 1) := by decide +kernel
theorem dX7_findPass_98 : decode cX7_findPass 98 = .ok (.invokevirtual 160, 3) := by decide +kernel
theorem dX7_findPass_101 : decode cX7_findPass 101 = .ok (.istore 4, 2) := by decide +kernel
theorem dX7_findPass_103 : decode cX7_findPass 103 = .ok (.aload_n 0, 1) := by decide +kernel
theorem dX7_findPass_104 : decode cX7_findPass 104 = .ok (.aload_n 0, 1) := by decide +kernel
theorem dX7_findPass_105 : decode cX7_findPass 105 = .ok (.getfield 180, 3) := by decide +kernel
theorem dX7_findPass_108 : decode cX7_findPass 108 = .ok (.putfield 183, 3) := by decide +kernel
theorem dX7_findPass_111 : decode cX7_findPass 111 = .ok (.aload_n 0, 1) := by decide +kernel
theorem dX7_findPass_112 : decode cX7_findPass 112 = .ok (.iload_n 2, 1) := by decide +kernel
theorem dX7_findPass_113 : decode cX7_findPass 113 = .ok (.putfield 186, 3) := by decide +kernel
theorem dX7_findPass_116 : decode cX7_findPass 116 = .ok (.aload_n 0, 1) := by decide +kernel
theorem dX7_findPass_117 : decode cX7_findPass 117 = .ok (.iload_n 1, 1) := by decide +kernel
theorem dX7_findPass_118 : decode cX7_findPass 118 = .ok (.iload_n 2, 1) := by decide +kernel
theorem dX7_findPass_119 : decode cX7_findPass 119 = .ok (.iload_n 3, 1) := by decide +kernel
theorem dX7_findPass_120 : decode cX7_findPass 120 = .ok (.invokevirtual 189, 3) := by decide +kernel
theorem dX7_findPass_123 : decode cX7_findPass 123 = .ok (.istore 5, 2) := by decide +kernel
theorem dX7_findPass_125 : decode cX7_findPass 125 = .ok (.goto (-81), 3) := by decide +kernel
theorem dX7_findPass_128 : decode cX7_findPass 128 = .ok (.return_, 1) := by decide +kernel
theorem dX7_pass_0 : decode cX7_pass 0 = .ok (.aload_n 0, 1) := by decide +kernel
theorem dX7_pass_1 : decode cX7_pass 1 = .ok (.getfield 69, 3) := by decide +kernel
theorem dX7_pass_4 : decode cX7_pass 4 = .ok (.ifCond .ne 6, 3) := by decide +kernel
theorem dX7_pass_7 : decode cX7_pass 7 = .ok (.bipush (-3), 2) := by decide +kernel
theorem dX7_pass_9 : decode cX7_pass 9 = .ok (.ireturn, 1) := by decide +kernel
theorem dX7_pass_10 : decode cX7_pass 10 = .ok (.iload_n 1, 1) := by decide +kernel
theorem dX7_pass_11 : decode cX7_pass 11 = .ok (.iconst 0, 1) := by decide +kernel
theorem dX7_pass_12 : decode cX7_pass 12 = .ok (.iconst 2, 1) := by decide +kernel
theorem dX7_pass_13 : decode cX7_pass 13 = .ok (.invokestatic 65, 3) := by decide +kernel
theorem dX7_pass_16 : decode cX7_pass 16 = .ok (.ifCond .ne 6, 3) := by decide +kernel
theorem dX7_pass_19 : decode cX7_pass 19 = .ok (.bipush (-2), 2) := by decide +kernel
theorem dX7_pass_21 : decode cX7_pass 21 = .ok (.ireturn, 1) := by decide +kernel
theorem dX7_pass_22 : decode cX7_pass 22 = .ok (.aload_n 0, 1) := by decide +kernel
theorem dX7_pass_23 : decode cX7_pass 23 = .ok (.iload_n 1, 1) := by decide +kernel
theorem dX7_pass_24 : decode cX7_pass 24 = .ok (.invokevirtual 193, 3) := by decide +kernel
theorem dX7_pass_27 : decode cX7_pass 27 = .ok (.aload_n 0, 1) := by decide +kernel
theorem dX7_pass_28 : decode cX7_pass 28 = .ok (.aload_n 0, 1) := by decide +kernel
theorem dX7_pass_29 : decode cX7_pass 29 = .ok (.getfield 186, 3) := by decide +kernel
theorem dX7_pass_32 : decode cX7_pass 32 = .ok (.putfield 105, 3) := by decide +kernel
theorem dX7_pass_35 : decode cX7_pass 35 = .ok (.aload_n 0, 1) := by decide +kernel
theorem dX7_pass_36 : decode cX7_pass 36 = .ok (.getfield 183, 3) := by decide +kernel
theorem dX7_pass_39 : decode cX7_pass 39 = .ok (.ireturn, 1) := by decide +kernel
theorem dX7_tries_0 : decode cX7_tries 0 = .ok (.aload_n 0, 1) := by decide +kernel
theorem dX7_tries_1 : decode cX7_tries 1 = .ok (.getfield 69, 3) := by decide +kernel
theorem dX7_tries_4 : decode cX7_tries 4 = .ok (.ifCond .ne 6, 3) := by decide +kernel
theorem dX7_tries_7 : decode cX7_tries 7 = .ok (.bipush (-3), 2) := by decide +kernel
theorem dX7_tries_9 : decode cX7_tries 9 = .ok (.ireturn, 1) := by decide +kernel
theorem dX7_tries_10 : decode cX7_tries 10 = .ok (.iload_n 1, 1) := by decide +kernel
theorem dX7_tries_11 : decode cX7_tries 11 = .ok (.iconst 0, 1) := by decide +kernel
theorem dX7_tries_12 : decode cX7_tries 12 = .ok (.iconst 2, 1) := by decide +kernel
theorem dX7_tries_13 : decode cX7_tries 13 = .ok (.invokestatic 65, 3) := by decide +kernel
theorem dX7_tries_16 : decode cX7_tries 16 = .ok (.ifCond .eq 23, 3) := by decide +kernel
theorem dX7_tries_19 : decode cX7_tries 19 = .ok (.iload_n 2, 1) := by decide +kernel
theorem dX7_tries_20 : decode cX7_tries 20 = .ok (.iconst 0, 1) := by decide +kernel
theorem dX7_tries_21 : decode cX7_tries 21 = .ok (.iconst 2, 1) := by decide +kernel
theorem dX7_tries_22 : decode cX7_tries 22 = .ok (.invokestatic 65, 3) := by decide +kernel
theorem dX7_tries_25 : decode cX7_tries 25 = .ok (.ifCond .ne 17, 3) := by decide +kernel
theorem dX7_tries_28 : decode cX7_tries 28 = .ok (.iload_n 2, 1) := by decide +kernel
theorem dX7_tries_29 : decode cX7_tries 29 = .ok (.bipush 10, 2) := by decide +kernel
theorem dX7_tries_31 : decode cX7_tries 31 = .ok (.bipush 16, 2) := by decide +kernel
theorem dX7_tries_33 : decode cX7_tries 33 = .ok (.invokestatic 65, 3) := by decide +kernel
theorem dX7_tries_36 : decode cX7_tries 36 = .ok (.ifCond .ne 6, 3) := by decide +kernel
theorem dX7_tries_39 : decode cX7_tries 39 = .ok (.bipush (-2), 2) := by decide +kernel
theorem dX7_tries_41 : decode cX7_tries 41 = .ok (.ireturn, 1) := by decide +kernel
theorem dX7_tries_42 : decode cX7_tries 42 = .ok (.aload_n 0, 1) := by decide +kernel
theorem dX7_tries_43 : decode cX7_tries 43 = .ok (.iload_n 1, 1) := by decide +kernel
theorem dX7_tries_44 : decode cX7_tries 44 = .ok (.invokevirtual 193, 3) := by decide +kernel
theorem dX7_tries_47 : decode cX7_tries 47 = .ok (.iload_n 2, 1) := by decide +kernel
theorem dX7_tries_48 : decode cX7_tries 48 = .ok (.bipush 10, 2) := by decide +kernel
theorem dX7_tries_50 : decode cX7_tries 50 = .ok (.if_icmp .lt 29, 3) := by decide +kernel
theorem dX7_tries_53 : decode cX7_tries 53 = .ok (.iload_n 2, 1) := by decide +kernel
theorem dX7_tries_54 : decode cX7_tries 54 = .ok (.bipush 10, 2) := by decide +kernel
theorem dX7_tries_56 : decode cX7_tries 56 = .ok (.isub, 1) := by decide +kernel
theorem dX7_tries_57 : decode cX7_tries 57 = .ok (.aload_n 0, 1) := by decide +kernel
theorem dX7_tries_58 : decode cX7_tries 58 = .ok (.getfield 180, 3) := by decide +kernel
theorem dX7_tries_61 : decode cX7_tries 61 = .ok (.if_icmp .ge 15, 3) := by decide +kernel
theorem dX7_tries_64 : decode cX7_tries 64 = .ok (.aload_n 0, 1) := by decide +kernel
theorem dX7_tries_65 : decode cX7_tries 65 = .ok (.getfield 48, 3) := by decide +kernel
theorem dX7_tries_68 : decode cX7_tries 68 = .ok (.iload_n 2, 1) := by decide +kernel
theorem dX7_tries_69 : decode cX7_tries 69 = .ok (.bipush 10, 2) := by decide +kernel
theorem dX7_tries_71 : decode cX7_tries 71 = .ok (.isub, 1) := by decide +kernel
theorem dX7_tries_72 : decode cX7_tries 72 = .ok (.iaload, 1) := by decide +kernel
theorem dX7_tries_73 : decode cX7_tries 73 = .ok (.goto 5, 3) := by decide +kernel
theorem dX7_tries_76 : decode cX7_tries 76 = .ok (.bipush (-9), 2) := by decide +kernel
theorem dX7_tries_78 : decode cX7_tries 78 = .ok (.ireturn, 1) := by decide +kernel
theorem dX7_tries_79 : decode cX7_tries 79 = .ok (.iload_n 2, 1) := by decide +kernel
theorem dX7_tries_80 : decode cX7_tries 80 = .ok (.ifCond .ne 10, 3) := by decide +kernel
theorem dX7_tries_83 : decode cX7_tries 83 = .ok (.aload_n 0, 1) := by decide +kernel
theorem dX7_tries_84 : decode cX7_tries 84 = .ok (.getfield 180, 3) := by decide +kernel
theorem dX7_tries_87 : decode cX7_tries 87 = .ok (.goto 23, 3) := by decide +kernel
theorem dX7_tries_90 : decode cX7_tries 90 = .ok (.iload_n 2, 1) := by decide +kernel
theorem dX7_tries_91 : decode cX7_tries 91 = .ok (.iconst 1, 1) := by decide +kernel
theorem dX7_tries_92 : decode cX7_tries 92 = .ok (.if_icmp .ne 10, 3) := by decide +kernel
theorem dX7_tries_95 : decode cX7_tries 95 = .ok (.aload_n 0, 1) := by decide +kernel
theorem dX7_tries_96 : decode cX7_tries 96 = .ok (.getfield 183, 3) := by decide +kernel
theorem dX7_tries_99 : decode cX7_tries 99 = .ok (.goto 11, 3) := by decide +kernel
theorem dX7_tries_102 : decode cX7_tries 102 = .ok (.aload_n 0, 1) := by decide +kernel
theorem dX7_tries_103 : decode cX7_tries 103 = .ok (.aload_n 0, 1) := by decide +kernel
theorem dX7_tries_104 : decode cX7_tries 104 = .ok (.getfield 186, 3) := by decide +kernel
theorem dX7_tries_107 : decode cX7_tries 107 = .ok (.invokevirtual 160, 3) := by decide +kernel
theorem dX7_tries_110 : decode cX7_tries 110 = .ok (.ireturn, 1) := by decide +kernel
theorem dX7_settle_0 : decode cX7_settle 0 = .ok (.aload_n 0, 1) := by decide +kernel
theorem dX7_settle_1 : decode cX7_settle 1 = .ok (.getfield 69, 3) := by decide +kernel
theorem dX7_settle_4 : decode cX7_settle 4 = .ok (.ifCond .ne 6, 3) := by decide +kernel
theorem dX7_settle_7 : decode cX7_settle 7 = .ok (.bipush (-3), 2) := by decide +kernel
theorem dX7_settle_9 : decode cX7_settle 9 = .ok (.ireturn, 1) := by decide +kernel
theorem dX7_settle_10 : decode cX7_settle 10 = .ok (.iload_n 1, 1) := by decide +kernel
theorem dX7_settle_11 : decode cX7_settle 11 = .ok (.iconst 0, 1) := by decide +kernel
theorem dX7_settle_12 : decode cX7_settle 12 = .ok (.iconst 2, 1) := by decide +kernel
theorem dX7_settle_13 : decode cX7_settle 13 = .ok (.invokestatic 65, 3) := by decide +kernel
theorem dX7_settle_16 : decode cX7_settle 16 = .ok (.ifCond .ne 6, 3) := by decide +kernel
theorem dX7_settle_19 : decode cX7_settle 19 = .ok (.bipush (-2), 2) := by decide +kernel
theorem dX7_settle_21 : decode cX7_settle 21 = .ok (.ireturn, 1) := by decide +kernel
theorem dX7_settle_22 : decode cX7_settle 22 = .ok (.iconst 0, 1) := by decide +kernel
theorem dX7_settle_23 : decode cX7_settle 23 = .ok (.istore_n 2, 1) := by decide +kernel
theorem dX7_settle_24 : decode cX7_settle 24 = .ok (.iconst 1, 1) := by decide +kernel
theorem dX7_settle_25 : decode cX7_settle 25 = .ok (.istore_n 3, 1) := by decide +kernel
theorem dX7_settle_26 : decode cX7_settle 26 = .ok (.iload_n 3, 1) := by decide +kernel
theorem dX7_settle_27 : decode cX7_settle 27 = .ok (.ifCond .eq 51, 3) := by decide +kernel
theorem dX7_settle_30 : decode cX7_settle 30 = .ok (.aload_n 0, 1) := by decide +kernel
theorem dX7_settle_31 : decode cX7_settle 31 = .ok (.aload_n 0, 1) := by decide +kernel
theorem dX7_settle_32 : decode cX7_settle 32 = .ok (.getfield 105, 3) := by decide +kernel
theorem dX7_settle_35 : decode cX7_settle 35 = .ok (.invokevirtual 160, 3) := by decide +kernel
theorem dX7_settle_38 : decode cX7_settle 38 = .ok (.istore 4, 2) := by decide +kernel
theorem dX7_settle_40 : decode cX7_settle 40 = .ok (.aload_n 0, 1) := by decide +kernel
theorem dX7_settle_41 : decode cX7_settle 41 = .ok (.iload_n 1, 1) := by decide +kernel
theorem dX7_settle_42 : decode cX7_settle 42 = .ok (.invokevirtual 193, 3) := by decide +kernel
theorem dX7_settle_45 : decode cX7_settle 45 = .ok (.aload_n 0, 1) := by decide +kernel
theorem dX7_settle_46 : decode cX7_settle 46 = .ok (.aload_n 0, 1) := by decide +kernel
theorem dX7_settle_47 : decode cX7_settle 47 = .ok (.getfield 186, 3) := by decide +kernel
theorem dX7_settle_50 : decode cX7_settle 50 = .ok (.putfield 105, 3) := by decide +kernel
theorem dX7_settle_53 : decode cX7_settle 53 = .ok (.iinc 2 1, 3) := by decide +kernel
theorem dX7_settle_56 : decode cX7_settle 56 = .ok (.aload_n 0, 1) := by decide +kernel
theorem dX7_settle_57 : decode cX7_settle 57 = .ok (.aload_n 0, 1) := by decide +kernel
theorem dX7_settle_58 : decode cX7_settle 58 = .ok (.getfield 105, 3) := by decide +kernel
theorem dX7_settle_61 : decode cX7_settle 61 = .ok (.invokevirtual 160, 3) := by decide +kernel
theorem dX7_settle_64 : decode cX7_settle 64 = .ok (.iload 4, 2) := by decide +kernel
theorem dX7_settle_66 : decode cX7_settle 66 = .ok (.if_icmp .ge 7, 3) := by decide +kernel
theorem dX7_settle_69 : decode cX7_settle 69 = .ok (.iconst 1, 1) := by decide +kernel
theorem dX7_settle_70 : decode cX7_settle 70 = .ok (.goto 4, 3) := by decide +kernel
theorem dX7_settle_73 : decode cX7_settle 73 = .ok (.iconst 0, 1) := by decide +kernel
theorem dX7_settle_74 : decode cX7_settle 74 = .ok (.istore_n 3, 1) := by decide +kernel
theorem dX7_settle_75 : decode cX7_settle 75 = .ok (.goto (-49), 3) := by decide +kernel
theorem dX7_settle_78 : decode cX7_settle 78 = .ok (.iload_n 2, 1) := by decide +kernel
theorem dX7_settle_79 : decode cX7_settle 79 = .ok (.ireturn, 1) := by decide +kernel
theorem dX7_does_0 : decode cX7_does 0 = .ok (.iload_n 2, 1) := by decide +kernel
theorem dX7_does_1 : decode cX7_does 1 = .ok (.bipush 20, 2) := by decide +kernel
theorem dX7_does_3 : decode cX7_does 3 = .ok (.if_icmp .ne 18, 3) := by decide +kernel
theorem dX7_does_6 : decode cX7_does 6 = .ok (.aload_n 0, 1) := by decide +kernel
theorem dX7_does_7 : decode cX7_does 7 = .ok (.iload_n 1, 1) := by decide +kernel
theorem dX7_does_8 : decode cX7_does 8 = .ok (.invokevirtual 193, 3) := by decide +kernel
theorem dX7_does_11 : decode cX7_does 11 = .ok (.aload_n 0, 1) := by decide +kernel
theorem dX7_does_12 : decode cX7_does 12 = .ok (.aload_n 0, 1) := by decide +kernel
theorem dX7_does_13 : decode cX7_does 13 = .ok (.getfield 186, 3) := by decide +kernel
theorem dX7_does_16 : decode cX7_does 16 = .ok (.putfield 105, 3) := by decide +kernel
theorem dX7_does_19 : decode cX7_does 19 = .ok (.iconst 1, 1) := by decide +kernel
theorem dX7_does_20 : decode cX7_does 20 = .ok (.ireturn, 1) := by decide +kernel
theorem dX7_does_21 : decode cX7_does 21 = .ok (.iload_n 2, 1) := by decide +kernel
theorem dX7_does_22 : decode cX7_does 22 = .ok (.bipush 10, 2) := by decide +kernel
theorem dX7_does_24 : decode cX7_does 24 = .ok (.if_icmp .lt 10, 3) := by decide +kernel
theorem dX7_does_27 : decode cX7_does 27 = .ok (.iload_n 2, 1) := by decide +kernel
theorem dX7_does_28 : decode cX7_does 28 = .ok (.bipush 10, 2) := by decide +kernel
theorem dX7_does_30 : decode cX7_does 30 = .ok (.isub, 1) := by decide +kernel
theorem dX7_does_31 : decode cX7_does 31 = .ok (.goto 4, 3) := by decide +kernel
theorem dX7_does_34 : decode cX7_does 34 = .ok (.iload_n 2, 1) := by decide +kernel
theorem dX7_does_35 : decode cX7_does 35 = .ok (.istore_n 3, 1) := by decide +kernel
theorem dX7_does_36 : decode cX7_does 36 = .ok (.aload_n 0, 1) := by decide +kernel
theorem dX7_does_37 : decode cX7_does 37 = .ok (.iload_n 3, 1) := by decide +kernel
theorem dX7_does_38 : decode cX7_does 38 = .ok (.invokevirtual 163, 3) := by decide +kernel
theorem dX7_does_41 : decode cX7_does 41 = .ok (.ifCond .eq 20, 3) := by decide +kernel
theorem dX7_does_44 : decode cX7_does 44 = .ok (.iload_n 2, 1) := by decide +kernel
theorem dX7_does_45 : decode cX7_does 45 = .ok (.bipush 10, 2) := by decide +kernel
theorem dX7_does_47 : decode cX7_does 47 = .ok (.if_icmp .ge 16, 3) := by decide +kernel
theorem dX7_does_50 : decode cX7_does 50 = .ok (.aload_n 0, 1) := by decide +kernel
theorem dX7_does_51 : decode cX7_does 51 = .ok (.getfield 111, 3) := by decide +kernel
theorem dX7_does_54 : decode cX7_does 54 = .ok (.iload_n 3, 1) := by decide +kernel
theorem dX7_does_55 : decode cX7_does 55 = .ok (.invokestatic 133, 3) := by decide +kernel
theorem dX7_does_58 : decode cX7_does 58 = .ok (.ifCond .eq 5, 3) := by decide +kernel
theorem dX7_does_61 : decode cX7_does 61 = .ok (.iconst 0, 1) := by decide +kernel
theorem dX7_does_62 : decode cX7_does 62 = .ok (.ireturn, 1) := by decide +kernel
theorem dX7_does_63 : decode cX7_does 63 = .ok (.iload_n 2, 1) := by decide +kernel
theorem dX7_does_64 : decode cX7_does 64 = .ok (.bipush 10, 2) := by decide +kernel
theorem dX7_does_66 : decode cX7_does 66 = .ok (.if_icmp .lt 13, 3) := by decide +kernel
theorem dX7_does_69 : decode cX7_does 69 = .ok (.aload_n 0, 1) := by decide +kernel
theorem dX7_does_70 : decode cX7_does 70 = .ok (.getfield 33, 3) := by decide +kernel
theorem dX7_does_73 : decode cX7_does 73 = .ok (.iload_n 3, 1) := by decide +kernel
theorem dX7_does_74 : decode cX7_does 74 = .ok (.iload_n 1, 1) := by decide +kernel
theorem dX7_does_75 : decode cX7_does 75 = .ok (.iastore, 1) := by decide +kernel
theorem dX7_does_76 : decode cX7_does 76 = .ok (.goto 15, 3) := by decide +kernel
theorem dX7_does_79 : decode cX7_does 79 = .ok (.aload_n 0, 1) := by decide +kernel
theorem dX7_does_80 : decode cX7_does 80 = .ok (.dup, 1) := by decide +kernel
theorem dX7_does_81 : decode cX7_does 81 = .ok (.getfield 105, 3) := by decide +kernel
theorem dX7_does_84 : decode cX7_does 84 = .ok (.iconst 1, 1) := by decide +kernel
theorem dX7_does_85 : decode cX7_does 85 = .ok (.iload_n 3, 1) := by decide +kernel
theorem dX7_does_86 : decode cX7_does 86 = .ok (.ishl, 1) := by decide +kernel
theorem dX7_does_87 : decode cX7_does 87 = .ok (.ixor, 1) := by decide +kernel
theorem dX7_does_88 : decode cX7_does 88 = .ok (.putfield 105, 3) := by decide +kernel
theorem dX7_does_91 : decode cX7_does 91 = .ok (.iconst 1, 1) := by decide +kernel
theorem dX7_does_92 : decode cX7_does 92 = .ok (.ireturn, 1) := by decide +kernel
theorem dX7_isPair_0 : decode cX7_isPair 0 = .ok (.iload_n 1, 1) := by decide +kernel
theorem dX7_isPair_1 : decode cX7_isPair 1 = .ok (.bipush 20, 2) := by decide +kernel
theorem dX7_isPair_3 : decode cX7_isPair 3 = .ok (.if_icmp .ne 12, 3) := by decide +kernel
theorem dX7_isPair_6 : decode cX7_isPair 6 = .ok (.iload_n 0, 1) := by decide +kernel
theorem dX7_isPair_7 : decode cX7_isPair 7 = .ok (.iconst 0, 1) := by decide +kernel
theorem dX7_isPair_8 : decode cX7_isPair 8 = .ok (.iconst 2, 1) := by decide +kernel
theorem dX7_isPair_9 : decode cX7_isPair 9 = .ok (.invokestatic 65, 3) := by decide +kernel
theorem dX7_isPair_12 : decode cX7_isPair 12 = .ok (.goto 43, 3) := by decide +kernel
theorem dX7_isPair_15 : decode cX7_isPair 15 = .ok (.iload_n 1, 1) := by decide +kernel
theorem dX7_isPair_16 : decode cX7_isPair 16 = .ok (.bipush 10, 2) := by decide +kernel
theorem dX7_isPair_18 : decode cX7_isPair 18 = .ok (.bipush 16, 2) := by decide +kernel
theorem dX7_isPair_20 : decode cX7_isPair 20 = .ok (.invokestatic 65, 3) := by decide +kernel
theorem dX7_isPair_23 : decode cX7_isPair 23 = .ok (.ifCond .eq 13, 3) := by decide +kernel
theorem dX7_isPair_26 : decode cX7_isPair 26 = .ok (.iload_n 0, 1) := by decide +kernel
theorem dX7_isPair_27 : decode cX7_isPair 27 = .ok (.iconst 1, 1) := by decide +kernel
theorem dX7_isPair_28 : decode cX7_isPair 28 = .ok (.bipush 9, 2) := by decide +kernel
theorem dX7_isPair_30 : decode cX7_isPair 30 = .ok (.invokestatic 65, 3) := by decide +kernel
theorem dX7_isPair_33 : decode cX7_isPair 33 = .ok (.goto 22, 3) := by decide +kernel
theorem dX7_isPair_36 : decode cX7_isPair 36 = .ok (.iload_n 1, 1) := by decide +kernel
theorem dX7_isPair_37 : decode cX7_isPair 37 = .ok (.iconst 0, 1) := by decide +kernel
theorem dX7_isPair_38 : decode cX7_isPair 38 = .ok (.bipush 6, 2) := by decide +kernel
theorem dX7_isPair_40 : decode cX7_isPair 40 = .ok (.invokestatic 65, 3) := by decide +kernel
theorem dX7_isPair_43 : decode cX7_isPair 43 = .ok (.ifCond .eq 11, 3) := by decide +kernel
theorem dX7_isPair_46 : decode cX7_isPair 46 = .ok (.iload_n 0, 1) := by decide +kernel
theorem dX7_isPair_47 : decode cX7_isPair 47 = .ok (.ifCond .ne 7, 3) := by decide +kernel
theorem dX7_isPair_50 : decode cX7_isPair 50 = .ok (.iconst 1, 1) := by decide +kernel
theorem dX7_isPair_51 : decode cX7_isPair 51 = .ok (.goto 4, 3) := by decide +kernel
theorem dX7_isPair_54 : decode cX7_isPair 54 = .ok (.iconst 0, 1) := by decide +kernel
theorem dX7_isPair_55 : decode cX7_isPair 55 = .ok (.ireturn, 1) := by decide +kernel
theorem dX7_goDay_0 : decode cX7_goDay 0 = .ok (.iconst 0, 1) := by decide +kernel
theorem dX7_goDay_1 : decode cX7_goDay 1 = .ok (.istore_n 3, 1) := by decide +kernel
theorem dX7_goDay_2 : decode cX7_goDay 2 = .ok (.iload_n 3, 1) := by decide +kernel
theorem dX7_goDay_3 : decode cX7_goDay 3 = .ok (.iload_n 2, 1) := by decide +kernel
theorem dX7_goDay_4 : decode cX7_goDay 4 = .ok (.if_icmp .ge 40, 3) := by decide +kernel
theorem dX7_goDay_7 : decode cX7_goDay 7 = .ok (.aload_n 0, 1) := by decide +kernel
theorem dX7_goDay_8 : decode cX7_goDay 8 = .ok (.aload_n 0, 1) := by decide +kernel
theorem dX7_goDay_9 : decode cX7_goDay 9 = .ok (.getfield 16, 3) := by decide +kernel
theorem dX7_goDay_12 : decode cX7_goDay 12 = .ok (.iload_n 1, 1) := by decide +kernel
theorem dX7_goDay_13 : decode cX7_goDay 13 = .ok (.iconst 2, 1) := by decide +kernel
theorem dX7_goDay_14 : decode cX7_goDay 14 = .ok (.iload_n 3, 1) := by decide +kernel
theorem dX7_goDay_15 : decode cX7_goDay 15 = .ok (.imul, 1) := by decide +kernel
theorem dX7_goDay_16 : decode cX7_goDay 16 = .ok (.iadd, 1) := by decide +kernel
theorem dX7_goDay_17 : decode cX7_goDay 17 = .ok (.iaload, 1) := by decide +kernel
theorem dX7_goDay_18 : decode cX7_goDay 18 = .ok (.aload_n 0, 1) := by decide +kernel
theorem dX7_goDay_19 : decode cX7_goDay 19 = .ok (.getfield 16, 3) := by decide +kernel
theorem dX7_goDay_22 : decode cX7_goDay 22 = .ok (.iload_n 1, 1) := by decide +kernel
theorem dX7_goDay_23 : decode cX7_goDay 23 = .ok (.iconst 2, 1) := by decide +kernel
theorem dX7_goDay_24 : decode cX7_goDay 24 = .ok (.iload_n 3, 1) := by decide +kernel
theorem dX7_goDay_25 : decode cX7_goDay 25 = .ok (.imul, 1) := by decide +kernel
theorem dX7_goDay_26 : decode cX7_goDay 26 = .ok (.iadd, 1) := by decide +kernel
theorem dX7_goDay_27 : decode cX7_goDay 27 = .ok (.iconst 1, 1) := by decide +kernel
theorem dX7_goDay_28 : decode cX7_goDay 28 = .ok (.iadd, 1) := by decide +kernel
theorem dX7_goDay_29 : decode cX7_goDay 29 = .ok (.iaload, 1) := by decide +kernel
theorem dX7_goDay_30 : decode cX7_goDay 30 = .ok (.invokevirtual 197, 3) := by decide +kernel
theorem dX7_goDay_33 : decode cX7_goDay 33 = .ok (.ifCond .ne 5, 3) := by decide +kernel
theorem dX7_goDay_36 : decode cX7_goDay 36 = .ok (.iload_n 3, 1) := by decide +kernel
theorem dX7_goDay_37 : decode cX7_goDay 37 = .ok (.ireturn, 1) := by decide +kernel
theorem dX7_goDay_38 : decode cX7_goDay 38 = .ok (.iinc 3 1, 3) := by decide +kernel
theorem dX7_goDay_41 : decode cX7_goDay 41 = .ok (.goto (-39), 3) := by decide +kernel
theorem dX7_goDay_44 : decode cX7_goDay 44 = .ok (.bipush (-9), 2) := by decide +kernel
theorem dX7_goDay_46 : decode cX7_goDay 46 = .ok (.ireturn, 1) := by decide +kernel
theorem dX7_day_0 : decode cX7_day 0 = .ok (.aload_n 0, 1) := by decide +kernel
theorem dX7_day_1 : decode cX7_day 1 = .ok (.iconst 0, 1) := by decide +kernel
theorem dX7_day_2 : decode cX7_day 2 = .ok (.putfield 60, 3) := by decide +kernel
theorem dX7_day_5 : decode cX7_day 5 = .ok (.iload_n 1, 1) := by decide +kernel
theorem dX7_day_6 : decode cX7_day 6 = .ok (.invokestatic 75, 3) := by decide +kernel
theorem dX7_day_9 : decode cX7_day 9 = .ok (.ifCond .ne 5, 3) := by decide +kernel
theorem dX7_day_12 : decode cX7_day 12 = .ok (.iconst (-1), 1) := by decide +kernel
theorem dX7_day_13 : decode cX7_day 13 = .ok (.ireturn, 1) := by decide +kernel
theorem dX7_day_14 : decode cX7_day 14 = .ok (.iload_n 2, 1) := by decide +kernel
theorem dX7_day_15 : decode cX7_day 15 = .ok (.invokestatic 79, 3) := by decide +kernel
theorem dX7_day_18 : decode cX7_day 18 = .ok (.ifCond .eq 36, 3) := by decide +kernel
theorem dX7_day_21 : decode cX7_day 21 = .ok (.iload 4, 2) := by decide +kernel
theorem dX7_day_23 : decode cX7_day 23 = .ok (.iconst 0, 1) := by decide +kernel
theorem dX7_day_24 : decode cX7_day 24 = .ok (.bipush 20, 2) := by decide +kernel
theorem dX7_day_26 : decode cX7_day 26 = .ok (.invokestatic 65, 3) := by decide +kernel
theorem dX7_day_29 : decode cX7_day 29 = .ok (.ifCond .eq 25, 3) := by decide +kernel
theorem dX7_day_32 : decode cX7_day 32 = .ok (.iload 5, 2) := by decide +kernel
theorem dX7_day_34 : decode cX7_day 34 = .ok (.iconst 0, 1) := by decide +kernel
theorem dX7_day_35 : decode cX7_day 35 = .ok (.iconst 4, 1) := by decide +kernel
theorem dX7_day_36 : decode cX7_day 36 = .ok (.invokestatic 65, 3) := by decide +kernel
theorem dX7_day_39 : decode cX7_day 39 = .ok (.ifCond .ne 18, 3) := by decide +kernel
theorem dX7_day_42 : decode cX7_day 42 = .ok (.iload 5, 2) := by decide +kernel
theorem dX7_day_44 : decode cX7_day 44 = .ok (.bipush 10, 2) := by decide +kernel
theorem dX7_day_46 : decode cX7_day 46 = .ok (.bipush 16, 2) := by decide +kernel
theorem dX7_day_48 : decode cX7_day 48 = .ok (.invokestatic 65, 3) := by decide +kernel
theorem dX7_day_51 : decode cX7_day 51 = .ok (.ifCond .ne 6, 3) := by decide +kernel
theorem dX7_day_54 : decode cX7_day 54 = .ok (.bipush (-2), 2) := by decide +kernel
theorem dX7_day_56 : decode cX7_day 56 = .ok (.ireturn, 1) := by decide +kernel
theorem dX7_day_57 : decode cX7_day 57 = .ok (.aload_n 0, 1) := by decide +kernel
theorem dX7_day_58 : decode cX7_day 58 = .ok (.iload_n 1, 1) := by decide +kernel
theorem dX7_day_59 : decode cX7_day 59 = .ok (.iload_n 2, 1) := by decide +kernel
theorem dX7_day_60 : decode cX7_day 60 = .ok (.iload_n 3, 1) := by decide +kernel
theorem dX7_day_61 : decode cX7_day 61 = .ok (.iconst 2, 1) := by decide +kernel
theorem dX7_day_62 : decode cX7_day 62 = .ok (.iload 4, 2) := by decide +kernel
theorem dX7_day_64 : decode cX7_day 64 = .ok (.imul, 1) := by decide +kernel
theorem dX7_day_65 : decode cX7_day 65 = .ok (.invokevirtual 82, 3) := by decide +kernel
theorem dX7_day_68 : decode cX7_day 68 = .ok (.istore 6, 2) := by decide +kernel
theorem dX7_day_70 : decode cX7_day 70 = .ok (.iload 6, 2) := by decide +kernel
theorem dX7_day_72 : decode cX7_day 72 = .ok (.ifCond .eq 10, 3) := by decide +kernel
theorem dX7_day_75 : decode cX7_day 75 = .ok (.aload_n 0, 1) := by decide +kernel
theorem dX7_day_76 : decode cX7_day 76 = .ok (.iload 6, 2) := by decide +kernel
theorem dX7_day_78 : decode cX7_day 78 = .ok (.invokevirtual 86, 3) := by decide +kernel
theorem dX7_day_81 : decode cX7_day 81 = .ok (.ireturn, 1) := by decide +kernel
theorem dX7_day_82 : decode cX7_day 82 = .ok (.aload_n 0, 1) := by decide +kernel
theorem dX7_day_83 : decode cX7_day 83 = .ok (.getfield 69, 3) := by decide +kernel
theorem dX7_day_86 : decode cX7_day 86 = .ok (.ifCond .ne 6, 3) := by decide +kernel
theorem dX7_day_89 : decode cX7_day 89 = .ok (.bipush (-3), 2) := by decide +kernel
theorem dX7_day_91 : decode cX7_day 91 = .ok (.ireturn, 1) := by decide +kernel
theorem dX7_day_92 : decode cX7_day 92 = .ok (.bipush 60, 2) := by decide +kernel
theorem dX7_day_94 : decode cX7_day 94 = .ok (.iload_n 1, 1) := by decide +kernel
theorem dX7_day_95 : decode cX7_day 95 = .ok (.imul, 1) := by decide +kernel
theorem dX7_day_96 : decode cX7_day 96 = .ok (.iload_n 3, 1) := by decide +kernel
theorem dX7_day_97 : decode cX7_day 97 = .ok (.iadd, 1) := by decide +kernel
theorem dX7_day_98 : decode cX7_day 98 = .ok (.istore 7, 2) := by decide +kernel
theorem dX7_day_100 : decode cX7_day 100 = .ok (.iconst 0, 1) := by decide +kernel
theorem dX7_day_101 : decode cX7_day 101 = .ok (.istore 8, 2) := by decide +kernel
theorem dX7_day_103 : decode cX7_day 103 = .ok (.iload 8, 2) := by decide +kernel
theorem dX7_day_105 : decode cX7_day 105 = .ok (.iload 4, 2) := by decide +kernel
theorem dX7_day_107 : decode cX7_day 107 = .ok (.if_icmp .ge 44, 3) := by decide +kernel
theorem dX7_day_110 : decode cX7_day 110 = .ok (.aload_n 0, 1) := by decide +kernel
theorem dX7_day_111 : decode cX7_day 111 = .ok (.getfield 16, 3) := by decide +kernel
theorem dX7_day_114 : decode cX7_day 114 = .ok (.iload 7, 2) := by decide +kernel
theorem dX7_day_116 : decode cX7_day 116 = .ok (.iconst 2, 1) := by decide +kernel
theorem dX7_day_117 : decode cX7_day 117 = .ok (.iload 8, 2) := by decide +kernel
theorem dX7_day_119 : decode cX7_day 119 = .ok (.imul, 1) := by decide +kernel
theorem dX7_day_120 : decode cX7_day 120 = .ok (.iadd, 1) := by decide +kernel
theorem dX7_day_121 : decode cX7_day 121 = .ok (.iaload, 1) := by decide +kernel
theorem dX7_day_122 : decode cX7_day 122 = .ok (.aload_n 0, 1) := by decide +kernel
theorem dX7_day_123 : decode cX7_day 123 = .ok (.getfield 16, 3) := by decide +kernel
theorem dX7_day_126 : decode cX7_day 126 = .ok (.iload 7, 2) := by decide +kernel
theorem dX7_day_128 : decode cX7_day 128 = .ok (.iconst 2, 1) := by decide +kernel
theorem dX7_day_129 : decode cX7_day 129 = .ok (.iload 8, 2) := by decide +kernel
theorem dX7_day_131 : decode cX7_day 131 = .ok (.imul, 1) := by decide +kernel
theorem dX7_day_132 : decode cX7_day 132 = .ok (.iadd, 1) := by decide +kernel
theorem dX7_day_133 : decode cX7_day 133 = .ok (.iconst 1, 1) := by decide +kernel
theorem dX7_day_134 : decode cX7_day 134 = .ok (.iadd, 1) := by decide +kernel
theorem dX7_day_135 : decode cX7_day 135 = .ok (.iaload, 1) := by decide +kernel
theorem dX7_day_136 : decode cX7_day 136 = .ok (.invokestatic 200, 3) := by decide +kernel
theorem dX7_day_139 : decode cX7_day 139 = .ok (.ifCond .ne 6, 3) := by decide +kernel
theorem dX7_day_142 : decode cX7_day 142 = .ok (.bipush (-2), 2) := by decide +kernel
theorem dX7_day_144 : decode cX7_day 144 = .ok (.ireturn, 1) := by decide +kernel
theorem dX7_day_145 : decode cX7_day 145 = .ok (.iinc 8 1, 3) := by decide +kernel
theorem dX7_day_148 : decode cX7_day 148 = .ok (.goto (-45), 3) := by decide +kernel
theorem dX7_day_151 : decode cX7_day 151 = .ok (.aload_n 0, 1) := by decide +kernel
theorem dX7_day_152 : decode cX7_day 152 = .ok (.getfield 105, 3) := by decide +kernel
theorem dX7_day_155 : decode cX7_day 155 = .ok (.istore 8, 2) := by decide +kernel
theorem dX7_day_157 : decode cX7_day 157 = .ok (.iconst 0, 1) := by decide +kernel
theorem dX7_day_158 : decode cX7_day 158 = .ok (.istore 9, 2) := by decide +kernel
theorem dX7_day_160 : decode cX7_day 160 = .ok (.iload 9, 2) := by decide +kernel
theorem dX7_day_162 : decode cX7_day 162 = .ok (.aload_n 0, 1) := by decide +kernel
theorem dX7_day_163 : decode cX7_day 163 = .ok (.getfield 69, 3) := by decide +kernel
theorem dX7_day_166 : decode cX7_day 166 = .ok (.if_icmp .ge 23, 3) := by decide +kernel
theorem dX7_day_169 : decode cX7_day 169 = .ok (.aload_n 0, 1) := by decide +kernel
theorem dX7_day_170 : decode cX7_day 170 = .ok (.getfield 51, 3) := by decide +kernel
theorem dX7_day_173 : decode cX7_day 173 = .ok (.iload 9, 2) := by decide +kernel
theorem dX7_day_175 : decode cX7_day 175 = .ok (.aload_n 0, 1) := by decide +kernel
theorem dX7_day_176 : decode cX7_day 176 = .ok (.getfield 33, 3) := by decide +kernel
theorem dX7_day_179 : decode cX7_day 179 = .ok (.iload 9, 2) := by decide +kernel
theorem dX7_day_181 : decode cX7_day 181 = .ok (.iaload, 1) := by decide +kernel
theorem dX7_day_182 : decode cX7_day 182 = .ok (.iastore, 1) := by decide +kernel
theorem dX7_day_183 : decode cX7_day 183 = .ok (.iinc 9 1, 3) := by decide +kernel
theorem dX7_day_186 : decode cX7_day 186 = .ok (.goto (-26), 3) := by decide +kernel
theorem dX7_day_189 : decode cX7_day 189 = .ok (.aload_n 0, 1) := by decide +kernel
theorem dX7_day_190 : decode cX7_day 190 = .ok (.iload 7, 2) := by decide +kernel
theorem dX7_day_192 : decode cX7_day 192 = .ok (.iload 4, 2) := by decide +kernel
theorem dX7_day_194 : decode cX7_day 194 = .ok (.invokevirtual 203, 3) := by decide +kernel
theorem dX7_day_197 : decode cX7_day 197 = .ok (.istore 9, 2) := by decide +kernel
theorem dX7_day_199 : decode cX7_day 199 = .ok (.aload_n 0, 1) := by decide +kernel
theorem dX7_day_200 : decode cX7_day 200 = .ok (.iload 5, 2) := by decide +kernel
theorem dX7_day_202 : decode cX7_day 202 = .ok (.invokevirtual 206, 3) := by decide +kernel
theorem dX7_day_205 : decode cX7_day 205 = .ok (.istore 10, 2) := by decide +kernel
theorem dX7_day_207 : decode cX7_day 207 = .ok (.aload_n 0, 1) := by decide +kernel
theorem dX7_day_208 : decode cX7_day 208 = .ok (.iload 8, 2) := by decide +kernel
theorem dX7_day_210 : decode cX7_day 210 = .ok (.putfield 105, 3) := by decide +kernel
theorem dX7_day_213 : decode cX7_day 213 = .ok (.iconst 0, 1) := by decide +kernel
theorem dX7_day_214 : decode cX7_day 214 = .ok (.istore 11, 2) := by decide +kernel
theorem dX7_day_216 : decode cX7_day 216 = .ok (.iload 11, 2) := by decide +kernel
theorem dX7_day_218 : decode cX7_day 218 = .ok (.aload_n 0, 1) := by decide +kernel
theorem dX7_day_219 : decode cX7_day 219 = .ok (.getfield 69, 3) := by decide +kernel
theorem dX7_day_222 : decode cX7_day 222 = .ok (.if_icmp .ge 23, 3) := by decide +kernel
theorem dX7_day_225 : decode cX7_day 225 = .ok (.aload_n 0, 1) := by decide +kernel
theorem dX7_day_226 : decode cX7_day 226 = .ok (.getfield 33, 3) := by decide +kernel
theorem dX7_day_229 : decode cX7_day 229 = .ok (.iload 11, 2) := by decide +kernel
theorem dX7_day_231 : decode cX7_day 231 = .ok (.aload_n 0, 1) := by decide +kernel
theorem dX7_day_232 : decode cX7_day 232 = .ok (.getfield 51, 3) := by decide +kernel
theorem dX7_day_235 : decode cX7_day 235 = .ok (.iload 11, 2) := by decide +kernel
theorem dX7_day_237 : decode cX7_day 237 = .ok (.iaload, 1) := by decide +kernel
theorem dX7_day_238 : decode cX7_day 238 = .ok (.iastore, 1) := by decide +kernel
theorem dX7_day_239 : decode cX7_day 239 = .ok (.iinc 11 1, 3) := by decide +kernel
theorem dX7_day_242 : decode cX7_day 242 = .ok (.goto (-26), 3) := by decide +kernel
theorem dX7_day_245 : decode cX7_day 245 = .ok (.iload 5, 2) := by decide +kernel
theorem dX7_day_247 : decode cX7_day 247 = .ok (.iconst 1, 1) := by decide +kernel
theorem dX7_day_248 : decode cX7_day 248 = .ok (.if_icmp .ne 8, 3) := by decide +kernel
theorem dX7_day_251 : decode cX7_day 251 = .ok (.iload 9, 2) := by decide +kernel
theorem dX7_day_253 : decode cX7_day 253 = .ok (.goto 20, 3) := by decide +kernel
theorem dX7_day_256 : decode cX7_day 256 = .ok (.iload 9, 2) := by decide +kernel
theorem dX7_day_258 : decode cX7_day 258 = .ok (.bipush (-9), 2) := by decide +kernel
theorem dX7_day_260 : decode cX7_day 260 = .ok (.if_icmp .ne 8, 3) := by decide +kernel
theorem dX7_day_263 : decode cX7_day 263 = .ok (.iload 10, 2) := by decide +kernel
theorem dX7_day_265 : decode cX7_day 265 = .ok (.goto 8, 3) := by decide +kernel
theorem dX7_day_268 : decode cX7_day 268 = .ok (.bipush (-100), 2) := by decide +kernel
theorem dX7_day_270 : decode cX7_day 270 = .ok (.iload 9, 2) := by decide +kernel
theorem dX7_day_272 : decode cX7_day 272 = .ok (.isub, 1) := by decide +kernel
theorem dX7_day_273 : decode cX7_day 273 = .ok (.ireturn, 1) := by decide +kernel
theorem dX7_tellDay_0 : decode cX7_tellDay 0 = .ok (.iload_n 1, 1) := by decide +kernel
theorem dX7_tellDay_1 : decode cX7_tellDay 1 = .ok (.bipush 10, 2) := by decide +kernel
theorem dX7_tellDay_3 : decode cX7_tellDay 3 = .ok (.if_icmp .lt 35, 3) := by decide +kernel
theorem dX7_tellDay_6 : decode cX7_tellDay 6 = .ok (.aload_n 0, 1) := by decide +kernel
theorem dX7_tellDay_7 : decode cX7_tellDay 7 = .ok (.iload_n 1, 1) := by decide +kernel
theorem dX7_tellDay_8 : decode cX7_tellDay 8 = .ok (.bipush 10, 2) := by decide +kernel
theorem dX7_tellDay_10 : decode cX7_tellDay 10 = .ok (.isub, 1) := by decide +kernel
theorem dX7_tellDay_11 : decode cX7_tellDay 11 = .ok (.invokevirtual 163, 3) := by decide +kernel
theorem dX7_tellDay_14 : decode cX7_tellDay 14 = .ok (.ifCond .eq 21, 3) := by decide +kernel
theorem dX7_tellDay_17 : decode cX7_tellDay 17 = .ok (.aload_n 0, 1) := by decide +kernel
theorem dX7_tellDay_18 : decode cX7_tellDay 18 = .ok (.iload_n 1, 1) := by decide +kernel
theorem dX7_tellDay_19 : decode cX7_tellDay 19 = .ok (.bipush 10, 2) := by decide +kernel
theorem dX7_tellDay_21 : decode cX7_tellDay 21 = .ok (.isub, 1) := by decide +kernel
theorem dX7_tellDay_22 : decode cX7_tellDay 22 = .ok (.aload_n 0, 1) := by decide +kernel
theorem dX7_tellDay_23 : decode cX7_tellDay 23 = .ok (.getfield 105, 3) := by decide +kernel
theorem dX7_tellDay_26 : decode cX7_tellDay 26 = .ok (.invokevirtual 169, 3) := by decide +kernel
theorem dX7_tellDay_29 : decode cX7_tellDay 29 = .ok (.bipush 10, 2) := by decide +kernel
theorem dX7_tellDay_31 : decode cX7_tellDay 31 = .ok (.iadd, 1) := by decide +kernel
theorem dX7_tellDay_32 : decode cX7_tellDay 32 = .ok (.goto 5, 3) := by decide +kernel
theorem dX7_tellDay_35 : decode cX7_tellDay 35 = .ok (.bipush (-9), 2) := by decide +kernel
theorem dX7_tellDay_37 : decode cX7_tellDay 37 = .ok (.ireturn, 1) := by decide +kernel
theorem dX7_tellDay_38 : decode cX7_tellDay 38 = .ok (.iload_n 1, 1) := by decide +kernel
theorem dX7_tellDay_39 : decode cX7_tellDay 39 = .ok (.ifCond .ne 14, 3) := by decide +kernel
theorem dX7_tellDay_42 : decode cX7_tellDay 42 = .ok (.aload_n 0, 1) := by decide +kernel
theorem dX7_tellDay_43 : decode cX7_tellDay 43 = .ok (.aload_n 0, 1) := by decide +kernel
theorem dX7_tellDay_44 : decode cX7_tellDay 44 = .ok (.getfield 105, 3) := by decide +kernel
theorem dX7_tellDay_47 : decode cX7_tellDay 47 = .ok (.invokevirtual 160, 3) := by decide +kernel
theorem dX7_tellDay_50 : decode cX7_tellDay 50 = .ok (.goto 47, 3) := by decide +kernel
theorem dX7_tellDay_53 : decode cX7_tellDay 53 = .ok (.iload_n 1, 1) := by decide +kernel
theorem dX7_tellDay_54 : decode cX7_tellDay 54 = .ok (.iconst 2, 1) := by decide +kernel
theorem dX7_tellDay_55 : decode cX7_tellDay 55 = .ok (.if_icmp .ne 10, 3) := by decide +kernel
theorem dX7_tellDay_58 : decode cX7_tellDay 58 = .ok (.aload_n 0, 1) := by decide +kernel
theorem dX7_tellDay_59 : decode cX7_tellDay 59 = .ok (.getfield 105, 3) := by decide +kernel
theorem dX7_tellDay_62 : decode cX7_tellDay 62 = .ok (.goto 35, 3) := by decide +kernel
theorem dX7_tellDay_65 : decode cX7_tellDay 65 = .ok (.iload_n 1, 1) := by decide +kernel
theorem dX7_tellDay_66 : decode cX7_tellDay 66 = .ok (.iconst 3, 1) := by decide +kernel
theorem dX7_tellDay_67 : decode cX7_tellDay 67 = .ok (.if_icmp .ne 21, 3) := by decide +kernel
theorem dX7_tellDay_70 : decode cX7_tellDay 70 = .ok (.aload_n 0, 1) := by decide +kernel
theorem dX7_tellDay_71 : decode cX7_tellDay 71 = .ok (.aload_n 0, 1) := by decide +kernel
theorem dX7_tellDay_72 : decode cX7_tellDay 72 = .ok (.invokevirtual 143, 3) := by decide +kernel
theorem dX7_tellDay_75 : decode cX7_tellDay 75 = .ok (.aload_n 0, 1) := by decide +kernel
theorem dX7_tellDay_76 : decode cX7_tellDay 76 = .ok (.getfield 105, 3) := by decide +kernel
theorem dX7_tellDay_79 : decode cX7_tellDay 79 = .ok (.iconst (-1), 1) := by decide +kernel
theorem dX7_tellDay_80 : decode cX7_tellDay 80 = .ok (.ixor, 1) := by decide +kernel
theorem dX7_tellDay_81 : decode cX7_tellDay 81 = .ok (.iand, 1) := by decide +kernel
theorem dX7_tellDay_82 : decode cX7_tellDay 82 = .ok (.invokevirtual 147, 3) := by decide +kernel
theorem dX7_tellDay_85 : decode cX7_tellDay 85 = .ok (.goto 12, 3) := by decide +kernel
theorem dX7_tellDay_88 : decode cX7_tellDay 88 = .ok (.aload_n 0, 1) := by decide +kernel
theorem dX7_tellDay_89 : decode cX7_tellDay 89 = .ok (.iconst 0, 1) := by decide +kernel
theorem dX7_tellDay_90 : decode cX7_tellDay 90 = .ok (.aload_n 0, 1) := by decide +kernel
theorem dX7_tellDay_91 : decode cX7_tellDay 91 = .ok (.getfield 105, 3) := by decide +kernel
theorem dX7_tellDay_94 : decode cX7_tellDay 94 = .ok (.invokevirtual 154, 3) := by decide +kernel
theorem dX7_tellDay_97 : decode cX7_tellDay 97 = .ok (.ireturn, 1) := by decide +kernel
theorem dX7_least_0 : decode cX7_least 0 = .ok (.aload_n 0, 1) := by decide +kernel
theorem dX7_least_1 : decode cX7_least 1 = .ok (.getfield 69, 3) := by decide +kernel
theorem dX7_least_4 : decode cX7_least 4 = .ok (.ifCond .ne 6, 3) := by decide +kernel
theorem dX7_least_7 : decode cX7_least 7 = .ok (.bipush (-3), 2) := by decide +kernel
theorem dX7_least_9 : decode cX7_least 9 = .ok (.ireturn, 1) := by decide +kernel
theorem dX7_least_10 : decode cX7_least 10 = .ok (.iload_n 1, 1) := by decide +kernel
theorem dX7_least_11 : decode cX7_least 11 = .ok (.iconst 0, 1) := by decide +kernel
theorem dX7_least_12 : decode cX7_least 12 = .ok (.iconst 1, 1) := by decide +kernel
theorem dX7_least_13 : decode cX7_least 13 = .ok (.invokestatic 65, 3) := by decide +kernel
theorem dX7_least_16 : decode cX7_least 16 = .ok (.ifCond .ne 6, 3) := by decide +kernel
theorem dX7_least_19 : decode cX7_least 19 = .ok (.bipush (-2), 2) := by decide +kernel
theorem dX7_least_21 : decode cX7_least 21 = .ok (.ireturn, 1) := by decide +kernel
theorem dX7_least_22 : decode cX7_least 22 = .ok (.bipush (-9), 2) := by decide +kernel
theorem dX7_least_24 : decode cX7_least 24 = .ok (.istore_n 2, 1) := by decide +kernel
theorem dX7_least_25 : decode cX7_least 25 = .ok (.iconst 0, 1) := by decide +kernel
theorem dX7_least_26 : decode cX7_least 26 = .ok (.istore_n 3, 1) := by decide +kernel
theorem dX7_least_27 : decode cX7_least 27 = .ok (.iload_n 3, 1) := by decide +kernel
theorem dX7_least_28 : decode cX7_least 28 = .ok (.aload_n 0, 1) := by decide +kernel
theorem dX7_least_29 : decode cX7_least 29 = .ok (.invokevirtual 143, 3) := by decide +kernel
theorem dX7_least_32 : decode cX7_least 32 = .ok (.if_icmp .gt 82, 3) := by decide +kernel
theorem dX7_least_35 : decode cX7_least 35 = .ok (.iload_n 3, 1) := by decide +kernel
theorem dX7_least_36 : decode cX7_least 36 = .ok (.aload_n 0, 1) := by decide +kernel
theorem dX7_least_37 : decode cX7_least 37 = .ok (.getfield 111, 3) := by decide +kernel
theorem dX7_least_40 : decode cX7_least 40 = .ok (.iand, 1) := by decide +kernel
theorem dX7_least_41 : decode cX7_least 41 = .ok (.aload_n 0, 1) := by decide +kernel
theorem dX7_least_42 : decode cX7_least 42 = .ok (.getfield 105, 3) := by decide +kernel
theorem dX7_least_45 : decode cX7_least 45 = .ok (.aload_n 0, 1) := by decide +kernel
theorem dX7_least_46 : decode cX7_least 46 = .ok (.getfield 111, 3) := by decide +kernel
theorem dX7_least_49 : decode cX7_least 49 = .ok (.iand, 1) := by decide +kernel
theorem dX7_least_50 : decode cX7_least 50 = .ok (.if_icmp .ne 25, 3) := by decide +kernel
theorem dX7_least_53 : decode cX7_least 53 = .ok (.aload_n 0, 1) := by decide +kernel
theorem dX7_least_54 : decode cX7_least 54 = .ok (.iconst 0, 1) := by decide +kernel
theorem dX7_least_55 : decode cX7_least 55 = .ok (.iload_n 3, 1) := by decide +kernel
theorem dX7_least_56 : decode cX7_least 56 = .ok (.invokevirtual 172, 3) := by decide +kernel
theorem dX7_least_59 : decode cX7_least 59 = .ok (.ifCond .eq 16, 3) := by decide +kernel
theorem dX7_least_62 : decode cX7_least 62 = .ok (.aload_n 0, 1) := by decide +kernel
theorem dX7_least_63 : decode cX7_least 63 = .ok (.iconst 1, 1) := by decide +kernel
theorem dX7_least_64 : decode cX7_least 64 = .ok (.iload_n 3, 1) := by decide +kernel
theorem dX7_least_65 : decode cX7_least 65 = .ok (.invokevirtual 172, 3) := by decide +kernel
theorem dX7_least_68 : decode cX7_least 68 = .ok (.ifCond .eq 7, 3) := by decide +kernel
theorem dX7_least_71 : decode cX7_least 71 = .ok (.iconst 1, 1) := by decide +kernel
theorem dX7_least_72 : decode cX7_least 72 = .ok (.goto 4, 3) := by decide +kernel
theorem dX7_least_75 : decode cX7_least 75 = .ok (.iconst 0, 1) := by decide +kernel
theorem dX7_least_76 : decode cX7_least 76 = .ok (.istore 4, 2) := by decide +kernel
theorem dX7_least_78 : decode cX7_least 78 = .ok (.iload 4, 2) := by decide +kernel
theorem dX7_least_80 : decode cX7_least 80 = .ok (.ifCond .eq 26, 3) := by decide +kernel
theorem dX7_least_83 : decode cX7_least 83 = .ok (.iload_n 2, 1) := by decide +kernel
theorem dX7_least_84 : decode cX7_least 84 = .ok (.bipush (-9), 2) := by decide +kernel
theorem dX7_least_86 : decode cX7_least 86 = .ok (.if_icmp .eq 16, 3) := by decide +kernel
theorem dX7_least_89 : decode cX7_least 89 = .ok (.aload_n 0, 1) := by decide +kernel
theorem dX7_least_90 : decode cX7_least 90 = .ok (.iload_n 3, 1) := by decide +kernel
theorem dX7_least_91 : decode cX7_least 91 = .ok (.invokevirtual 160, 3) := by decide +kernel
theorem dX7_least_94 : decode cX7_least 94 = .ok (.aload_n 0, 1) := by decide +kernel
theorem dX7_least_95 : decode cX7_least 95 = .ok (.iload_n 2, 1) := by decide +kernel
theorem dX7_least_96 : decode cX7_least 96 = .ok (.invokevirtual 160, 3) := by decide +kernel
theorem dX7_least_99 : decode cX7_least 99 = .ok (.if_icmp .ge 7, 3) := by decide +kernel
theorem dX7_least_102 : decode cX7_least 102 = .ok (.iload_n 3, 1) := by decide +kernel
theorem dX7_least_103 : decode cX7_least 103 = .ok (.goto 4, 3) := by decide +kernel
theorem dX7_least_106 : decode cX7_least 106 = .ok (.iload_n 2, 1) := by decide +kernel
theorem dX7_least_107 : decode cX7_least 107 = .ok (.istore_n 2, 1) := by decide +kernel
theorem dX7_least_108 : decode cX7_least 108 = .ok (.iinc 3 1, 3) := by decide +kernel
theorem dX7_least_111 : decode cX7_least 111 = .ok (.goto (-84), 3) := by decide +kernel
theorem dX7_least_114 : decode cX7_least 114 = .ok (.iload_n 2, 1) := by decide +kernel
theorem dX7_least_115 : decode cX7_least 115 = .ok (.bipush (-9), 2) := by decide +kernel
theorem dX7_least_117 : decode cX7_least 117 = .ok (.if_icmp .ne 8, 3) := by decide +kernel
theorem dX7_least_120 : decode cX7_least 120 = .ok (.bipush (-9), 2) := by decide +kernel
theorem dX7_least_122 : decode cX7_least 122 = .ok (.goto 16, 3) := by decide +kernel
theorem dX7_least_125 : decode cX7_least 125 = .ok (.iload_n 1, 1) := by decide +kernel
theorem dX7_least_126 : decode cX7_least 126 = .ok (.ifCond .ne 11, 3) := by decide +kernel
theorem dX7_least_129 : decode cX7_least 129 = .ok (.aload_n 0, 1) := by decide +kernel
theorem dX7_least_130 : decode cX7_least 130 = .ok (.iload_n 2, 1) := by decide +kernel
theorem dX7_least_131 : decode cX7_least 131 = .ok (.invokevirtual 160, 3) := by decide +kernel
theorem dX7_least_134 : decode cX7_least 134 = .ok (.goto 4, 3) := by decide +kernel
theorem dX7_least_137 : decode cX7_least 137 = .ok (.iload_n 2, 1) := by decide +kernel
theorem dX7_least_138 : decode cX7_least 138 = .ok (.ireturn, 1) := by decide +kernel
theorem dX7_apart_0 : decode cX7_apart 0 = .ok (.aload_n 0, 1) := by decide +kernel
theorem dX7_apart_1 : decode cX7_apart 1 = .ok (.iload_n 1, 1) := by decide +kernel
theorem dX7_apart_2 : decode cX7_apart 2 = .ok (.invokevirtual 163, 3) := by decide +kernel
theorem dX7_apart_5 : decode cX7_apart 5 = .ok (.ifCond .eq 16, 3) := by decide +kernel
theorem dX7_apart_8 : decode cX7_apart 8 = .ok (.aload_n 0, 1) := by decide +kernel
theorem dX7_apart_9 : decode cX7_apart 9 = .ok (.iload_n 2, 1) := by decide +kernel
theorem dX7_apart_10 : decode cX7_apart 10 = .ok (.invokevirtual 163, 3) := by decide +kernel
theorem dX7_apart_13 : decode cX7_apart 13 = .ok (.ifCond .eq 8, 3) := by decide +kernel
theorem dX7_apart_16 : decode cX7_apart 16 = .ok (.iload_n 1, 1) := by decide +kernel
theorem dX7_apart_17 : decode cX7_apart 17 = .ok (.iload_n 2, 1) := by decide +kernel
theorem dX7_apart_18 : decode cX7_apart 18 = .ok (.if_icmp .ne 5, 3) := by decide +kernel
theorem dX7_apart_21 : decode cX7_apart 21 = .ok (.iconst (-1), 1) := by decide +kernel
theorem dX7_apart_22 : decode cX7_apart 22 = .ok (.ireturn, 1) := by decide +kernel
theorem dX7_apart_23 : decode cX7_apart 23 = .ok (.bipush 6, 2) := by decide +kernel
theorem dX7_apart_25 : decode cX7_apart 25 = .ok (.istore_n 3, 1) := by decide +kernel
theorem dX7_apart_26 : decode cX7_apart 26 = .ok (.iconst 0, 1) := by decide +kernel
theorem dX7_apart_27 : decode cX7_apart 27 = .ok (.istore 4, 2) := by decide +kernel
theorem dX7_apart_29 : decode cX7_apart 29 = .ok (.iload 4, 2) := by decide +kernel
theorem dX7_apart_31 : decode cX7_apart 31 = .ok (.aload_n 0, 1) := by decide +kernel
theorem dX7_apart_32 : decode cX7_apart 32 = .ok (.invokevirtual 143, 3) := by decide +kernel
theorem dX7_apart_35 : decode cX7_apart 35 = .ok (.if_icmp .gt 60, 3) := by decide +kernel
theorem dX7_apart_38 : decode cX7_apart 38 = .ok (.iload 4, 2) := by decide +kernel
theorem dX7_apart_40 : decode cX7_apart 40 = .ok (.iload_n 1, 1) := by decide +kernel
theorem dX7_apart_41 : decode cX7_apart 41 = .ok (.invokestatic 133, 3) := by decide +kernel
theorem dX7_apart_44 : decode cX7_apart 44 = .ok (.ifCond .ne 16, 3) := by decide +kernel
theorem dX7_apart_47 : decode cX7_apart 47 = .ok (.iload 4, 2) := by decide +kernel
theorem dX7_apart_49 : decode cX7_apart 49 = .ok (.iload_n 2, 1) := by decide +kernel
theorem dX7_apart_50 : decode cX7_apart 50 = .ok (.invokestatic 133, 3) := by decide +kernel
theorem dX7_apart_53 : decode cX7_apart 53 = .ok (.ifCond .eq 7, 3) := by decide +kernel
theorem dX7_apart_56 : decode cX7_apart 56 = .ok (.iconst 1, 1) := by decide +kernel
theorem dX7_apart_57 : decode cX7_apart 57 = .ok (.goto 4, 3) := by decide +kernel
theorem dX7_apart_60 : decode cX7_apart 60 = .ok (.iconst 0, 1) := by decide +kernel
theorem dX7_apart_61 : decode cX7_apart 61 = .ok (.istore 5, 2) := by decide +kernel
theorem dX7_apart_63 : decode cX7_apart 63 = .ok (.iload 5, 2) := by decide +kernel
theorem dX7_apart_65 : decode cX7_apart 65 = .ok (.ifCond .eq 22, 3) := by decide +kernel
theorem dX7_apart_68 : decode cX7_apart 68 = .ok (.aload_n 0, 1) := by decide +kernel
theorem dX7_apart_69 : decode cX7_apart 69 = .ok (.iload 4, 2) := by decide +kernel
theorem dX7_apart_71 : decode cX7_apart 71 = .ok (.invokevirtual 160, 3) := by decide +kernel
theorem dX7_apart_74 : decode cX7_apart 74 = .ok (.iload_n 3, 1) := by decide +kernel
theorem dX7_apart_75 : decode cX7_apart 75 = .ok (.if_icmp .ge 12, 3) := by decide +kernel
theorem dX7_apart_78 : decode cX7_apart 78 = .ok (.aload_n 0, 1) := by decide +kernel
theorem dX7_apart_79 : decode cX7_apart 79 = .ok (.iload 4, 2) := by decide +kernel
theorem dX7_apart_81 : decode cX7_apart 81 = .ok (.invokevirtual 160, 3) := by decide +kernel
theorem dX7_apart_84 : decode cX7_apart 84 = .ok (.goto 4, 3) := by decide +kernel
theorem dX7_apart_87 : decode cX7_apart 87 = .ok (.iload_n 3, 1) := by decide +kernel
theorem dX7_apart_88 : decode cX7_apart 88 = .ok (.istore_n 3, 1) := by decide +kernel
theorem dX7_apart_89 : decode cX7_apart 89 = .ok (.iinc 4 1, 3) := by decide +kernel
theorem dX7_apart_92 : decode cX7_apart 92 = .ok (.goto (-63), 3) := by decide +kernel
theorem dX7_apart_95 : decode cX7_apart 95 = .ok (.iload_n 3, 1) := by decide +kernel
theorem dX7_apart_96 : decode cX7_apart 96 = .ok (.ireturn, 1) := by decide +kernel
theorem dX7_closest_0 : decode cX7_closest 0 = .ok (.aload_n 0, 1) := by decide +kernel
theorem dX7_closest_1 : decode cX7_closest 1 = .ok (.getfield 69, 3) := by decide +kernel
theorem dX7_closest_4 : decode cX7_closest 4 = .ok (.iconst 2, 1) := by decide +kernel
theorem dX7_closest_5 : decode cX7_closest 5 = .ok (.if_icmp .ge 6, 3) := by decide +kernel
theorem dX7_closest_8 : decode cX7_closest 8 = .ok (.bipush (-3), 2) := by decide +kernel
theorem dX7_closest_10 : decode cX7_closest 10 = .ok (.ireturn, 1) := by decide +kernel
theorem dX7_closest_11 : decode cX7_closest 11 = .ok (.iload_n 1, 1) := by decide +kernel
theorem dX7_closest_12 : decode cX7_closest 12 = .ok (.iconst 0, 1) := by decide +kernel
theorem dX7_closest_13 : decode cX7_closest 13 = .ok (.iconst 2, 1) := by decide +kernel
theorem dX7_closest_14 : decode cX7_closest 14 = .ok (.invokestatic 65, 3) := by decide +kernel
theorem dX7_closest_17 : decode cX7_closest 17 = .ok (.ifCond .ne 6, 3) := by decide +kernel
theorem dX7_closest_20 : decode cX7_closest 20 = .ok (.bipush (-2), 2) := by decide +kernel
theorem dX7_closest_22 : decode cX7_closest 22 = .ok (.ireturn, 1) := by decide +kernel
theorem dX7_closest_23 : decode cX7_closest 23 = .ok (.bipush (-9), 2) := by decide +kernel
theorem dX7_closest_25 : decode cX7_closest 25 = .ok (.istore_n 2, 1) := by decide +kernel
theorem dX7_closest_26 : decode cX7_closest 26 = .ok (.iconst 0, 1) := by decide +kernel
theorem dX7_closest_27 : decode cX7_closest 27 = .ok (.istore_n 3, 1) := by decide +kernel
theorem dX7_closest_28 : decode cX7_closest 28 = .ok (.iconst 0, 1) := by decide +kernel
theorem dX7_closest_29 : decode cX7_closest 29 = .ok (.istore 4, 2) := by decide +kernel
theorem dX7_closest_31 : decode cX7_closest 31 = .ok (.iconst 0, 1) := by decide +kernel
theorem dX7_closest_32 : decode cX7_closest 32 = .ok (.istore 5, 2) := by decide +kernel
theorem dX7_closest_34 : decode cX7_closest 34 = .ok (.iload 5, 2) := by decide +kernel
theorem dX7_closest_36 : decode cX7_closest 36 = .ok (.aload_n 0, 1) := by decide +kernel
theorem dX7_closest_37 : decode cX7_closest 37 = .ok (.getfield 69, 3) := by decide +kernel
theorem dX7_closest_40 : decode cX7_closest 40 = .ok (.if_icmp .ge 64, 3) := by decide +kernel
theorem dX7_closest_43 : decode cX7_closest 43 = .ok (.iload 5, 2) := by decide +kernel
theorem dX7_closest_45 : decode cX7_closest 45 = .ok (.iconst 1, 1) := by decide +kernel
theorem dX7_closest_46 : decode cX7_closest 46 = .ok (.iadd, 1) := by decide +kernel
theorem dX7_closest_47 : decode cX7_closest 47 = .ok (.istore 6, 2) := by decide +kernel
theorem dX7_closest_49 : decode cX7_closest 49 = .ok (.iload 6, 2) := by decide +kernel
theorem dX7_closest_51 : decode cX7_closest 51 = .ok (.aload_n 0, 1) := by decide +kernel
theorem dX7_closest_52 : decode cX7_closest 52 = .ok (.getfield 69, 3) := by decide +kernel
theorem dX7_closest_55 : decode cX7_closest 55 = .ok (.if_icmp .ge 43, 3) := by decide +kernel
theorem dX7_closest_58 : decode cX7_closest 58 = .ok (.aload_n 0, 1) := by decide +kernel
theorem dX7_closest_59 : decode cX7_closest 59 = .ok (.iload 5, 2) := by decide +kernel
theorem dX7_closest_61 : decode cX7_closest 61 = .ok (.invokevirtual 166, 3) := by decide +kernel
theorem dX7_closest_64 : decode cX7_closest 64 = .ok (.aload_n 0, 1) := by decide +kernel
theorem dX7_closest_65 : decode cX7_closest 65 = .ok (.iload 6, 2) := by decide +kernel
theorem dX7_closest_67 : decode cX7_closest 67 = .ok (.invokevirtual 166, 3) := by decide +kernel
theorem dX7_closest_70 : decode cX7_closest 70 = .ok (.iand, 1) := by decide +kernel
theorem dX7_closest_71 : decode cX7_closest 71 = .ok (.invokestatic 130, 3) := by decide +kernel
theorem dX7_closest_74 : decode cX7_closest 74 = .ok (.istore 7, 2) := by decide +kernel
theorem dX7_closest_76 : decode cX7_closest 76 = .ok (.iload 7, 2) := by decide +kernel
theorem dX7_closest_78 : decode cX7_closest 78 = .ok (.iload_n 2, 1) := by decide +kernel
theorem dX7_closest_79 : decode cX7_closest 79 = .ok (.if_icmp .le 13, 3) := by decide +kernel
theorem dX7_closest_82 : decode cX7_closest 82 = .ok (.iload 7, 2) := by decide +kernel
theorem dX7_closest_84 : decode cX7_closest 84 = .ok (.istore_n 2, 1) := by decide +kernel
theorem dX7_closest_85 : decode cX7_closest 85 = .ok (.iload 5, 2) := by decide +kernel
theorem dX7_closest_87 : decode cX7_closest 87 = .ok (.istore_n 3, 1) := by decide +kernel
theorem dX7_closest_88 : decode cX7_closest 88 = .ok (.iload 6, 2) := by decide +kernel
theorem dX7_closest_90 : decode cX7_closest 90 = .ok (.istore 4, 2) := by decide +kernel
theorem dX7_closest_92 : decode cX7_closest 92 = .ok (.iinc 6 1, 3) := by decide +kernel
theorem dX7_closest_95 : decode cX7_closest 95 = .ok (.goto (-46), 3) := by decide +kernel
theorem dX7_closest_98 : decode cX7_closest 98 = .ok (.iinc 5 1, 3) := by decide +kernel
theorem dX7_closest_101 : decode cX7_closest 101 = .ok (.goto (-67), 3) := by decide +kernel
theorem dX7_closest_104 : decode cX7_closest 104 = .ok (.iload_n 1, 1) := by decide +kernel
theorem dX7_closest_105 : decode cX7_closest 105 = .ok (.ifCond .ne 7, 3) := by decide +kernel
theorem dX7_closest_108 : decode cX7_closest 108 = .ok (.iload_n 2, 1) := by decide +kernel
theorem dX7_closest_109 : decode cX7_closest 109 = .ok (.goto 14, 3) := by decide +kernel
theorem dX7_closest_112 : decode cX7_closest 112 = .ok (.iload_n 1, 1) := by decide +kernel
theorem dX7_closest_113 : decode cX7_closest 113 = .ok (.iconst 1, 1) := by decide +kernel
theorem dX7_closest_114 : decode cX7_closest 114 = .ok (.if_icmp .ne 7, 3) := by decide +kernel
theorem dX7_closest_117 : decode cX7_closest 117 = .ok (.iload_n 3, 1) := by decide +kernel
theorem dX7_closest_118 : decode cX7_closest 118 = .ok (.goto 5, 3) := by decide +kernel
theorem dX7_closest_121 : decode cX7_closest 121 = .ok (.iload 4, 2) := by decide +kernel
theorem dX7_closest_123 : decode cX7_closest 123 = .ok (.ireturn, 1) := by decide +kernel
theorem dX7_rack_0 : decode cX7_rack 0 = .ok (.aload_n 0, 1) := by decide +kernel
theorem dX7_rack_1 : decode cX7_rack 1 = .ok (.iconst 0, 1) := by decide +kernel
theorem dX7_rack_2 : decode cX7_rack 2 = .ok (.putfield 60, 3) := by decide +kernel
theorem dX7_rack_5 : decode cX7_rack 5 = .ok (.aload_n 0, 1) := by decide +kernel
theorem dX7_rack_6 : decode cX7_rack 6 = .ok (.getfield 69, 3) := by decide +kernel
theorem dX7_rack_9 : decode cX7_rack 9 = .ok (.ifCond .ne 6, 3) := by decide +kernel
theorem dX7_rack_12 : decode cX7_rack 12 = .ok (.bipush (-3), 2) := by decide +kernel
theorem dX7_rack_14 : decode cX7_rack 14 = .ok (.ireturn, 1) := by decide +kernel
theorem dX7_rack_15 : decode cX7_rack 15 = .ok (.iload_n 1, 1) := by decide +kernel
theorem dX7_rack_16 : decode cX7_rack 16 = .ok (.iconst 0, 1) := by decide +kernel
theorem dX7_rack_17 : decode cX7_rack 17 = .ok (.iconst 2, 1) := by decide +kernel
theorem dX7_rack_18 : decode cX7_rack 18 = .ok (.invokestatic 65, 3) := by decide +kernel
theorem dX7_rack_21 : decode cX7_rack 21 = .ok (.ifCond .eq 9, 3) := by decide +kernel
theorem dX7_rack_24 : decode cX7_rack 24 = .ok (.iload_n 2, 1) := by decide +kernel
theorem dX7_rack_25 : decode cX7_rack 25 = .ok (.bipush 9, 2) := by decide +kernel
theorem dX7_rack_27 : decode cX7_rack 27 = .ok (.if_icmp .le 6, 3) := by decide +kernel
theorem dX7_rack_30 : decode cX7_rack 30 = .ok (.bipush (-2), 2) := by decide +kernel
theorem dX7_rack_32 : decode cX7_rack 32 = .ok (.ireturn, 1) := by decide +kernel
theorem dX7_rack_33 : decode cX7_rack 33 = .ok (.iload_n 2, 1) := by decide +kernel
theorem dX7_rack_34 : decode cX7_rack 34 = .ok (.ifCond .ge 9, 3) := by decide +kernel
theorem dX7_rack_37 : decode cX7_rack 37 = .ok (.aload_n 0, 1) := by decide +kernel
theorem dX7_rack_38 : decode cX7_rack 38 = .ok (.iconst 4, 1) := by decide +kernel
theorem dX7_rack_39 : decode cX7_rack 39 = .ok (.invokevirtual 86, 3) := by decide +kernel
theorem dX7_rack_42 : decode cX7_rack 42 = .ok (.ireturn, 1) := by decide +kernel
theorem dX7_rack_43 : decode cX7_rack 43 = .ok (.aload_n 0, 1) := by decide +kernel
theorem dX7_rack_44 : decode cX7_rack 44 = .ok (.iload_n 1, 1) := by decide +kernel
theorem dX7_rack_45 : decode cX7_rack 45 = .ok (.putfield 24, 3) := by decide +kernel
theorem dX7_rack_48 : decode cX7_rack 48 = .ok (.aload_n 0, 1) := by decide +kernel
theorem dX7_rack_49 : decode cX7_rack 49 = .ok (.iload_n 2, 1) := by decide +kernel
theorem dX7_rack_50 : decode cX7_rack 50 = .ok (.putfield 114, 3) := by decide +kernel
theorem dX7_rack_53 : decode cX7_rack 53 = .ok (.iconst 0, 1) := by decide +kernel
theorem dX7_rack_54 : decode cX7_rack 54 = .ok (.istore_n 3, 1) := by decide +kernel
theorem dX7_rack_55 : decode cX7_rack 55 = .ok (.iload_n 3, 1) := by decide +kernel
theorem dX7_rack_56 : decode cX7_rack 56 = .ok (.bipush 9, 2) := by decide +kernel
theorem dX7_rack_58 : decode cX7_rack 58 = .ok (.if_icmp .ge 17, 3) := by decide +kernel
theorem dX7_rack_61 : decode cX7_rack 61 = .ok (.aload_n 0, 1) := by decide +kernel
theorem dX7_rack_62 : decode cX7_rack 62 = .ok (.getfield 27, 3) := by decide +kernel
theorem dX7_rack_65 : decode cX7_rack 65 = .ok (.iload_n 3, 1) := by decide +kernel
theorem dX7_rack_66 : decode cX7_rack 66 = .ok (.bipush (-9), 2) := by decide +kernel
theorem dX7_rack_68 : decode cX7_rack 68 = .ok (.iastore, 1) := by decide +kernel
theorem dX7_rack_69 : decode cX7_rack 69 = .ok (.iinc 3 1, 3) := by decide +kernel
theorem dX7_rack_72 : decode cX7_rack 72 = .ok (.goto (-17), 3) := by decide +kernel
theorem dX7_rack_75 : decode cX7_rack 75 = .ok (.iload_n 2, 1) := by decide +kernel
theorem dX7_rack_76 : decode cX7_rack 76 = .ok (.ireturn, 1) := by decide +kernel
theorem dX7_stow_0 : decode cX7_stow 0 = .ok (.aload_n 0, 1) := by decide +kernel
theorem dX7_stow_1 : decode cX7_stow 1 = .ok (.iconst 0, 1) := by decide +kernel
theorem dX7_stow_2 : decode cX7_stow 2 = .ok (.putfield 60, 3) := by decide +kernel
theorem dX7_stow_5 : decode cX7_stow 5 = .ok (.aload_n 0, 1) := by decide +kernel
theorem dX7_stow_6 : decode cX7_stow 6 = .ok (.iload_n 2, 1) := by decide +kernel
theorem dX7_stow_7 : decode cX7_stow 7 = .ok (.invokevirtual 163, 3) := by decide +kernel
theorem dX7_stow_10 : decode cX7_stow 10 = .ok (.ifCond .ne 5, 3) := by decide +kernel
theorem dX7_stow_13 : decode cX7_stow 13 = .ok (.iconst (-1), 1) := by decide +kernel
theorem dX7_stow_14 : decode cX7_stow 14 = .ok (.ireturn, 1) := by decide +kernel
theorem dX7_stow_15 : decode cX7_stow 15 = .ok (.aload_n 0, 1) := by decide +kernel
theorem dX7_stow_16 : decode cX7_stow 16 = .ok (.getfield 24, 3) := by decide +kernel
theorem dX7_stow_19 : decode cX7_stow 19 = .ok (.bipush (-9), 2) := by decide +kernel
theorem dX7_stow_21 : decode cX7_stow 21 = .ok (.if_icmp .ne 9, 3) := by decide +kernel
theorem dX7_stow_24 : decode cX7_stow 24 = .ok (.aload_n 0, 1) := by decide +kernel
theorem dX7_stow_25 : decode cX7_stow 25 = .ok (.iconst 1, 1) := by decide +kernel
theorem dX7_stow_26 : decode cX7_stow 26 = .ok (.invokevirtual 86, 3) := by decide +kernel
theorem dX7_stow_29 : decode cX7_stow 29 = .ok (.ireturn, 1) := by decide +kernel
theorem dX7_stow_30 : decode cX7_stow 30 = .ok (.iload_n 1, 1) := by decide +kernel
theorem dX7_stow_31 : decode cX7_stow 31 = .ok (.ifCond .lt 11, 3) := by decide +kernel
theorem dX7_stow_34 : decode cX7_stow 34 = .ok (.iload_n 1, 1) := by decide +kernel
theorem dX7_stow_35 : decode cX7_stow 35 = .ok (.aload_n 0, 1) := by decide +kernel
theorem dX7_stow_36 : decode cX7_stow 36 = .ok (.getfield 114, 3) := by decide +kernel
theorem dX7_stow_39 : decode cX7_stow 39 = .ok (.if_icmp .lt 9, 3) := by decide +kernel
theorem dX7_stow_42 : decode cX7_stow 42 = .ok (.aload_n 0, 1) := by decide +kernel
theorem dX7_stow_43 : decode cX7_stow 43 = .ok (.iconst 3, 1) := by decide +kernel
theorem dX7_stow_44 : decode cX7_stow 44 = .ok (.invokevirtual 86, 3) := by decide +kernel
theorem dX7_stow_47 : decode cX7_stow 47 = .ok (.ireturn, 1) := by decide +kernel
theorem dX7_stow_48 : decode cX7_stow 48 = .ok (.aload_n 0, 1) := by decide +kernel
theorem dX7_stow_49 : decode cX7_stow 49 = .ok (.getfield 30, 3) := by decide +kernel
theorem dX7_stow_52 : decode cX7_stow 52 = .ok (.iload_n 2, 1) := by decide +kernel
theorem dX7_stow_53 : decode cX7_stow 53 = .ok (.iaload, 1) := by decide +kernel
theorem dX7_stow_54 : decode cX7_stow 54 = .ok (.aload_n 0, 1) := by decide +kernel
theorem dX7_stow_55 : decode cX7_stow 55 = .ok (.getfield 24, 3) := by decide +kernel
theorem dX7_stow_58 : decode cX7_stow 58 = .ok (.if_icmp .ge 9, 3) := by decide +kernel
theorem dX7_stow_61 : decode cX7_stow 61 = .ok (.aload_n 0, 1) := by decide +kernel
theorem dX7_stow_62 : decode cX7_stow 62 = .ok (.iconst 5, 1) := by decide +kernel
theorem dX7_stow_63 : decode cX7_stow 63 = .ok (.invokevirtual 86, 3) := by decide +kernel
theorem dX7_stow_66 : decode cX7_stow 66 = .ok (.ireturn, 1) := by decide +kernel
theorem dX7_stow_67 : decode cX7_stow 67 = .ok (.aload_n 0, 1) := by decide +kernel
theorem dX7_stow_68 : decode cX7_stow 68 = .ok (.getfield 27, 3) := by decide +kernel
theorem dX7_stow_71 : decode cX7_stow 71 = .ok (.iload_n 1, 1) := by decide +kernel
theorem dX7_stow_72 : decode cX7_stow 72 = .ok (.iload_n 2, 1) := by decide +kernel
theorem dX7_stow_73 : decode cX7_stow 73 = .ok (.iastore, 1) := by decide +kernel
theorem dX7_stow_74 : decode cX7_stow 74 = .ok (.iconst 1, 1) := by decide +kernel
theorem dX7_stow_75 : decode cX7_stow 75 = .ok (.ireturn, 1) := by decide +kernel
theorem dX7_stowed_0 : decode cX7_stowed 0 = .ok (.aload_n 0, 1) := by decide +kernel
theorem dX7_stowed_1 : decode cX7_stowed 1 = .ok (.iconst 0, 1) := by decide +kernel
theorem dX7_stowed_2 : decode cX7_stowed 2 = .ok (.putfield 60, 3) := by decide +kernel
theorem dX7_stowed_5 : decode cX7_stowed 5 = .ok (.aload_n 0, 1) := by decide +kernel
theorem dX7_stowed_6 : decode cX7_stowed 6 = .ok (.getfield 24, 3) := by decide +kernel
theorem dX7_stowed_9 : decode cX7_stowed 9 = .ok (.bipush (-9), 2) := by decide +kernel
theorem dX7_stowed_11 : decode cX7_stowed 11 = .ok (.if_icmp .ne 9, 3) := by decide +kernel
theorem dX7_stowed_14 : decode cX7_stowed 14 = .ok (.aload_n 0, 1) := by decide +kernel
theorem dX7_stowed_15 : decode cX7_stowed 15 = .ok (.iconst 1, 1) := by decide +kernel
theorem dX7_stowed_16 : decode cX7_stowed 16 = .ok (.invokevirtual 86, 3) := by decide +kernel
theorem dX7_stowed_19 : decode cX7_stowed 19 = .ok (.ireturn, 1) := by decide +kernel
theorem dX7_stowed_20 : decode cX7_stowed 20 = .ok (.iload_n 1, 1) := by decide +kernel
theorem dX7_stowed_21 : decode cX7_stowed 21 = .ok (.ifCond .lt 11, 3) := by decide +kernel
theorem dX7_stowed_24 : decode cX7_stowed 24 = .ok (.iload_n 1, 1) := by decide +kernel
theorem dX7_stowed_25 : decode cX7_stowed 25 = .ok (.aload_n 0, 1) := by decide +kernel
theorem dX7_stowed_26 : decode cX7_stowed 26 = .ok (.getfield 114, 3) := by decide +kernel
theorem dX7_stowed_29 : decode cX7_stowed 29 = .ok (.if_icmp .lt 11, 3) := by decide +kernel
theorem dX7_stowed_32 : decode cX7_stowed 32 = .ok (.aload_n 0, 1) := by decide +kernel
theorem dX7_stowed_33 : decode cX7_stowed 33 = .ok (.iconst 3, 1) := by decide +kernel
theorem dX7_stowed_34 : decode cX7_stowed 34 = .ok (.invokevirtual 86, 3) := by decide +kernel
theorem dX7_stowed_37 : decode cX7_stowed 37 = .ok (.goto 9, 3) := by decide +kernel
theorem dX7_stowed_40 : decode cX7_stowed 40 = .ok (.aload_n 0, 1) := by decide +kernel
theorem dX7_stowed_41 : decode cX7_stowed 41 = .ok (.getfield 27, 3) := by decide +kernel
theorem dX7_stowed_44 : decode cX7_stowed 44 = .ok (.iload_n 1, 1) := by decide +kernel
theorem dX7_stowed_45 : decode cX7_stowed 45 = .ok (.iaload, 1) := by decide +kernel
theorem dX7_stowed_46 : decode cX7_stowed 46 = .ok (.ireturn, 1) := by decide +kernel
theorem dX7_reading_0 : decode cX7_reading 0 = .ok (.aload_n 0, 1) := by decide +kernel
theorem dX7_reading_1 : decode cX7_reading 1 = .ok (.iload_n 1, 1) := by decide +kernel
theorem dX7_reading_2 : decode cX7_reading 2 = .ok (.invokevirtual 163, 3) := by decide +kernel
theorem dX7_reading_5 : decode cX7_reading 5 = .ok (.ifCond .ne 5, 3) := by decide +kernel
theorem dX7_reading_8 : decode cX7_reading 8 = .ok (.iconst (-1), 1) := by decide +kernel
theorem dX7_reading_9 : decode cX7_reading 9 = .ok (.ireturn, 1) := by decide +kernel
theorem dX7_reading_10 : decode cX7_reading 10 = .ok (.iload_n 2, 1) := by decide +kernel
theorem dX7_reading_11 : decode cX7_reading 11 = .ok (.iconst 0, 1) := by decide +kernel
theorem dX7_reading_12 : decode cX7_reading 12 = .ok (.ldc 19, 2) := by decide +kernel
theorem dX7_reading_14 : decode cX7_reading 14 = .ok (.invokestatic 65, 3) := by decide +kernel
theorem dX7_reading_17 : decode cX7_reading 17 = .ok (.ifCond .ne 6, 3) := by decide +kernel
theorem dX7_reading_20 : decode cX7_reading 20 = .ok (.bipush (-2), 2) := by decide +kernel
theorem dX7_reading_22 : decode cX7_reading 22 = .ok (.ireturn, 1) := by decide +kernel
theorem dX7_reading_23 : decode cX7_reading 23 = .ok (.aload_n 0, 1) := by decide +kernel
theorem dX7_reading_24 : decode cX7_reading 24 = .ok (.getfield 117, 3) := by decide +kernel
theorem dX7_reading_27 : decode cX7_reading 27 = .ok (.bipush 8, 2) := by decide +kernel
theorem dX7_reading_29 : decode cX7_reading 29 = .ok (.if_icmp .ne 6, 3) := by decide +kernel
theorem dX7_reading_32 : decode cX7_reading 32 = .ok (.bipush (-4), 2) := by decide +kernel
theorem dX7_reading_34 : decode cX7_reading 34 = .ok (.ireturn, 1) := by decide +kernel
theorem dX7_reading_35 : decode cX7_reading 35 = .ok (.aload_n 0, 1) := by decide +kernel
theorem dX7_reading_36 : decode cX7_reading 36 = .ok (.getfield 54, 3) := by decide +kernel
theorem dX7_reading_39 : decode cX7_reading 39 = .ok (.aload_n 0, 1) := by decide +kernel
theorem dX7_reading_40 : decode cX7_reading 40 = .ok (.getfield 117, 3) := by decide +kernel
theorem dX7_reading_43 : decode cX7_reading 43 = .ok (.iload_n 1, 1) := by decide +kernel
theorem dX7_reading_44 : decode cX7_reading 44 = .ok (.iastore, 1) := by decide +kernel
theorem dX7_reading_45 : decode cX7_reading 45 = .ok (.aload_n 0, 1) := by decide +kernel
theorem dX7_reading_46 : decode cX7_reading 46 = .ok (.getfield 57, 3) := by decide +kernel
end
section
theorem dX7_reading_49 : decode cX7_reading 49 = .ok (.aload_n 0, 1) := by decide +kernel
theorem dX7_reading_50 : decode cX7_reading 50 = .ok (.getfield 117, 3) := by decide +kernel
theorem dX7_reading_53 : decode cX7_reading 53 = .ok (.iload_n 2, 1) := by decide +kernel
theorem dX7_reading_54 : decode cX7_reading 54 = .ok (.iastore, 1) := by decide +kernel
theorem dX7_reading_55 : decode cX7_reading 55 = .ok (.aload_n 0, 1) := by decide +kernel
theorem dX7_reading_56 : decode cX7_reading 56 = .ok (.dup, 1) := by decide +kernel
theorem dX7_reading_57 : decode cX7_reading 57 = .ok (.getfield 117, 3) := by decide +kernel
theorem dX7_reading_60 : decode cX7_reading 60 = .ok (.iconst 1, 1) := by decide +kernel
theorem dX7_reading_61 : decode cX7_reading 61 = .ok (.iadd, 1) := by decide +kernel
theorem dX7_reading_62 : decode cX7_reading 62 = .ok (.putfield 117, 3) := by decide +kernel
theorem dX7_reading_65 : decode cX7_reading 65 = .ok (.aload_n 0, 1) := by decide +kernel
theorem dX7_reading_66 : decode cX7_reading 66 = .ok (.getfield 117, 3) := by decide +kernel
theorem dX7_reading_69 : decode cX7_reading 69 = .ok (.iconst 1, 1) := by decide +kernel
theorem dX7_reading_70 : decode cX7_reading 70 = .ok (.isub, 1) := by decide +kernel
theorem dX7_reading_71 : decode cX7_reading 71 = .ok (.ireturn, 1) := by decide +kernel
theorem dX7_back_0 : decode cX7_back 0 = .ok (.iload_n 1, 1) := by decide +kernel
theorem dX7_back_1 : decode cX7_back 1 = .ok (.iconst 0, 1) := by decide +kernel
theorem dX7_back_2 : decode cX7_back 2 = .ok (.aload_n 0, 1) := by decide +kernel
theorem dX7_back_3 : decode cX7_back 3 = .ok (.getfield 117, 3) := by decide +kernel
theorem dX7_back_6 : decode cX7_back 6 = .ok (.invokestatic 65, 3) := by decide +kernel
theorem dX7_back_9 : decode cX7_back 9 = .ok (.ifCond .ne 6, 3) := by decide +kernel
theorem dX7_back_12 : decode cX7_back 12 = .ok (.bipush (-2), 2) := by decide +kernel
theorem dX7_back_14 : decode cX7_back 14 = .ok (.ireturn, 1) := by decide +kernel
theorem dX7_back_15 : decode cX7_back 15 = .ok (.aload_n 0, 1) := by decide +kernel
theorem dX7_back_16 : decode cX7_back 16 = .ok (.dup, 1) := by decide +kernel
theorem dX7_back_17 : decode cX7_back 17 = .ok (.getfield 117, 3) := by decide +kernel
theorem dX7_back_20 : decode cX7_back 20 = .ok (.iload_n 1, 1) := by decide +kernel
theorem dX7_back_21 : decode cX7_back 21 = .ok (.isub, 1) := by decide +kernel
theorem dX7_back_22 : decode cX7_back 22 = .ok (.putfield 117, 3) := by decide +kernel
theorem dX7_back_25 : decode cX7_back 25 = .ok (.aload_n 0, 1) := by decide +kernel
theorem dX7_back_26 : decode cX7_back 26 = .ok (.getfield 117, 3) := by decide +kernel
theorem dX7_back_29 : decode cX7_back 29 = .ok (.ireturn, 1) := by decide +kernel
theorem dX7_areSo_0 : decode cX7_areSo 0 = .ok (.aload_n 0, 1) := by decide +kernel
theorem dX7_areSo_1 : decode cX7_areSo 1 = .ok (.aload_n 0, 1) := by decide +kernel
theorem dX7_areSo_2 : decode cX7_areSo 2 = .ok (.invokevirtual 143, 3) := by decide +kernel
theorem dX7_areSo_5 : decode cX7_areSo 5 = .ok (.invokevirtual 147, 3) := by decide +kernel
theorem dX7_areSo_8 : decode cX7_areSo 8 = .ok (.istore_n 1, 1) := by decide +kernel
theorem dX7_areSo_9 : decode cX7_areSo 9 = .ok (.iconst 0, 1) := by decide +kernel
theorem dX7_areSo_10 : decode cX7_areSo 10 = .ok (.istore_n 2, 1) := by decide +kernel
theorem dX7_areSo_11 : decode cX7_areSo 11 = .ok (.iload_n 2, 1) := by decide +kernel
theorem dX7_areSo_12 : decode cX7_areSo 12 = .ok (.aload_n 0, 1) := by decide +kernel
theorem dX7_areSo_13 : decode cX7_areSo 13 = .ok (.getfield 117, 3) := by decide +kernel
theorem dX7_areSo_16 : decode cX7_areSo 16 = .ok (.if_icmp .ge 34, 3) := by decide +kernel
theorem dX7_areSo_19 : decode cX7_areSo 19 = .ok (.aload_n 0, 1) := by decide +kernel
theorem dX7_areSo_20 : decode cX7_areSo 20 = .ok (.aload_n 0, 1) := by decide +kernel
theorem dX7_areSo_21 : decode cX7_areSo 21 = .ok (.getfield 54, 3) := by decide +kernel
theorem dX7_areSo_24 : decode cX7_areSo 24 = .ok (.iload_n 2, 1) := by decide +kernel
theorem dX7_areSo_25 : decode cX7_areSo 25 = .ok (.iaload, 1) := by decide +kernel
theorem dX7_areSo_26 : decode cX7_areSo 26 = .ok (.invokevirtual 136, 3) := by decide +kernel
theorem dX7_areSo_29 : decode cX7_areSo 29 = .ok (.iload_n 1, 1) := by decide +kernel
theorem dX7_areSo_30 : decode cX7_areSo 30 = .ok (.invokestatic 150, 3) := by decide +kernel
theorem dX7_areSo_33 : decode cX7_areSo 33 = .ok (.aload_n 0, 1) := by decide +kernel
theorem dX7_areSo_34 : decode cX7_areSo 34 = .ok (.getfield 57, 3) := by decide +kernel
theorem dX7_areSo_37 : decode cX7_areSo 37 = .ok (.iload_n 2, 1) := by decide +kernel
theorem dX7_areSo_38 : decode cX7_areSo 38 = .ok (.iaload, 1) := by decide +kernel
theorem dX7_areSo_39 : decode cX7_areSo 39 = .ok (.if_icmp .eq 5, 3) := by decide +kernel
theorem dX7_areSo_42 : decode cX7_areSo 42 = .ok (.iconst 0, 1) := by decide +kernel
theorem dX7_areSo_43 : decode cX7_areSo 43 = .ok (.ireturn, 1) := by decide +kernel
theorem dX7_areSo_44 : decode cX7_areSo 44 = .ok (.iinc 2 1, 3) := by decide +kernel
theorem dX7_areSo_47 : decode cX7_areSo 47 = .ok (.goto (-36), 3) := by decide +kernel
theorem dX7_areSo_50 : decode cX7_areSo 50 = .ok (.iconst 1, 1) := by decide +kernel
theorem dX7_areSo_51 : decode cX7_areSo 51 = .ok (.ireturn, 1) := by decide +kernel
theorem dX7_kinds_0 : decode cX7_kinds 0 = .ok (.aload_n 0, 1) := by decide +kernel
theorem dX7_kinds_1 : decode cX7_kinds 1 = .ok (.iload_n 1, 1) := by decide +kernel
theorem dX7_kinds_2 : decode cX7_kinds 2 = .ok (.invokevirtual 163, 3) := by decide +kernel
theorem dX7_kinds_5 : decode cX7_kinds 5 = .ok (.ifCond .ne 5, 3) := by decide +kernel
theorem dX7_kinds_8 : decode cX7_kinds 8 = .ok (.iconst (-1), 1) := by decide +kernel
theorem dX7_kinds_9 : decode cX7_kinds 9 = .ok (.ireturn, 1) := by decide +kernel
theorem dX7_kinds_10 : decode cX7_kinds 10 = .ok (.aload_n 0, 1) := by decide +kernel
theorem dX7_kinds_11 : decode cX7_kinds 11 = .ok (.getfield 30, 3) := by decide +kernel
theorem dX7_kinds_14 : decode cX7_kinds 14 = .ok (.iload_n 1, 1) := by decide +kernel
theorem dX7_kinds_15 : decode cX7_kinds 15 = .ok (.iaload, 1) := by decide +kernel
theorem dX7_kinds_16 : decode cX7_kinds 16 = .ok (.istore_n 2, 1) := by decide +kernel
theorem dX7_kinds_17 : decode cX7_kinds 17 = .ok (.iconst 0, 1) := by decide +kernel
theorem dX7_kinds_18 : decode cX7_kinds 18 = .ok (.istore_n 3, 1) := by decide +kernel
theorem dX7_kinds_19 : decode cX7_kinds 19 = .ok (.iconst 0, 1) := by decide +kernel
theorem dX7_kinds_20 : decode cX7_kinds 20 = .ok (.istore 4, 2) := by decide +kernel
theorem dX7_kinds_22 : decode cX7_kinds 22 = .ok (.iload 4, 2) := by decide +kernel
theorem dX7_kinds_24 : decode cX7_kinds 24 = .ok (.iconst 3, 1) := by decide +kernel
theorem dX7_kinds_25 : decode cX7_kinds 25 = .ok (.if_icmp .ge 35, 3) := by decide +kernel
theorem dX7_kinds_28 : decode cX7_kinds 28 = .ok (.aload_n 0, 1) := by decide +kernel
theorem dX7_kinds_29 : decode cX7_kinds 29 = .ok (.getfield 30, 3) := by decide +kernel
theorem dX7_kinds_32 : decode cX7_kinds 32 = .ok (.iload_n 1, 1) := by decide +kernel
theorem dX7_kinds_33 : decode cX7_kinds 33 = .ok (.iload 4, 2) := by decide +kernel
theorem dX7_kinds_35 : decode cX7_kinds 35 = .ok (.iastore, 1) := by decide +kernel
theorem dX7_kinds_36 : decode cX7_kinds 36 = .ok (.iload_n 3, 1) := by decide +kernel
theorem dX7_kinds_37 : decode cX7_kinds 37 = .ok (.aload_n 0, 1) := by decide +kernel
theorem dX7_kinds_38 : decode cX7_kinds 38 = .ok (.invokevirtual 209, 3) := by decide +kernel
theorem dX7_kinds_41 : decode cX7_kinds 41 = .ok (.ifCond .eq 10, 3) := by decide +kernel
theorem dX7_kinds_44 : decode cX7_kinds 44 = .ok (.iconst 1, 1) := by decide +kernel
theorem dX7_kinds_45 : decode cX7_kinds 45 = .ok (.iload 4, 2) := by decide +kernel
theorem dX7_kinds_47 : decode cX7_kinds 47 = .ok (.ishl, 1) := by decide +kernel
theorem dX7_kinds_48 : decode cX7_kinds 48 = .ok (.goto 4, 3) := by decide +kernel
theorem dX7_kinds_51 : decode cX7_kinds 51 = .ok (.iconst 0, 1) := by decide +kernel
theorem dX7_kinds_52 : decode cX7_kinds 52 = .ok (.ior, 1) := by decide +kernel
theorem dX7_kinds_53 : decode cX7_kinds 53 = .ok (.istore_n 3, 1) := by decide +kernel
theorem dX7_kinds_54 : decode cX7_kinds 54 = .ok (.iinc 4 1, 3) := by decide +kernel
theorem dX7_kinds_57 : decode cX7_kinds 57 = .ok (.goto (-35), 3) := by decide +kernel
theorem dX7_kinds_60 : decode cX7_kinds 60 = .ok (.aload_n 0, 1) := by decide +kernel
theorem dX7_kinds_61 : decode cX7_kinds 61 = .ok (.getfield 30, 3) := by decide +kernel
theorem dX7_kinds_64 : decode cX7_kinds 64 = .ok (.iload_n 1, 1) := by decide +kernel
theorem dX7_kinds_65 : decode cX7_kinds 65 = .ok (.iload_n 2, 1) := by decide +kernel
theorem dX7_kinds_66 : decode cX7_kinds 66 = .ok (.iastore, 1) := by decide +kernel
theorem dX7_kinds_67 : decode cX7_kinds 67 = .ok (.iload_n 3, 1) := by decide +kernel
theorem dX7_kinds_68 : decode cX7_kinds 68 = .ok (.ireturn, 1) := by decide +kernel
theorem dX7_bulks_0 : decode cX7_bulks 0 = .ok (.aload_n 0, 1) := by decide +kernel
theorem dX7_bulks_1 : decode cX7_bulks 1 = .ok (.iload_n 1, 1) := by decide +kernel
theorem dX7_bulks_2 : decode cX7_bulks 2 = .ok (.invokevirtual 163, 3) := by decide +kernel
theorem dX7_bulks_5 : decode cX7_bulks 5 = .ok (.ifCond .ne 5, 3) := by decide +kernel
theorem dX7_bulks_8 : decode cX7_bulks 8 = .ok (.iconst (-1), 1) := by decide +kernel
theorem dX7_bulks_9 : decode cX7_bulks 9 = .ok (.ireturn, 1) := by decide +kernel
theorem dX7_bulks_10 : decode cX7_bulks 10 = .ok (.aload_n 0, 1) := by decide +kernel
theorem dX7_bulks_11 : decode cX7_bulks 11 = .ok (.getfield 33, 3) := by decide +kernel
theorem dX7_bulks_14 : decode cX7_bulks 14 = .ok (.iload_n 1, 1) := by decide +kernel
theorem dX7_bulks_15 : decode cX7_bulks 15 = .ok (.iaload, 1) := by decide +kernel
theorem dX7_bulks_16 : decode cX7_bulks 16 = .ok (.istore_n 2, 1) := by decide +kernel
theorem dX7_bulks_17 : decode cX7_bulks 17 = .ok (.iconst 0, 1) := by decide +kernel
theorem dX7_bulks_18 : decode cX7_bulks 18 = .ok (.istore_n 3, 1) := by decide +kernel
theorem dX7_bulks_19 : decode cX7_bulks 19 = .ok (.iconst 1, 1) := by decide +kernel
theorem dX7_bulks_20 : decode cX7_bulks 20 = .ok (.istore 4, 2) := by decide +kernel
theorem dX7_bulks_22 : decode cX7_bulks 22 = .ok (.iload 4, 2) := by decide +kernel
theorem dX7_bulks_24 : decode cX7_bulks 24 = .ok (.bipush 9, 2) := by decide +kernel
theorem dX7_bulks_26 : decode cX7_bulks 26 = .ok (.if_icmp .gt 35, 3) := by decide +kernel
theorem dX7_bulks_29 : decode cX7_bulks 29 = .ok (.aload_n 0, 1) := by decide +kernel
theorem dX7_bulks_30 : decode cX7_bulks 30 = .ok (.getfield 33, 3) := by decide +kernel
theorem dX7_bulks_33 : decode cX7_bulks 33 = .ok (.iload_n 1, 1) := by decide +kernel
theorem dX7_bulks_34 : decode cX7_bulks 34 = .ok (.iload 4, 2) := by decide +kernel
theorem dX7_bulks_36 : decode cX7_bulks 36 = .ok (.iastore, 1) := by decide +kernel
theorem dX7_bulks_37 : decode cX7_bulks 37 = .ok (.iload_n 3, 1) := by decide +kernel
theorem dX7_bulks_38 : decode cX7_bulks 38 = .ok (.aload_n 0, 1) := by decide +kernel
theorem dX7_bulks_39 : decode cX7_bulks 39 = .ok (.invokevirtual 209, 3) := by decide +kernel
theorem dX7_bulks_42 : decode cX7_bulks 42 = .ok (.ifCond .eq 10, 3) := by decide +kernel
theorem dX7_bulks_45 : decode cX7_bulks 45 = .ok (.iconst 1, 1) := by decide +kernel
theorem dX7_bulks_46 : decode cX7_bulks 46 = .ok (.iload 4, 2) := by decide +kernel
theorem dX7_bulks_48 : decode cX7_bulks 48 = .ok (.ishl, 1) := by decide +kernel
theorem dX7_bulks_49 : decode cX7_bulks 49 = .ok (.goto 4, 3) := by decide +kernel
theorem dX7_bulks_52 : decode cX7_bulks 52 = .ok (.iconst 0, 1) := by decide +kernel
theorem dX7_bulks_53 : decode cX7_bulks 53 = .ok (.ior, 1) := by decide +kernel
theorem dX7_bulks_54 : decode cX7_bulks 54 = .ok (.istore_n 3, 1) := by decide +kernel
theorem dX7_bulks_55 : decode cX7_bulks 55 = .ok (.iinc 4 1, 3) := by decide +kernel
theorem dX7_bulks_58 : decode cX7_bulks 58 = .ok (.goto (-36), 3) := by decide +kernel
theorem dX7_bulks_61 : decode cX7_bulks 61 = .ok (.aload_n 0, 1) := by decide +kernel
theorem dX7_bulks_62 : decode cX7_bulks 62 = .ok (.getfield 33, 3) := by decide +kernel
theorem dX7_bulks_65 : decode cX7_bulks 65 = .ok (.iload_n 1, 1) := by decide +kernel
theorem dX7_bulks_66 : decode cX7_bulks 66 = .ok (.iload_n 2, 1) := by decide +kernel
theorem dX7_bulks_67 : decode cX7_bulks 67 = .ok (.iastore, 1) := by decide +kernel
theorem dX7_bulks_68 : decode cX7_bulks 68 = .ok (.iload_n 3, 1) := by decide +kernel
theorem dX7_bulks_69 : decode cX7_bulks 69 = .ok (.ireturn, 1) := by decide +kernel
theorem dX7_inLeastTerms_0 : decode cX7_inLeastTerms 0 = .ok (.lload_n 0, 1) := by decide +kernel
theorem dX7_inLeastTerms_1 : decode cX7_inLeastTerms 1 = .ok (.lstore 5, 2) := by decide +kernel
theorem dX7_inLeastTerms_3 : decode cX7_inLeastTerms 3 = .ok (.lload_n 2, 1) := by decide +kernel
theorem dX7_inLeastTerms_4 : decode cX7_inLeastTerms 4 = .ok (.lstore 7, 2) := by decide +kernel
theorem dX7_inLeastTerms_6 : decode cX7_inLeastTerms 6 = .ok (.lload 7, 2) := by decide +kernel
theorem dX7_inLeastTerms_8 : decode cX7_inLeastTerms 8 = .ok (.lconst 0, 1) := by decide +kernel
theorem dX7_inLeastTerms_9 : decode cX7_inLeastTerms 9 = .ok (.lcmp, 1) := by decide +kernel
theorem dX7_inLeastTerms_10 : decode cX7_inLeastTerms 10 = .ok (.ifCond .eq 21, 3) := by decide +kernel
theorem dX7_inLeastTerms_13 : decode cX7_inLeastTerms 13 = .ok (.lload 5, 2) := by decide +kernel
theorem dX7_inLeastTerms_15 : decode cX7_inLeastTerms 15 = .ok (.lload 7, 2) := by decide +kernel
theorem dX7_inLeastTerms_17 : decode cX7_inLeastTerms 17 = .ok (.lrem, 1) := by decide +kernel
theorem dX7_inLeastTerms_18 : decode cX7_inLeastTerms 18 = .ok (.lstore 9, 2) := by decide +kernel
theorem dX7_inLeastTerms_20 : decode cX7_inLeastTerms 20 = .ok (.lload 7, 2) := by decide +kernel
theorem dX7_inLeastTerms_22 : decode cX7_inLeastTerms 22 = .ok (.lstore 5, 2) := by decide +kernel
theorem dX7_inLeastTerms_24 : decode cX7_inLeastTerms 24 = .ok (.lload 9, 2) := by decide +kernel
theorem dX7_inLeastTerms_26 : decode cX7_inLeastTerms 26 = .ok (.lstore 7, 2) := by decide +kernel
theorem dX7_inLeastTerms_28 : decode cX7_inLeastTerms 28 = .ok (.goto (-22), 3) := by decide +kernel
theorem dX7_inLeastTerms_31 : decode cX7_inLeastTerms 31 = .ok (.iload 4, 2) := by decide +kernel
theorem dX7_inLeastTerms_33 : decode cX7_inLeastTerms 33 = .ok (.ifCond .ne 10, 3) := by decide +kernel
theorem dX7_inLeastTerms_36 : decode cX7_inLeastTerms 36 = .ok (.lload_n 0, 1) := by decide +kernel
theorem dX7_inLeastTerms_37 : decode cX7_inLeastTerms 37 = .ok (.lload 5, 2) := by decide +kernel
theorem dX7_inLeastTerms_39 : decode cX7_inLeastTerms 39 = .ok (.ldiv, 1) := by decide +kernel
theorem dX7_inLeastTerms_40 : decode cX7_inLeastTerms 40 = .ok (.goto 7, 3) := by decide +kernel
theorem dX7_inLeastTerms_43 : decode cX7_inLeastTerms 43 = .ok (.lload_n 2, 1) := by decide +kernel
theorem dX7_inLeastTerms_44 : decode cX7_inLeastTerms 44 = .ok (.lload 5, 2) := by decide +kernel
theorem dX7_inLeastTerms_46 : decode cX7_inLeastTerms 46 = .ok (.ldiv, 1) := by decide +kernel
theorem dX7_inLeastTerms_47 : decode cX7_inLeastTerms 47 = .ok (.lreturn, 1) := by decide +kernel
theorem dX7_odds_0 : decode cX7_odds 0 = .ok (.aload_n 0, 1) := by decide +kernel
theorem dX7_odds_1 : decode cX7_odds 1 = .ok (.getfield 69, 3) := by decide +kernel
theorem dX7_odds_4 : decode cX7_odds 4 = .ok (.ifCond .eq 22, 3) := by decide +kernel
theorem dX7_odds_7 : decode cX7_odds 7 = .ok (.iload_n 1, 1) := by decide +kernel
theorem dX7_odds_8 : decode cX7_odds 8 = .ok (.iconst 0, 1) := by decide +kernel
theorem dX7_odds_9 : decode cX7_odds 9 = .ok (.bipush 6, 2) := by decide +kernel
theorem dX7_odds_11 : decode cX7_odds 11 = .ok (.invokestatic 65, 3) := by decide +kernel
theorem dX7_odds_14 : decode cX7_odds 14 = .ok (.ifCond .eq 12, 3) := by decide +kernel
theorem dX7_odds_17 : decode cX7_odds 17 = .ok (.iload_n 2, 1) := by decide +kernel
theorem dX7_odds_18 : decode cX7_odds 18 = .ok (.iconst 0, 1) := by decide +kernel
theorem dX7_odds_19 : decode cX7_odds 19 = .ok (.iconst 1, 1) := by decide +kernel
theorem dX7_odds_20 : decode cX7_odds 20 = .ok (.invokestatic 65, 3) := by decide +kernel
theorem dX7_odds_23 : decode cX7_odds 23 = .ok (.ifCond .ne 7, 3) := by decide +kernel
theorem dX7_odds_26 : decode cX7_odds 26 = .ok (.ldc2_w 63, 3) := by decide +kernel
theorem dX7_odds_29 : decode cX7_odds 29 = .ok (.lreturn, 1) := by decide +kernel
theorem dX7_odds_30 : decode cX7_odds 30 = .ok (.iconst 0, 1) := by decide +kernel
theorem dX7_odds_31 : decode cX7_odds 31 = .ok (.istore_n 3, 1) := by decide +kernel
theorem dX7_odds_32 : decode cX7_odds 32 = .ok (.iconst 0, 1) := by decide +kernel
theorem dX7_odds_33 : decode cX7_odds 33 = .ok (.istore 4, 2) := by decide +kernel
theorem dX7_odds_35 : decode cX7_odds 35 = .ok (.iconst 0, 1) := by decide +kernel
theorem dX7_odds_36 : decode cX7_odds 36 = .ok (.istore 5, 2) := by decide +kernel
theorem dX7_odds_38 : decode cX7_odds 38 = .ok (.iload 5, 2) := by decide +kernel
theorem dX7_odds_40 : decode cX7_odds 40 = .ok (.aload_n 0, 1) := by decide +kernel
theorem dX7_odds_41 : decode cX7_odds 41 = .ok (.invokevirtual 143, 3) := by decide +kernel
theorem dX7_odds_44 : decode cX7_odds 44 = .ok (.if_icmp .gt 49, 3) := by decide +kernel
theorem dX7_odds_47 : decode cX7_odds 47 = .ok (.iload 5, 2) := by decide +kernel
theorem dX7_odds_49 : decode cX7_odds 49 = .ok (.aload_n 0, 1) := by decide +kernel
theorem dX7_odds_50 : decode cX7_odds 50 = .ok (.getfield 111, 3) := by decide +kernel
theorem dX7_odds_53 : decode cX7_odds 53 = .ok (.iand, 1) := by decide +kernel
theorem dX7_odds_54 : decode cX7_odds 54 = .ok (.aload_n 0, 1) := by decide +kernel
theorem dX7_odds_55 : decode cX7_odds 55 = .ok (.getfield 105, 3) := by decide +kernel
theorem dX7_odds_58 : decode cX7_odds 58 = .ok (.aload_n 0, 1) := by decide +kernel
theorem dX7_odds_59 : decode cX7_odds 59 = .ok (.getfield 111, 3) := by decide +kernel
theorem dX7_odds_62 : decode cX7_odds 62 = .ok (.iand, 1) := by decide +kernel
theorem dX7_odds_63 : decode cX7_odds 63 = .ok (.if_icmp .ne 24, 3) := by decide +kernel
theorem dX7_odds_66 : decode cX7_odds 66 = .ok (.iinc 4 1, 3) := by decide +kernel
theorem dX7_odds_69 : decode cX7_odds 69 = .ok (.iload_n 3, 1) := by decide +kernel
theorem dX7_odds_70 : decode cX7_odds 70 = .ok (.aload_n 0, 1) := by decide +kernel
theorem dX7_odds_71 : decode cX7_odds 71 = .ok (.iload 5, 2) := by decide +kernel
theorem dX7_odds_73 : decode cX7_odds 73 = .ok (.invokevirtual 160, 3) := by decide +kernel
theorem dX7_odds_76 : decode cX7_odds 76 = .ok (.iload_n 1, 1) := by decide +kernel
theorem dX7_odds_77 : decode cX7_odds 77 = .ok (.if_icmp .gt 7, 3) := by decide +kernel
theorem dX7_odds_80 : decode cX7_odds 80 = .ok (.iconst 1, 1) := by decide +kernel
theorem dX7_odds_81 : decode cX7_odds 81 = .ok (.goto 4, 3) := by decide +kernel
theorem dX7_odds_84 : decode cX7_odds 84 = .ok (.iconst 0, 1) := by decide +kernel
theorem dX7_odds_85 : decode cX7_odds 85 = .ok (.iadd, 1) := by decide +kernel
theorem dX7_odds_86 : decode cX7_odds 86 = .ok (.istore_n 3, 1) := by decide +kernel
theorem dX7_odds_87 : decode cX7_odds 87 = .ok (.iinc 5 1, 3) := by decide +kernel
theorem dX7_odds_90 : decode cX7_odds 90 = .ok (.goto (-52), 3) := by decide +kernel
theorem dX7_odds_93 : decode cX7_odds 93 = .ok (.iload_n 3, 1) := by decide +kernel
theorem dX7_odds_94 : decode cX7_odds 94 = .ok (.i2l, 1) := by decide +kernel
theorem dX7_odds_95 : decode cX7_odds 95 = .ok (.iload 4, 2) := by decide +kernel
theorem dX7_odds_97 : decode cX7_odds 97 = .ok (.i2l, 1) := by decide +kernel
theorem dX7_odds_98 : decode cX7_odds 98 = .ok (.iload_n 2, 1) := by decide +kernel
theorem dX7_odds_99 : decode cX7_odds 99 = .ok (.invokestatic 213, 3) := by decide +kernel
theorem dX7_odds_102 : decode cX7_odds 102 = .ok (.lreturn, 1) := by decide +kernel
theorem dX7_sheet_0 : decode cX7_sheet 0 = .ok (.aload_n 0, 1) := by decide +kernel
theorem dX7_sheet_1 : decode cX7_sheet 1 = .ok (.iconst 0, 1) := by decide +kernel
theorem dX7_sheet_2 : decode cX7_sheet 2 = .ok (.putfield 60, 3) := by decide +kernel
theorem dX7_sheet_5 : decode cX7_sheet 5 = .ok (.iload_n 1, 1) := by decide +kernel
theorem dX7_sheet_6 : decode cX7_sheet 6 = .ok (.invokestatic 75, 3) := by decide +kernel
theorem dX7_sheet_9 : decode cX7_sheet 9 = .ok (.ifCond .ne 5, 3) := by decide +kernel
theorem dX7_sheet_12 : decode cX7_sheet 12 = .ok (.iconst (-1), 1) := by decide +kernel
theorem dX7_sheet_13 : decode cX7_sheet 13 = .ok (.ireturn, 1) := by decide +kernel
theorem dX7_sheet_14 : decode cX7_sheet 14 = .ok (.iload_n 2, 1) := by decide +kernel
theorem dX7_sheet_15 : decode cX7_sheet 15 = .ok (.invokestatic 79, 3) := by decide +kernel
theorem dX7_sheet_18 : decode cX7_sheet 18 = .ok (.ifCond .eq 9, 3) := by decide +kernel
theorem dX7_sheet_21 : decode cX7_sheet 21 = .ok (.iload_n 3, 1) := by decide +kernel
theorem dX7_sheet_22 : decode cX7_sheet 22 = .ok (.bipush 60, 2) := by decide +kernel
theorem dX7_sheet_24 : decode cX7_sheet 24 = .ok (.if_icmp .le 6, 3) := by decide +kernel
theorem dX7_sheet_27 : decode cX7_sheet 27 = .ok (.bipush (-2), 2) := by decide +kernel
theorem dX7_sheet_29 : decode cX7_sheet 29 = .ok (.ireturn, 1) := by decide +kernel
theorem dX7_sheet_30 : decode cX7_sheet 30 = .ok (.iload_n 3, 1) := by decide +kernel
theorem dX7_sheet_31 : decode cX7_sheet 31 = .ok (.ifCond .ge 9, 3) := by decide +kernel
theorem dX7_sheet_34 : decode cX7_sheet 34 = .ok (.aload_n 0, 1) := by decide +kernel
theorem dX7_sheet_35 : decode cX7_sheet 35 = .ok (.iconst 4, 1) := by decide +kernel
theorem dX7_sheet_36 : decode cX7_sheet 36 = .ok (.invokevirtual 86, 3) := by decide +kernel
theorem dX7_sheet_39 : decode cX7_sheet 39 = .ok (.ireturn, 1) := by decide +kernel
theorem dX7_sheet_40 : decode cX7_sheet 40 = .ok (.aload_n 0, 1) := by decide +kernel
theorem dX7_sheet_41 : decode cX7_sheet 41 = .ok (.getfield 9, 3) := by decide +kernel
theorem dX7_sheet_44 : decode cX7_sheet 44 = .ok (.iload_n 1, 1) := by decide +kernel
theorem dX7_sheet_45 : decode cX7_sheet 45 = .ok (.iload_n 2, 1) := by decide +kernel
theorem dX7_sheet_46 : decode cX7_sheet 46 = .ok (.iastore, 1) := by decide +kernel
theorem dX7_sheet_47 : decode cX7_sheet 47 = .ok (.aload_n 0, 1) := by decide +kernel
theorem dX7_sheet_48 : decode cX7_sheet 48 = .ok (.getfield 13, 3) := by decide +kernel
theorem dX7_sheet_51 : decode cX7_sheet 51 = .ok (.iload_n 1, 1) := by decide +kernel
theorem dX7_sheet_52 : decode cX7_sheet 52 = .ok (.iload_n 3, 1) := by decide +kernel
theorem dX7_sheet_53 : decode cX7_sheet 53 = .ok (.iastore, 1) := by decide +kernel
theorem dX7_sheet_54 : decode cX7_sheet 54 = .ok (.iconst 0, 1) := by decide +kernel
theorem dX7_sheet_55 : decode cX7_sheet 55 = .ok (.istore 4, 2) := by decide +kernel
theorem dX7_sheet_57 : decode cX7_sheet 57 = .ok (.iload 4, 2) := by decide +kernel
theorem dX7_sheet_59 : decode cX7_sheet 59 = .ok (.bipush 60, 2) := by decide +kernel
theorem dX7_sheet_61 : decode cX7_sheet 61 = .ok (.if_icmp .ge 22, 3) := by decide +kernel
theorem dX7_sheet_64 : decode cX7_sheet 64 = .ok (.aload_n 0, 1) := by decide +kernel
theorem dX7_sheet_65 : decode cX7_sheet 65 = .ok (.getfield 16, 3) := by decide +kernel
theorem dX7_sheet_68 : decode cX7_sheet 68 = .ok (.bipush 60, 2) := by decide +kernel
theorem dX7_sheet_70 : decode cX7_sheet 70 = .ok (.iload_n 1, 1) := by decide +kernel
theorem dX7_sheet_71 : decode cX7_sheet 71 = .ok (.imul, 1) := by decide +kernel
theorem dX7_sheet_72 : decode cX7_sheet 72 = .ok (.iload 4, 2) := by decide +kernel
theorem dX7_sheet_74 : decode cX7_sheet 74 = .ok (.iadd, 1) := by decide +kernel
theorem dX7_sheet_75 : decode cX7_sheet 75 = .ok (.iconst 0, 1) := by decide +kernel
theorem dX7_sheet_76 : decode cX7_sheet 76 = .ok (.iastore, 1) := by decide +kernel
theorem dX7_sheet_77 : decode cX7_sheet 77 = .ok (.iinc 4 1, 3) := by decide +kernel
theorem dX7_sheet_80 : decode cX7_sheet 80 = .ok (.goto (-23), 3) := by decide +kernel
theorem dX7_sheet_83 : decode cX7_sheet 83 = .ok (.iconst 1, 1) := by decide +kernel
theorem dX7_sheet_84 : decode cX7_sheet 84 = .ok (.ireturn, 1) := by decide +kernel
theorem dX7_lose_0 : decode cX7_lose 0 = .ok (.iload_n 1, 1) := by decide +kernel
theorem dX7_lose_1 : decode cX7_lose 1 = .ok (.invokestatic 75, 3) := by decide +kernel
theorem dX7_lose_4 : decode cX7_lose 4 = .ok (.ifCond .ne 5, 3) := by decide +kernel
theorem dX7_lose_7 : decode cX7_lose 7 = .ok (.iconst (-1), 1) := by decide +kernel
theorem dX7_lose_8 : decode cX7_lose 8 = .ok (.ireturn, 1) := by decide +kernel
theorem dX7_lose_9 : decode cX7_lose 9 = .ok (.aload_n 0, 1) := by decide +kernel
theorem dX7_lose_10 : decode cX7_lose 10 = .ok (.getfield 9, 3) := by decide +kernel
theorem dX7_lose_13 : decode cX7_lose 13 = .ok (.iload_n 1, 1) := by decide +kernel
theorem dX7_lose_14 : decode cX7_lose 14 = .ok (.iaload, 1) := by decide +kernel
theorem dX7_lose_15 : decode cX7_lose 15 = .ok (.bipush (-9), 2) := by decide +kernel
theorem dX7_lose_17 : decode cX7_lose 17 = .ok (.if_icmp .ne 7, 3) := by decide +kernel
theorem dX7_lose_20 : decode cX7_lose 20 = .ok (.iconst 0, 1) := by decide +kernel
theorem dX7_lose_21 : decode cX7_lose 21 = .ok (.goto 4, 3) := by decide +kernel
theorem dX7_lose_24 : decode cX7_lose 24 = .ok (.iconst 1, 1) := by decide +kernel
theorem dX7_lose_25 : decode cX7_lose 25 = .ok (.istore_n 2, 1) := by decide +kernel
theorem dX7_lose_26 : decode cX7_lose 26 = .ok (.aload_n 0, 1) := by decide +kernel
theorem dX7_lose_27 : decode cX7_lose 27 = .ok (.getfield 9, 3) := by decide +kernel
theorem dX7_lose_30 : decode cX7_lose 30 = .ok (.iload_n 1, 1) := by decide +kernel
theorem dX7_lose_31 : decode cX7_lose 31 = .ok (.bipush (-9), 2) := by decide +kernel
theorem dX7_lose_33 : decode cX7_lose 33 = .ok (.iastore, 1) := by decide +kernel
theorem dX7_lose_34 : decode cX7_lose 34 = .ok (.iload_n 2, 1) := by decide +kernel
theorem dX7_lose_35 : decode cX7_lose 35 = .ok (.ireturn, 1) := by decide +kernel
theorem dX7_put_0 : decode cX7_put 0 = .ok (.aload_n 0, 1) := by decide +kernel
theorem dX7_put_1 : decode cX7_put 1 = .ok (.iconst 0, 1) := by decide +kernel
theorem dX7_put_2 : decode cX7_put 2 = .ok (.putfield 60, 3) := by decide +kernel
theorem dX7_put_5 : decode cX7_put 5 = .ok (.iload_n 1, 1) := by decide +kernel
theorem dX7_put_6 : decode cX7_put 6 = .ok (.invokestatic 75, 3) := by decide +kernel
theorem dX7_put_9 : decode cX7_put 9 = .ok (.ifCond .ne 5, 3) := by decide +kernel
theorem dX7_put_12 : decode cX7_put 12 = .ok (.iconst (-1), 1) := by decide +kernel
theorem dX7_put_13 : decode cX7_put 13 = .ok (.ireturn, 1) := by decide +kernel
theorem dX7_put_14 : decode cX7_put 14 = .ok (.aload_n 0, 1) := by decide +kernel
theorem dX7_put_15 : decode cX7_put 15 = .ok (.getfield 9, 3) := by decide +kernel
theorem dX7_put_18 : decode cX7_put 18 = .ok (.iload_n 1, 1) := by decide +kernel
theorem dX7_put_19 : decode cX7_put 19 = .ok (.iaload, 1) := by decide +kernel
theorem dX7_put_20 : decode cX7_put 20 = .ok (.bipush (-9), 2) := by decide +kernel
theorem dX7_put_22 : decode cX7_put 22 = .ok (.if_icmp .ne 9, 3) := by decide +kernel
theorem dX7_put_25 : decode cX7_put 25 = .ok (.aload_n 0, 1) := by decide +kernel
theorem dX7_put_26 : decode cX7_put 26 = .ok (.iconst 1, 1) := by decide +kernel
theorem dX7_put_27 : decode cX7_put 27 = .ok (.invokevirtual 86, 3) := by decide +kernel
theorem dX7_put_30 : decode cX7_put 30 = .ok (.ireturn, 1) := by decide +kernel
theorem dX7_put_31 : decode cX7_put 31 = .ok (.iload_n 2, 1) := by decide +kernel
theorem dX7_put_32 : decode cX7_put 32 = .ok (.iconst 0, 1) := by decide +kernel
theorem dX7_put_33 : decode cX7_put 33 = .ok (.aload_n 0, 1) := by decide +kernel
theorem dX7_put_34 : decode cX7_put 34 = .ok (.getfield 13, 3) := by decide +kernel
theorem dX7_put_37 : decode cX7_put 37 = .ok (.iload_n 1, 1) := by decide +kernel
theorem dX7_put_38 : decode cX7_put 38 = .ok (.iaload, 1) := by decide +kernel
theorem dX7_put_39 : decode cX7_put 39 = .ok (.iconst 1, 1) := by decide +kernel
theorem dX7_put_40 : decode cX7_put 40 = .ok (.isub, 1) := by decide +kernel
theorem dX7_put_41 : decode cX7_put 41 = .ok (.invokestatic 65, 3) := by decide +kernel
theorem dX7_put_44 : decode cX7_put 44 = .ok (.ifCond .ne 9, 3) := by decide +kernel
theorem dX7_put_47 : decode cX7_put 47 = .ok (.aload_n 0, 1) := by decide +kernel
theorem dX7_put_48 : decode cX7_put 48 = .ok (.iconst 3, 1) := by decide +kernel
theorem dX7_put_49 : decode cX7_put 49 = .ok (.invokevirtual 86, 3) := by decide +kernel
theorem dX7_put_52 : decode cX7_put 52 = .ok (.ireturn, 1) := by decide +kernel
theorem dX7_put_53 : decode cX7_put 53 = .ok (.aload_n 0, 1) := by decide +kernel
theorem dX7_put_54 : decode cX7_put 54 = .ok (.getfield 16, 3) := by decide +kernel
theorem dX7_put_57 : decode cX7_put 57 = .ok (.bipush 60, 2) := by decide +kernel
theorem dX7_put_59 : decode cX7_put 59 = .ok (.iload_n 1, 1) := by decide +kernel
theorem dX7_put_60 : decode cX7_put 60 = .ok (.imul, 1) := by decide +kernel
theorem dX7_put_61 : decode cX7_put 61 = .ok (.iload_n 2, 1) := by decide +kernel
theorem dX7_put_62 : decode cX7_put 62 = .ok (.iadd, 1) := by decide +kernel
theorem dX7_put_63 : decode cX7_put 63 = .ok (.aload_n 0, 1) := by decide +kernel
theorem dX7_put_64 : decode cX7_put 64 = .ok (.getfield 9, 3) := by decide +kernel
theorem dX7_put_67 : decode cX7_put 67 = .ok (.iload_n 1, 1) := by decide +kernel
theorem dX7_put_68 : decode cX7_put 68 = .ok (.iaload, 1) := by decide +kernel
theorem dX7_put_69 : decode cX7_put 69 = .ok (.ifCond .ne 8, 3) := by decide +kernel
theorem dX7_put_72 : decode cX7_put 72 = .ok (.iload_n 3, 1) := by decide +kernel
theorem dX7_put_73 : decode cX7_put 73 = .ok (.i2b, 1) := by decide +kernel
theorem dX7_put_74 : decode cX7_put 74 = .ok (.goto 19, 3) := by decide +kernel
theorem dX7_put_77 : decode cX7_put 77 = .ok (.aload_n 0, 1) := by decide +kernel
theorem dX7_put_78 : decode cX7_put 78 = .ok (.getfield 9, 3) := by decide +kernel
theorem dX7_put_81 : decode cX7_put 81 = .ok (.iload_n 1, 1) := by decide +kernel
theorem dX7_put_82 : decode cX7_put 82 = .ok (.iaload, 1) := by decide +kernel
theorem dX7_put_83 : decode cX7_put 83 = .ok (.iconst 1, 1) := by decide +kernel
theorem dX7_put_84 : decode cX7_put 84 = .ok (.if_icmp .ne 8, 3) := by decide +kernel
theorem dX7_put_87 : decode cX7_put 87 = .ok (.iload_n 3, 1) := by decide +kernel
theorem dX7_put_88 : decode cX7_put 88 = .ok (.i2s, 1) := by decide +kernel
theorem dX7_put_89 : decode cX7_put 89 = .ok (.goto 4, 3) := by decide +kernel
theorem dX7_put_92 : decode cX7_put 92 = .ok (.iload_n 3, 1) := by decide +kernel
theorem dX7_put_93 : decode cX7_put 93 = .ok (.iastore, 1) := by decide +kernel
theorem dX7_put_94 : decode cX7_put 94 = .ok (.iconst 1, 1) := by decide +kernel
theorem dX7_put_95 : decode cX7_put 95 = .ok (.ireturn, 1) := by decide +kernel
theorem dX7_cell_0 : decode cX7_cell 0 = .ok (.aload_n 0, 1) := by decide +kernel
theorem dX7_cell_1 : decode cX7_cell 1 = .ok (.iconst 0, 1) := by decide +kernel
theorem dX7_cell_2 : decode cX7_cell 2 = .ok (.putfield 60, 3) := by decide +kernel
theorem dX7_cell_5 : decode cX7_cell 5 = .ok (.iload_n 1, 1) := by decide +kernel
theorem dX7_cell_6 : decode cX7_cell 6 = .ok (.invokestatic 75, 3) := by decide +kernel
theorem dX7_cell_9 : decode cX7_cell 9 = .ok (.ifCond .eq 10, 3) := by decide +kernel
theorem dX7_cell_12 : decode cX7_cell 12 = .ok (.iload_n 3, 1) := by decide +kernel
theorem dX7_cell_13 : decode cX7_cell 13 = .ok (.invokestatic 79, 3) := by decide +kernel
theorem dX7_cell_16 : decode cX7_cell 16 = .ok (.ifCond .ne 7, 3) := by decide +kernel
theorem dX7_cell_19 : decode cX7_cell 19 = .ok (.ldc2_w 63, 3) := by decide +kernel
theorem dX7_cell_22 : decode cX7_cell 22 = .ok (.lreturn, 1) := by decide +kernel
theorem dX7_cell_23 : decode cX7_cell 23 = .ok (.aload_n 0, 1) := by decide +kernel
theorem dX7_cell_24 : decode cX7_cell 24 = .ok (.getfield 9, 3) := by decide +kernel
theorem dX7_cell_27 : decode cX7_cell 27 = .ok (.iload_n 1, 1) := by decide +kernel
theorem dX7_cell_28 : decode cX7_cell 28 = .ok (.iaload, 1) := by decide +kernel
theorem dX7_cell_29 : decode cX7_cell 29 = .ok (.bipush (-9), 2) := by decide +kernel
theorem dX7_cell_31 : decode cX7_cell 31 = .ok (.if_icmp .eq 19, 3) := by decide +kernel
theorem dX7_cell_34 : decode cX7_cell 34 = .ok (.aload_n 0, 1) := by decide +kernel
theorem dX7_cell_35 : decode cX7_cell 35 = .ok (.getfield 9, 3) := by decide +kernel
theorem dX7_cell_38 : decode cX7_cell 38 = .ok (.iload_n 1, 1) := by decide +kernel
theorem dX7_cell_39 : decode cX7_cell 39 = .ok (.iaload, 1) := by decide +kernel
theorem dX7_cell_40 : decode cX7_cell 40 = .ok (.iload_n 3, 1) := by decide +kernel
theorem dX7_cell_41 : decode cX7_cell 41 = .ok (.if_icmp .eq 9, 3) := by decide +kernel
theorem dX7_cell_44 : decode cX7_cell 44 = .ok (.aload_n 0, 1) := by decide +kernel
theorem dX7_cell_45 : decode cX7_cell 45 = .ok (.iconst 2, 1) := by decide +kernel
theorem dX7_cell_46 : decode cX7_cell 46 = .ok (.invokevirtual 217, 3) := by decide +kernel
theorem dX7_cell_49 : decode cX7_cell 49 = .ok (.lreturn, 1) := by decide +kernel
theorem dX7_cell_50 : decode cX7_cell 50 = .ok (.aload_n 0, 1) := by decide +kernel
theorem dX7_cell_51 : decode cX7_cell 51 = .ok (.getfield 9, 3) := by decide +kernel
theorem dX7_cell_54 : decode cX7_cell 54 = .ok (.iload_n 1, 1) := by decide +kernel
theorem dX7_cell_55 : decode cX7_cell 55 = .ok (.iaload, 1) := by decide +kernel
theorem dX7_cell_56 : decode cX7_cell 56 = .ok (.bipush (-9), 2) := by decide +kernel
theorem dX7_cell_58 : decode cX7_cell 58 = .ok (.if_icmp .ne 9, 3) := by decide +kernel
theorem dX7_cell_61 : decode cX7_cell 61 = .ok (.aload_n 0, 1) := by decide +kernel
theorem dX7_cell_62 : decode cX7_cell 62 = .ok (.iconst 1, 1) := by decide +kernel
theorem dX7_cell_63 : decode cX7_cell 63 = .ok (.invokevirtual 217, 3) := by decide +kernel
theorem dX7_cell_66 : decode cX7_cell 66 = .ok (.lreturn, 1) := by decide +kernel
theorem dX7_cell_67 : decode cX7_cell 67 = .ok (.iload_n 2, 1) := by decide +kernel
theorem dX7_cell_68 : decode cX7_cell 68 = .ok (.iconst 0, 1) := by decide +kernel
theorem dX7_cell_69 : decode cX7_cell 69 = .ok (.aload_n 0, 1) := by decide +kernel
theorem dX7_cell_70 : decode cX7_cell 70 = .ok (.getfield 13, 3) := by decide +kernel
theorem dX7_cell_73 : decode cX7_cell 73 = .ok (.iload_n 1, 1) := by decide +kernel
theorem dX7_cell_74 : decode cX7_cell 74 = .ok (.iaload, 1) := by decide +kernel
theorem dX7_cell_75 : decode cX7_cell 75 = .ok (.iconst 1, 1) := by decide +kernel
theorem dX7_cell_76 : decode cX7_cell 76 = .ok (.isub, 1) := by decide +kernel
theorem dX7_cell_77 : decode cX7_cell 77 = .ok (.invokestatic 65, 3) := by decide +kernel
theorem dX7_cell_80 : decode cX7_cell 80 = .ok (.ifCond .ne 9, 3) := by decide +kernel
theorem dX7_cell_83 : decode cX7_cell 83 = .ok (.aload_n 0, 1) := by decide +kernel
theorem dX7_cell_84 : decode cX7_cell 84 = .ok (.iconst 3, 1) := by decide +kernel
theorem dX7_cell_85 : decode cX7_cell 85 = .ok (.invokevirtual 217, 3) := by decide +kernel
theorem dX7_cell_88 : decode cX7_cell 88 = .ok (.lreturn, 1) := by decide +kernel
theorem dX7_cell_89 : decode cX7_cell 89 = .ok (.aload_n 0, 1) := by decide +kernel
theorem dX7_cell_90 : decode cX7_cell 90 = .ok (.getfield 16, 3) := by decide +kernel
theorem dX7_cell_93 : decode cX7_cell 93 = .ok (.bipush 60, 2) := by decide +kernel
theorem dX7_cell_95 : decode cX7_cell 95 = .ok (.iload_n 1, 1) := by decide +kernel
theorem dX7_cell_96 : decode cX7_cell 96 = .ok (.imul, 1) := by decide +kernel
theorem dX7_cell_97 : decode cX7_cell 97 = .ok (.iload_n 2, 1) := by decide +kernel
theorem dX7_cell_98 : decode cX7_cell 98 = .ok (.iadd, 1) := by decide +kernel
theorem dX7_cell_99 : decode cX7_cell 99 = .ok (.iaload, 1) := by decide +kernel
theorem dX7_cell_100 : decode cX7_cell 100 = .ok (.i2l, 1) := by decide +kernel
theorem dX7_cell_101 : decode cX7_cell 101 = .ok (.lreturn, 1) := by decide +kernel
theorem dX7_copy_0 : decode cX7_copy 0 = .ok (.aload_n 0, 1) := by decide +kernel
theorem dX7_copy_1 : decode cX7_copy 1 = .ok (.iconst 0, 1) := by decide +kernel
theorem dX7_copy_2 : decode cX7_copy 2 = .ok (.putfield 60, 3) := by decide +kernel
theorem dX7_copy_5 : decode cX7_copy 5 = .ok (.iload_n 1, 1) := by decide +kernel
theorem dX7_copy_6 : decode cX7_copy 6 = .ok (.invokestatic 75, 3) := by decide +kernel
theorem dX7_copy_9 : decode cX7_copy 9 = .ok (.ifCond .eq 10, 3) := by decide +kernel
theorem dX7_copy_12 : decode cX7_copy 12 = .ok (.iload_n 3, 1) := by decide +kernel
theorem dX7_copy_13 : decode cX7_copy 13 = .ok (.invokestatic 75, 3) := by decide +kernel
theorem dX7_copy_16 : decode cX7_copy 16 = .ok (.ifCond .ne 5, 3) := by decide +kernel
theorem dX7_copy_19 : decode cX7_copy 19 = .ok (.iconst (-1), 1) := by decide +kernel
theorem dX7_copy_20 : decode cX7_copy 20 = .ok (.ireturn, 1) := by decide +kernel
theorem dX7_copy_21 : decode cX7_copy 21 = .ok (.aload_n 0, 1) := by decide +kernel
theorem dX7_copy_22 : decode cX7_copy 22 = .ok (.getfield 9, 3) := by decide +kernel
theorem dX7_copy_25 : decode cX7_copy 25 = .ok (.iload_n 1, 1) := by decide +kernel
theorem dX7_copy_26 : decode cX7_copy 26 = .ok (.iaload, 1) := by decide +kernel
theorem dX7_copy_27 : decode cX7_copy 27 = .ok (.bipush (-9), 2) := by decide +kernel
theorem dX7_copy_29 : decode cX7_copy 29 = .ok (.if_icmp .eq 14, 3) := by decide +kernel
theorem dX7_copy_32 : decode cX7_copy 32 = .ok (.aload_n 0, 1) := by decide +kernel
theorem dX7_copy_33 : decode cX7_copy 33 = .ok (.getfield 9, 3) := by decide +kernel
theorem dX7_copy_36 : decode cX7_copy 36 = .ok (.iload_n 3, 1) := by decide +kernel
theorem dX7_copy_37 : decode cX7_copy 37 = .ok (.iaload, 1) := by decide +kernel
theorem dX7_copy_38 : decode cX7_copy 38 = .ok (.bipush (-9), 2) := by decide +kernel
theorem dX7_copy_40 : decode cX7_copy 40 = .ok (.if_icmp .ne 9, 3) := by decide +kernel
theorem dX7_copy_43 : decode cX7_copy 43 = .ok (.aload_n 0, 1) := by decide +kernel
theorem dX7_copy_44 : decode cX7_copy 44 = .ok (.iconst 1, 1) := by decide +kernel
theorem dX7_copy_45 : decode cX7_copy 45 = .ok (.invokevirtual 86, 3) := by decide +kernel
theorem dX7_copy_48 : decode cX7_copy 48 = .ok (.ireturn, 1) := by decide +kernel
theorem dX7_copy_49 : decode cX7_copy 49 = .ok (.aload_n 0, 1) := by decide +kernel
theorem dX7_copy_50 : decode cX7_copy 50 = .ok (.getfield 9, 3) := by decide +kernel
theorem dX7_copy_53 : decode cX7_copy 53 = .ok (.iload_n 1, 1) := by decide +kernel
theorem dX7_copy_54 : decode cX7_copy 54 = .ok (.iaload, 1) := by decide +kernel
theorem dX7_copy_55 : decode cX7_copy 55 = .ok (.aload_n 0, 1) := by decide +kernel
theorem dX7_copy_56 : decode cX7_copy 56 = .ok (.getfield 9, 3) := by decide +kernel
theorem dX7_copy_59 : decode cX7_copy 59 = .ok (.iload_n 3, 1) := by decide +kernel
theorem dX7_copy_60 : decode cX7_copy 60 = .ok (.iaload, 1) := by decide +kernel
theorem dX7_copy_61 : decode cX7_copy 61 = .ok (.if_icmp .eq 9, 3) := by decide +kernel
theorem dX7_copy_64 : decode cX7_copy 64 = .ok (.aload_n 0, 1) := by decide +kernel
theorem dX7_copy_65 : decode cX7_copy 65 = .ok (.iconst 2, 1) := by decide +kernel
theorem dX7_copy_66 : decode cX7_copy 66 = .ok (.invokevirtual 86, 3) := by decide +kernel
theorem dX7_copy_69 : decode cX7_copy 69 = .ok (.ireturn, 1) := by decide +kernel
theorem dX7_copy_70 : decode cX7_copy 70 = .ok (.iload_n 2, 1) := by decide +kernel
theorem dX7_copy_71 : decode cX7_copy 71 = .ok (.ifCond .lt 38, 3) := by decide +kernel
theorem dX7_copy_74 : decode cX7_copy 74 = .ok (.iload 4, 2) := by decide +kernel
theorem dX7_copy_76 : decode cX7_copy 76 = .ok (.ifCond .lt 33, 3) := by decide +kernel
theorem dX7_copy_79 : decode cX7_copy 79 = .ok (.iload 5, 2) := by decide +kernel
theorem dX7_copy_81 : decode cX7_copy 81 = .ok (.ifCond .lt 28, 3) := by decide +kernel
theorem dX7_copy_84 : decode cX7_copy 84 = .ok (.iload_n 2, 1) := by decide +kernel
theorem dX7_copy_85 : decode cX7_copy 85 = .ok (.aload_n 0, 1) := by decide +kernel
theorem dX7_copy_86 : decode cX7_copy 86 = .ok (.getfield 13, 3) := by decide +kernel
theorem dX7_copy_89 : decode cX7_copy 89 = .ok (.iload_n 1, 1) := by decide +kernel
theorem dX7_copy_90 : decode cX7_copy 90 = .ok (.iaload, 1) := by decide +kernel
theorem dX7_copy_91 : decode cX7_copy 91 = .ok (.if_icmp .gt 18, 3) := by decide +kernel
theorem dX7_copy_94 : decode cX7_copy 94 = .ok (.iload 4, 2) := by decide +kernel
theorem dX7_copy_96 : decode cX7_copy 96 = .ok (.aload_n 0, 1) := by decide +kernel
theorem dX7_copy_97 : decode cX7_copy 97 = .ok (.getfield 13, 3) := by decide +kernel
theorem dX7_copy_100 : decode cX7_copy 100 = .ok (.iload_n 3, 1) := by decide +kernel
theorem dX7_copy_101 : decode cX7_copy 101 = .ok (.iaload, 1) := by decide +kernel
theorem dX7_copy_102 : decode cX7_copy 102 = .ok (.if_icmp .gt 7, 3) := by decide +kernel
theorem dX7_copy_105 : decode cX7_copy 105 = .ok (.iconst 1, 1) := by decide +kernel
theorem dX7_copy_106 : decode cX7_copy 106 = .ok (.goto 4, 3) := by decide +kernel
theorem dX7_copy_109 : decode cX7_copy 109 = .ok (.iconst 0, 1) := by decide +kernel
theorem dX7_copy_110 : decode cX7_copy 110 = .ok (.istore 6, 2) := by decide +kernel
theorem dX7_copy_112 : decode cX7_copy 112 = .ok (.iload 6, 2) := by decide +kernel
theorem dX7_copy_114 : decode cX7_copy 114 = .ok (.ifCond .eq 30, 3) := by decide +kernel
theorem dX7_copy_117 : decode cX7_copy 117 = .ok (.iload 5, 2) := by decide +kernel
theorem dX7_copy_119 : decode cX7_copy 119 = .ok (.aload_n 0, 1) := by decide +kernel
theorem dX7_copy_120 : decode cX7_copy 120 = .ok (.getfield 13, 3) := by decide +kernel
theorem dX7_copy_123 : decode cX7_copy 123 = .ok (.iload_n 1, 1) := by decide +kernel
theorem dX7_copy_124 : decode cX7_copy 124 = .ok (.iaload, 1) := by decide +kernel
theorem dX7_copy_125 : decode cX7_copy 125 = .ok (.iload_n 2, 1) := by decide +kernel
theorem dX7_copy_126 : decode cX7_copy 126 = .ok (.isub, 1) := by decide +kernel
theorem dX7_copy_127 : decode cX7_copy 127 = .ok (.if_icmp .gt 17, 3) := by decide +kernel
theorem dX7_copy_130 : decode cX7_copy 130 = .ok (.iload 5, 2) := by decide +kernel
theorem dX7_copy_132 : decode cX7_copy 132 = .ok (.aload_n 0, 1) := by decide +kernel
theorem dX7_copy_133 : decode cX7_copy 133 = .ok (.getfield 13, 3) := by decide +kernel
theorem dX7_copy_136 : decode cX7_copy 136 = .ok (.iload_n 3, 1) := by decide +kernel
theorem dX7_copy_137 : decode cX7_copy 137 = .ok (.iaload, 1) := by decide +kernel
theorem dX7_copy_138 : decode cX7_copy 138 = .ok (.iload 4, 2) := by decide +kernel
theorem dX7_copy_140 : decode cX7_copy 140 = .ok (.isub, 1) := by decide +kernel
theorem dX7_copy_141 : decode cX7_copy 141 = .ok (.if_icmp .le 9, 3) := by decide +kernel
theorem dX7_copy_144 : decode cX7_copy 144 = .ok (.aload_n 0, 1) := by decide +kernel
theorem dX7_copy_145 : decode cX7_copy 145 = .ok (.iconst 3, 1) := by decide +kernel
theorem dX7_copy_146 : decode cX7_copy 146 = .ok (.invokevirtual 86, 3) := by decide +kernel
theorem dX7_copy_149 : decode cX7_copy 149 = .ok (.ireturn, 1) := by decide +kernel
theorem dX7_copy_150 : decode cX7_copy 150 = .ok (.iload_n 2, 1) := by decide +kernel
theorem dX7_copy_151 : decode cX7_copy 151 = .ok (.iload 4, 2) := by decide +kernel
theorem dX7_copy_153 : decode cX7_copy 153 = .ok (.if_icmp .ge 7, 3) := by decide +kernel
theorem dX7_copy_156 : decode cX7_copy 156 = .ok (.iconst 1, 1) := by decide +kernel
theorem dX7_copy_157 : decode cX7_copy 157 = .ok (.goto 4, 3) := by decide +kernel
theorem dX7_copy_160 : decode cX7_copy 160 = .ok (.iconst 0, 1) := by decide +kernel
theorem dX7_copy_161 : decode cX7_copy 161 = .ok (.istore 7, 2) := by decide +kernel
theorem dX7_copy_163 : decode cX7_copy 163 = .ok (.iconst 0, 1) := by decide +kernel
theorem dX7_copy_164 : decode cX7_copy 164 = .ok (.istore 8, 2) := by decide +kernel
theorem dX7_copy_166 : decode cX7_copy 166 = .ok (.iload 8, 2) := by decide +kernel
theorem dX7_copy_168 : decode cX7_copy 168 = .ok (.iload 5, 2) := by decide +kernel
theorem dX7_copy_170 : decode cX7_copy 170 = .ok (.if_icmp .ge 57, 3) := by decide +kernel
theorem dX7_copy_173 : decode cX7_copy 173 = .ok (.iload 7, 2) := by decide +kernel
theorem dX7_copy_175 : decode cX7_copy 175 = .ok (.ifCond .eq 13, 3) := by decide +kernel
theorem dX7_copy_178 : decode cX7_copy 178 = .ok (.iload 5, 2) := by decide +kernel
theorem dX7_copy_180 : decode cX7_copy 180 = .ok (.iconst 1, 1) := by decide +kernel
theorem dX7_copy_181 : decode cX7_copy 181 = .ok (.isub, 1) := by decide +kernel
theorem dX7_copy_182 : decode cX7_copy 182 = .ok (.iload 8, 2) := by decide +kernel
theorem dX7_copy_184 : decode cX7_copy 184 = .ok (.isub, 1) := by decide +kernel
theorem dX7_copy_185 : decode cX7_copy 185 = .ok (.goto 5, 3) := by decide +kernel
theorem dX7_copy_188 : decode cX7_copy 188 = .ok (.iload 8, 2) := by decide +kernel
theorem dX7_copy_190 : decode cX7_copy 190 = .ok (.istore 9, 2) := by decide +kernel
theorem dX7_copy_192 : decode cX7_copy 192 = .ok (.aload_n 0, 1) := by decide +kernel
theorem dX7_copy_193 : decode cX7_copy 193 = .ok (.getfield 16, 3) := by decide +kernel
theorem dX7_copy_196 : decode cX7_copy 196 = .ok (.bipush 60, 2) := by decide +kernel
theorem dX7_copy_198 : decode cX7_copy 198 = .ok (.iload_n 3, 1) := by decide +kernel
theorem dX7_copy_199 : decode cX7_copy 199 = .ok (.imul, 1) := by decide +kernel
theorem dX7_copy_200 : decode cX7_copy 200 = .ok (.iload 4, 2) := by decide +kernel
theorem dX7_copy_202 : decode cX7_copy 202 = .ok (.iadd, 1) := by decide +kernel
theorem dX7_copy_203 : decode cX7_copy 203 = .ok (.iload 9, 2) := by decide +kernel
theorem dX7_copy_205 : decode cX7_copy 205 = .ok (.iadd, 1) := by decide +kernel
theorem dX7_copy_206 : decode cX7_copy 206 = .ok (.aload_n 0, 1) := by decide +kernel
theorem dX7_copy_207 : decode cX7_copy 207 = .ok (.getfield 16, 3) := by decide +kernel
theorem dX7_copy_210 : decode cX7_copy 210 = .ok (.bipush 60, 2) := by decide +kernel
theorem dX7_copy_212 : decode cX7_copy 212 = .ok (.iload_n 1, 1) := by decide +kernel
theorem dX7_copy_213 : decode cX7_copy 213 = .ok (.imul, 1) := by decide +kernel
theorem dX7_copy_214 : decode cX7_copy 214 = .ok (.iload_n 2, 1) := by decide +kernel
theorem dX7_copy_215 : decode cX7_copy 215 = .ok (.iadd, 1) := by decide +kernel
theorem dX7_copy_216 : decode cX7_copy 216 = .ok (.iload 9, 2) := by decide +kernel
theorem dX7_copy_218 : decode cX7_copy 218 = .ok (.iadd, 1) := by decide +kernel
theorem dX7_copy_219 : decode cX7_copy 219 = .ok (.iaload, 1) := by decide +kernel
theorem dX7_copy_220 : decode cX7_copy 220 = .ok (.iastore, 1) := by decide +kernel
theorem dX7_copy_221 : decode cX7_copy 221 = .ok (.iinc 8 1, 3) := by decide +kernel
theorem dX7_copy_224 : decode cX7_copy 224 = .ok (.goto (-58), 3) := by decide +kernel
theorem dX7_copy_227 : decode cX7_copy 227 = .ok (.iload 5, 2) := by decide +kernel
theorem dX7_copy_229 : decode cX7_copy 229 = .ok (.ireturn, 1) := by decide +kernel
theorem dX7_begins_0 : decode cX7_begins 0 = .ok (.aload_n 0, 1) := by decide +kernel
theorem dX7_begins_1 : decode cX7_begins 1 = .ok (.bipush 31, 2) := by decide +kernel
theorem dX7_begins_3 : decode cX7_begins 3 = .ok (.aload_n 0, 1) := by decide +kernel
theorem dX7_begins_4 : decode cX7_begins 4 = .ok (.getfield 221, 3) := by decide +kernel
theorem dX7_begins_7 : decode cX7_begins 7 = .ok (.imul, 1) := by decide +kernel
theorem dX7_begins_8 : decode cX7_begins 8 = .ok (.iload_n 1, 1) := by decide +kernel
theorem dX7_begins_9 : decode cX7_begins 9 = .ok (.iadd, 1) := by decide +kernel
theorem dX7_begins_10 : decode cX7_begins 10 = .ok (.putfield 221, 3) := by decide +kernel
theorem dX7_begins_13 : decode cX7_begins 13 = .ok (.return_, 1) := by decide +kernel
theorem dX7_tell_0 : decode cX7_tell 0 = .ok (.aload_n 0, 1) := by decide +kernel
theorem dX7_tell_1 : decode cX7_tell 1 = .ok (.iload_n 1, 1) := by decide +kernel
theorem dX7_tell_2 : decode cX7_tell 2 = .ok (.invokevirtual 163, 3) := by decide +kernel
theorem dX7_tell_5 : decode cX7_tell 5 = .ok (.ifCond .ne 5, 3) := by decide +kernel
theorem dX7_tell_8 : decode cX7_tell 8 = .ok (.iconst (-1), 1) := by decide +kernel
theorem dX7_tell_9 : decode cX7_tell 9 = .ok (.ireturn, 1) := by decide +kernel
theorem dX7_tell_10 : decode cX7_tell 10 = .ok (.aload_n 0, 1) := by decide +kernel
theorem dX7_tell_11 : decode cX7_tell 11 = .ok (.getfield 33, 3) := by decide +kernel
theorem dX7_tell_14 : decode cX7_tell 14 = .ok (.iload_n 1, 1) := by decide +kernel
theorem dX7_tell_15 : decode cX7_tell 15 = .ok (.iaload, 1) := by decide +kernel
theorem dX7_tell_16 : decode cX7_tell 16 = .ok (.istore_n 2, 1) := by decide +kernel
theorem dX7_tell_17 : decode cX7_tell 17 = .ok (.aload_n 0, 1) := by decide +kernel
theorem dX7_tell_18 : decode cX7_tell 18 = .ok (.getfield 30, 3) := by decide +kernel
theorem dX7_tell_21 : decode cX7_tell 21 = .ok (.iload_n 1, 1) := by decide +kernel
theorem dX7_tell_22 : decode cX7_tell 22 = .ok (.iaload, 1) := by decide +kernel
theorem dX7_tell_23 : decode cX7_tell 23 = .ok (.lookupswitch 67 #[(1, 25), (2, 40)], 25) := by decide +kernel
theorem dX7_tell_48 : decode cX7_tell 48 = .ok (.aload_n 0, 1) := by decide +kernel
theorem dX7_tell_49 : decode cX7_tell 49 = .ok (.iconst 2, 1) := by decide +kernel
theorem dX7_tell_50 : decode cX7_tell 50 = .ok (.invokevirtual 224, 3) := by decide +kernel
theorem dX7_tell_53 : decode cX7_tell 53 = .ok (.aload_n 0, 1) := by decide +kernel
theorem dX7_tell_54 : decode cX7_tell 54 = .ok (.iconst 1, 1) := by decide +kernel
theorem dX7_tell_55 : decode cX7_tell 55 = .ok (.invokevirtual 224, 3) := by decide +kernel
theorem dX7_tell_58 : decode cX7_tell 58 = .ok (.iload_n 2, 1) := by decide +kernel
theorem dX7_tell_59 : decode cX7_tell 59 = .ok (.bipush 100, 2) := by decide +kernel
theorem dX7_tell_61 : decode cX7_tell 61 = .ok (.iadd, 1) := by decide +kernel
theorem dX7_tell_62 : decode cX7_tell 62 = .ok (.ireturn, 1) := by decide +kernel
theorem dX7_tell_63 : decode cX7_tell 63 = .ok (.aload_n 0, 1) := by decide +kernel
theorem dX7_tell_64 : decode cX7_tell 64 = .ok (.iconst 3, 1) := by decide +kernel
theorem dX7_tell_65 : decode cX7_tell 65 = .ok (.invokevirtual 224, 3) := by decide +kernel
theorem dX7_tell_68 : decode cX7_tell 68 = .ok (.aload_n 0, 1) := by decide +kernel
theorem dX7_tell_69 : decode cX7_tell 69 = .ok (.iconst 2, 1) := by decide +kernel
theorem dX7_tell_70 : decode cX7_tell 70 = .ok (.invokevirtual 224, 3) := by decide +kernel
theorem dX7_tell_73 : decode cX7_tell 73 = .ok (.aload_n 0, 1) := by decide +kernel
theorem dX7_tell_74 : decode cX7_tell 74 = .ok (.iconst 1, 1) := by decide +kernel
theorem dX7_tell_75 : decode cX7_tell 75 = .ok (.invokevirtual 224, 3) := by decide +kernel
theorem dX7_tell_78 : decode cX7_tell 78 = .ok (.aload_n 0, 1) := by decide +kernel
theorem dX7_tell_79 : decode cX7_tell 79 = .ok (.iconst 1, 1) := by decide +kernel
theorem dX7_tell_80 : decode cX7_tell 80 = .ok (.invokevirtual 224, 3) := by decide +kernel
theorem dX7_tell_83 : decode cX7_tell 83 = .ok (.iconst 2, 1) := by decide +kernel
theorem dX7_tell_84 : decode cX7_tell 84 = .ok (.iload_n 2, 1) := by decide +kernel
theorem dX7_tell_85 : decode cX7_tell 85 = .ok (.imul, 1) := by decide +kernel
theorem dX7_tell_86 : decode cX7_tell 86 = .ok (.bipush 100, 2) := by decide +kernel
theorem dX7_tell_88 : decode cX7_tell 88 = .ok (.iadd, 1) := by decide +kernel
theorem dX7_tell_89 : decode cX7_tell 89 = .ok (.ireturn, 1) := by decide +kernel
theorem dX7_tell_90 : decode cX7_tell 90 = .ok (.aload_n 0, 1) := by decide +kernel
theorem dX7_tell_91 : decode cX7_tell 91 = .ok (.iconst 1, 1) := by decide +kernel
theorem dX7_tell_92 : decode cX7_tell 92 = .ok (.invokevirtual 224, 3) := by decide +kernel
theorem dX7_tell_95 : decode cX7_tell 95 = .ok (.iload_n 2, 1) := by decide +kernel
theorem dX7_tell_96 : decode cX7_tell 96 = .ok (.ireturn, 1) := by decide +kernel
theorem dX7_probe_0 : decode cX7_probe 0 = .ok (.aload_n 0, 1) := by decide +kernel
theorem dX7_probe_1 : decode cX7_probe 1 = .ok (.iload_n 1, 1) := by decide +kernel
theorem dX7_probe_2 : decode cX7_probe 2 = .ok (.invokevirtual 163, 3) := by decide +kernel
theorem dX7_probe_5 : decode cX7_probe 5 = .ok (.ifCond .ne 5, 3) := by decide +kernel
theorem dX7_probe_8 : decode cX7_probe 8 = .ok (.iconst (-1), 1) := by decide +kernel
theorem dX7_probe_9 : decode cX7_probe 9 = .ok (.ireturn, 1) := by decide +kernel
theorem dX7_probe_10 : decode cX7_probe 10 = .ok (.aload_n 0, 1) := by decide +kernel
theorem dX7_probe_11 : decode cX7_probe 11 = .ok (.aload_n 0, 1) := by decide +kernel
theorem dX7_probe_12 : decode cX7_probe 12 = .ok (.getfield 30, 3) := by decide +kernel
theorem dX7_probe_15 : decode cX7_probe 15 = .ok (.iload_n 1, 1) := by decide +kernel
theorem dX7_probe_16 : decode cX7_probe 16 = .ok (.iaload, 1) := by decide +kernel
theorem dX7_probe_17 : decode cX7_probe 17 = .ok (.iconst 2, 1) := by decide +kernel
theorem dX7_probe_18 : decode cX7_probe 18 = .ok (.if_icmp .ne 7, 3) := by decide +kernel
theorem dX7_probe_21 : decode cX7_probe 21 = .ok (.iconst 5, 1) := by decide +kernel
theorem dX7_probe_22 : decode cX7_probe 22 = .ok (.goto 4, 3) := by decide +kernel
theorem dX7_probe_25 : decode cX7_probe 25 = .ok (.iconst 4, 1) := by decide +kernel
theorem dX7_probe_26 : decode cX7_probe 26 = .ok (.invokevirtual 224, 3) := by decide +kernel
theorem dX7_probe_29 : decode cX7_probe 29 = .ok (.aload_n 0, 1) := by decide +kernel
theorem dX7_probe_30 : decode cX7_probe 30 = .ok (.getfield 30, 3) := by decide +kernel
theorem dX7_probe_33 : decode cX7_probe 33 = .ok (.iload_n 1, 1) := by decide +kernel
theorem dX7_probe_34 : decode cX7_probe 34 = .ok (.iaload, 1) := by decide +kernel
theorem dX7_probe_35 : decode cX7_probe 35 = .ok (.iconst 2, 1) := by decide +kernel
theorem dX7_probe_36 : decode cX7_probe 36 = .ok (.if_icmp .ne 8, 3) := by decide +kernel
theorem dX7_probe_39 : decode cX7_probe 39 = .ok (.bipush 20, 2) := by decide +kernel
theorem dX7_probe_41 : decode cX7_probe 41 = .ok (.goto 11, 3) := by decide +kernel
theorem dX7_probe_44 : decode cX7_probe 44 = .ok (.aload_n 0, 1) := by decide +kernel
theorem dX7_probe_45 : decode cX7_probe 45 = .ok (.iload_n 1, 1) := by decide +kernel
theorem dX7_probe_46 : decode cX7_probe 46 = .ok (.invokevirtual 166, 3) := by decide +kernel
theorem dX7_probe_49 : decode cX7_probe 49 = .ok (.invokestatic 130, 3) := by decide +kernel
theorem dX7_probe_52 : decode cX7_probe 52 = .ok (.ireturn, 1) := by decide +kernel
theorem dX7_as_0 : decode cX7_as 0 = .ok (.aload_n 0, 1) := by decide +kernel
theorem dX7_as_1 : decode cX7_as 1 = .ok (.iconst 0, 1) := by decide +kernel
theorem dX7_as_2 : decode cX7_as 2 = .ok (.putfield 60, 3) := by decide +kernel
theorem dX7_as_5 : decode cX7_as 5 = .ok (.aload_n 0, 1) := by decide +kernel
theorem dX7_as_6 : decode cX7_as 6 = .ok (.iload_n 1, 1) := by decide +kernel
theorem dX7_as_7 : decode cX7_as 7 = .ok (.invokevirtual 163, 3) := by decide +kernel
theorem dX7_as_10 : decode cX7_as 10 = .ok (.ifCond .ne 5, 3) := by decide +kernel
theorem dX7_as_13 : decode cX7_as 13 = .ok (.iconst (-1), 1) := by decide +kernel
theorem dX7_as_14 : decode cX7_as 14 = .ok (.ireturn, 1) := by decide +kernel
theorem dX7_as_15 : decode cX7_as 15 = .ok (.iload_n 2, 1) := by decide +kernel
theorem dX7_as_16 : decode cX7_as 16 = .ok (.iconst 0, 1) := by decide +kernel
theorem dX7_as_17 : decode cX7_as 17 = .ok (.iconst 2, 1) := by decide +kernel
theorem dX7_as_18 : decode cX7_as 18 = .ok (.invokestatic 65, 3) := by decide +kernel
theorem dX7_as_21 : decode cX7_as 21 = .ok (.ifCond .ne 6, 3) := by decide +kernel
theorem dX7_as_24 : decode cX7_as 24 = .ok (.bipush (-2), 2) := by decide +kernel
theorem dX7_as_26 : decode cX7_as 26 = .ok (.ireturn, 1) := by decide +kernel
theorem dX7_as_27 : decode cX7_as 27 = .ok (.aload_n 0, 1) := by decide +kernel
theorem dX7_as_28 : decode cX7_as 28 = .ok (.getfield 30, 3) := by decide +kernel
theorem dX7_as_31 : decode cX7_as 31 = .ok (.iload_n 1, 1) := by decide +kernel
theorem dX7_as_32 : decode cX7_as 32 = .ok (.iaload, 1) := by decide +kernel
theorem dX7_as_33 : decode cX7_as 33 = .ok (.iload_n 2, 1) := by decide +kernel
theorem dX7_as_34 : decode cX7_as 34 = .ok (.if_icmp .lt 7, 3) := by decide +kernel
theorem dX7_as_37 : decode cX7_as 37 = .ok (.iconst 1, 1) := by decide +kernel
theorem dX7_as_38 : decode cX7_as 38 = .ok (.goto 8, 3) := by decide +kernel
theorem dX7_as_41 : decode cX7_as 41 = .ok (.aload_n 0, 1) := by decide +kernel
theorem dX7_as_42 : decode cX7_as 42 = .ok (.iconst 2, 1) := by decide +kernel
theorem dX7_as_43 : decode cX7_as 43 = .ok (.invokevirtual 86, 3) := by decide +kernel
theorem dX7_as_46 : decode cX7_as 46 = .ok (.ireturn, 1) := by decide +kernel
theorem dX7_trace_0 : decode cX7_trace 0 = .ok (.aload_n 0, 1) := by decide +kernel
theorem dX7_trace_1 : decode cX7_trace 1 = .ok (.getfield 221, 3) := by decide +kernel
theorem dX7_trace_4 : decode cX7_trace 4 = .ok (.ireturn, 1) := by decide +kernel
theorem dX7_fault_0 : decode cX7_fault 0 = .ok (.aload_n 0, 1) := by decide +kernel
theorem dX7_fault_1 : decode cX7_fault 1 = .ok (.getfield 60, 3) := by decide +kernel
theorem dX7_fault_4 : decode cX7_fault 4 = .ok (.ireturn, 1) := by decide +kernel
theorem dX7_many_0 : decode cX7_many 0 = .ok (.iload_n 1, 1) := by decide +kernel
theorem dX7_many_1 : decode cX7_many 1 = .ok (.tableswitch 64 0 4 #[35, 40, 45, 54, 59], 35) := by decide +kernel
theorem dX7_many_36 : decode cX7_many 36 = .ok (.aload_n 0, 1) := by decide +kernel
theorem dX7_many_37 : decode cX7_many 37 = .ok (.getfield 69, 3) := by decide +kernel
theorem dX7_many_40 : decode cX7_many 40 = .ok (.ireturn, 1) := by decide +kernel
theorem dX7_many_41 : decode cX7_many 41 = .ok (.aload_n 0, 1) := by decide +kernel
theorem dX7_many_42 : decode cX7_many 42 = .ok (.getfield 99, 3) := by decide +kernel
theorem dX7_many_45 : decode cX7_many 45 = .ok (.ireturn, 1) := by decide +kernel
theorem dX7_many_46 : decode cX7_many 46 = .ok (.aload_n 0, 1) := by decide +kernel
theorem dX7_many_47 : decode cX7_many 47 = .ok (.aload_n 0, 1) := by decide +kernel
theorem dX7_many_48 : decode cX7_many 48 = .ok (.getfield 105, 3) := by decide +kernel
theorem dX7_many_51 : decode cX7_many 51 = .ok (.invokevirtual 160, 3) := by decide +kernel
theorem dX7_many_54 : decode cX7_many 54 = .ok (.ireturn, 1) := by decide +kernel
theorem dX7_many_55 : decode cX7_many 55 = .ok (.aload_n 0, 1) := by decide +kernel
theorem dX7_many_56 : decode cX7_many 56 = .ok (.getfield 114, 3) := by decide +kernel
theorem dX7_many_59 : decode cX7_many 59 = .ok (.ireturn, 1) := by decide +kernel
theorem dX7_many_60 : decode cX7_many 60 = .ok (.aload_n 0, 1) := by decide +kernel
theorem dX7_many_61 : decode cX7_many 61 = .ok (.getfield 117, 3) := by decide +kernel
theorem dX7_many_64 : decode cX7_many 64 = .ok (.ireturn, 1) := by decide +kernel
theorem dX7_many_65 : decode cX7_many 65 = .ok (.bipush (-2), 2) := by decide +kernel
theorem dX7_many_67 : decode cX7_many 67 = .ok (.ireturn, 1) := by decide +kernel
theorem dJ6_bitCount_0f7a4_0 : decode cJ6_bitCount_0f7a4 0 = .ok (.iload_n 0, 1) := by decide +kernel
theorem dJ6_bitCount_0f7a4_1 : decode cJ6_bitCount_0f7a4 1 = .ok (.iload_n 0, 1) := by decide +kernel
theorem dJ6_bitCount_0f7a4_2 : decode cJ6_bitCount_0f7a4 2 = .ok (.iconst 1, 1) := by decide +kernel
theorem dJ6_bitCount_0f7a4_3 : decode cJ6_bitCount_0f7a4 3 = .ok (.iushr, 1) := by decide +kernel
theorem dJ6_bitCount_0f7a4_4 : decode cJ6_bitCount_0f7a4 4 = .ok (.ldc_w 265, 3) := by decide +kernel
theorem dJ6_bitCount_0f7a4_7 : decode cJ6_bitCount_0f7a4 7 = .ok (.iand, 1) := by decide +kernel
theorem dJ6_bitCount_0f7a4_8 : decode cJ6_bitCount_0f7a4 8 = .ok (.isub, 1) := by decide +kernel
theorem dJ6_bitCount_0f7a4_9 : decode cJ6_bitCount_0f7a4 9 = .ok (.istore_n 0, 1) := by decide +kernel
theorem dJ6_bitCount_0f7a4_10 : decode cJ6_bitCount_0f7a4 10 = .ok (.iload_n 0, 1) := by decide +kernel
theorem dJ6_bitCount_0f7a4_11 : decode cJ6_bitCount_0f7a4 11 = .ok (.ldc_w 266, 3) := by decide +kernel
theorem dJ6_bitCount_0f7a4_14 : decode cJ6_bitCount_0f7a4 14 = .ok (.iand, 1) := by decide +kernel
theorem dJ6_bitCount_0f7a4_15 : decode cJ6_bitCount_0f7a4 15 = .ok (.iload_n 0, 1) := by decide +kernel
theorem dJ6_bitCount_0f7a4_16 : decode cJ6_bitCount_0f7a4 16 = .ok (.iconst 2, 1) := by decide +kernel
theorem dJ6_bitCount_0f7a4_17 : decode cJ6_bitCount_0f7a4 17 = .ok (.iushr, 1) := by decide +kernel
theorem dJ6_bitCount_0f7a4_18 : decode cJ6_bitCount_0f7a4 18 = .ok (.ldc_w 266, 3) := by decide +kernel
theorem dJ6_bitCount_0f7a4_21 : decode cJ6_bitCount_0f7a4 21 = .ok (.iand, 1) := by decide +kernel
theorem dJ6_bitCount_0f7a4_22 : decode cJ6_bitCount_0f7a4 22 = .ok (.iadd, 1) := by decide +kernel
theorem dJ6_bitCount_0f7a4_23 : decode cJ6_bitCount_0f7a4 23 = .ok (.istore_n 0, 1) := by decide +kernel
theorem dJ6_bitCount_0f7a4_24 : decode cJ6_bitCount_0f7a4 24 = .ok (.iload_n 0, 1) := by decide +kernel
theorem dJ6_bitCount_0f7a4_25 : decode cJ6_bitCount_0f7a4 25 = .ok (.iload_n 0, 1) := by decide +kernel
theorem dJ6_bitCount_0f7a4_26 : decode cJ6_bitCount_0f7a4 26 = .ok (.iconst 4, 1) := by decide +kernel
theorem dJ6_bitCount_0f7a4_27 : decode cJ6_bitCount_0f7a4 27 = .ok (.iushr, 1) := by decide +kernel
theorem dJ6_bitCount_0f7a4_28 : decode cJ6_bitCount_0f7a4 28 = .ok (.iadd, 1) := by decide +kernel
theorem dJ6_bitCount_0f7a4_29 : decode cJ6_bitCount_0f7a4 29 = .ok (.ldc_w 267, 3) := by decide +kernel
theorem dJ6_bitCount_0f7a4_32 : decode cJ6_bitCount_0f7a4 32 = .ok (.iand, 1) := by decide +kernel
theorem dJ6_bitCount_0f7a4_33 : decode cJ6_bitCount_0f7a4 33 = .ok (.istore_n 0, 1) := by decide +kernel
theorem dJ6_bitCount_0f7a4_34 : decode cJ6_bitCount_0f7a4 34 = .ok (.iload_n 0, 1) := by decide +kernel
theorem dJ6_bitCount_0f7a4_35 : decode cJ6_bitCount_0f7a4 35 = .ok (.iload_n 0, 1) := by decide +kernel
theorem dJ6_bitCount_0f7a4_36 : decode cJ6_bitCount_0f7a4 36 = .ok (.bipush 8, 2) := by decide +kernel
theorem dJ6_bitCount_0f7a4_38 : decode cJ6_bitCount_0f7a4 38 = .ok (.iushr, 1) := by decide +kernel
theorem dJ6_bitCount_0f7a4_39 : decode cJ6_bitCount_0f7a4 39 = .ok (.iadd, 1) := by decide +kernel
theorem dJ6_bitCount_0f7a4_40 : decode cJ6_bitCount_0f7a4 40 = .ok (.istore_n 0, 1) := by decide +kernel
theorem dJ6_bitCount_0f7a4_41 : decode cJ6_bitCount_0f7a4 41 = .ok (.iload_n 0, 1) := by decide +kernel
theorem dJ6_bitCount_0f7a4_42 : decode cJ6_bitCount_0f7a4 42 = .ok (.iload_n 0, 1) := by decide +kernel
theorem dJ6_bitCount_0f7a4_43 : decode cJ6_bitCount_0f7a4 43 = .ok (.bipush 16, 2) := by decide +kernel
theorem dJ6_bitCount_0f7a4_45 : decode cJ6_bitCount_0f7a4 45 = .ok (.iushr, 1) := by decide +kernel
theorem dJ6_bitCount_0f7a4_46 : decode cJ6_bitCount_0f7a4 46 = .ok (.iadd, 1) := by decide +kernel
theorem dJ6_bitCount_0f7a4_47 : decode cJ6_bitCount_0f7a4 47 = .ok (.istore_n 0, 1) := by decide +kernel
theorem dJ6_bitCount_0f7a4_48 : decode cJ6_bitCount_0f7a4 48 = .ok (.iload_n 0, 1) := by decide +kernel
theorem dJ6_bitCount_0f7a4_49 : decode cJ6_bitCount_0f7a4 49 = .ok (.bipush 63, 2) := by decide +kernel
theorem dJ6_bitCount_0f7a4_51 : decode cJ6_bitCount_0f7a4 51 = .ok (.iand, 1) := by decide +kernel
theorem dJ6_bitCount_0f7a4_52 : decode cJ6_bitCount_0f7a4 52 = .ok (.ireturn, 1) := by decide +kernel
theorem dJ9_min_7cf53_0 : decode cJ9_min_7cf53 0 = .ok (.iload_n 0, 1) := by decide +kernel
theorem dJ9_min_7cf53_1 : decode cJ9_min_7cf53 1 = .ok (.iload_n 1, 1) := by decide +kernel
theorem dJ9_min_7cf53_2 : decode cJ9_min_7cf53 2 = .ok (.if_icmp .gt 7, 3) := by decide +kernel
theorem dJ9_min_7cf53_5 : decode cJ9_min_7cf53 5 = .ok (.iload_n 0, 1) := by decide +kernel
theorem dJ9_min_7cf53_6 : decode cJ9_min_7cf53 6 = .ok (.goto 4, 3) := by decide +kernel
theorem dJ9_min_7cf53_9 : decode cJ9_min_7cf53 9 = .ok (.iload_n 1, 1) := by decide +kernel
theorem dJ9_min_7cf53_10 : decode cJ9_min_7cf53 10 = .ok (.ireturn, 1) := by decide +kernel
theorem dJ7_fill_53178_0 : decode cJ7_fill_53178 0 = .ok (.iconst 0, 1) := by decide +kernel
theorem dJ7_fill_53178_1 : decode cJ7_fill_53178 1 = .ok (.istore_n 2, 1) := by decide +kernel
theorem dJ7_fill_53178_2 : decode cJ7_fill_53178 2 = .ok (.aload_n 0, 1) := by decide +kernel
theorem dJ7_fill_53178_3 : decode cJ7_fill_53178 3 = .ok (.arraylength, 1) := by decide +kernel
theorem dJ7_fill_53178_4 : decode cJ7_fill_53178 4 = .ok (.istore_n 3, 1) := by decide +kernel
theorem dJ7_fill_53178_5 : decode cJ7_fill_53178 5 = .ok (.iload_n 2, 1) := by decide +kernel
theorem dJ7_fill_53178_6 : decode cJ7_fill_53178 6 = .ok (.iload_n 3, 1) := by decide +kernel
theorem dJ7_fill_53178_7 : decode cJ7_fill_53178 7 = .ok (.if_icmp .ge 13, 3) := by decide +kernel
theorem dJ7_fill_53178_10 : decode cJ7_fill_53178 10 = .ok (.aload_n 0, 1) := by decide +kernel
theorem dJ7_fill_53178_11 : decode cJ7_fill_53178 11 = .ok (.iload_n 2, 1) := by decide +kernel
theorem dJ7_fill_53178_12 : decode cJ7_fill_53178 12 = .ok (.iload_n 1, 1) := by decide +kernel
theorem dJ7_fill_53178_13 : decode cJ7_fill_53178 13 = .ok (.iastore, 1) := by decide +kernel
theorem dJ7_fill_53178_14 : decode cJ7_fill_53178 14 = .ok (.iinc 2 1, 3) := by decide +kernel
theorem dJ7_fill_53178_17 : decode cJ7_fill_53178 17 = .ok (.goto (-12), 3) := by decide +kernel
theorem dJ7_fill_53178_20 : decode cJ7_fill_53178 20 = .ok (.return_, 1) := by decide +kernel
theorem dL_law_0 : decode cL_law 0 = .ok (.new 7, 3) := by decide +kernel
theorem dL_law_3 : decode cL_law 3 = .ok (.dup, 1) := by decide +kernel
theorem dL_law_4 : decode cL_law 4 = .ok (.invokespecial 9, 3) := by decide +kernel
theorem dL_law_7 : decode cL_law 7 = .ok (.astore_n 1, 1) := by decide +kernel
theorem dL_law_8 : decode cL_law 8 = .ok (.new 10, 3) := by decide +kernel
theorem dL_law_11 : decode cL_law 11 = .ok (.dup, 1) := by decide +kernel
theorem dL_law_12 : decode cL_law 12 = .ok (.invokespecial 12, 3) := by decide +kernel
theorem dL_law_15 : decode cL_law 15 = .ok (.astore_n 2, 1) := by decide +kernel
theorem dL_law_16 : decode cL_law 16 = .ok (.iconst 0, 1) := by decide +kernel
theorem dL_law_17 : decode cL_law 17 = .ok (.istore_n 3, 1) := by decide +kernel
theorem dL_law_18 : decode cL_law 18 = .ok (.iload_n 3, 1) := by decide +kernel
theorem dL_law_19 : decode cL_law 19 = .ok (.aload_n 0, 1) := by decide +kernel
theorem dL_law_20 : decode cL_law 20 = .ok (.arraylength, 1) := by decide +kernel
theorem dL_law_21 : decode cL_law 21 = .ok (.bipush 6, 2) := by decide +kernel
theorem dL_law_23 : decode cL_law 23 = .ok (.isub, 1) := by decide +kernel
theorem dL_law_24 : decode cL_law 24 = .ok (.if_icmp .gt 1183, 3) := by decide +kernel
theorem dL_law_27 : decode cL_law 27 = .ok (.aload_n 0, 1) := by decide +kernel
theorem dL_law_28 : decode cL_law 28 = .ok (.iload_n 3, 1) := by decide +kernel
theorem dL_law_29 : decode cL_law 29 = .ok (.iaload, 1) := by decide +kernel
theorem dL_law_30 : decode cL_law 30 = .ok (.bipush 63, 2) := by decide +kernel
theorem dL_law_32 : decode cL_law 32 = .ok (.iand, 1) := by decide +kernel
theorem dL_law_33 : decode cL_law 33 = .ok (.tableswitch 1168 0 32 #[147, 200, 233, 266, 299, 332, 355, 378, 401, 434, 457, 520, 543, 576, 599, 632, 665, 688, 721, 744, 767, 790, 824, 867, 890, 933, 977, 1040, 1063, 1086, 1119, 1132, 1145], 147) := by decide +kernel
theorem dL_law_180 : decode cL_law 180 = .ok (.aload_n 1, 1) := by decide +kernel
theorem dL_law_181 : decode cL_law 181 = .ok (.aload_n 0, 1) := by decide +kernel
theorem dL_law_182 : decode cL_law 182 = .ok (.iload_n 3, 1) := by decide +kernel
theorem dL_law_183 : decode cL_law 183 = .ok (.iconst 1, 1) := by decide +kernel
theorem dL_law_184 : decode cL_law 184 = .ok (.iadd, 1) := by decide +kernel
theorem dL_law_185 : decode cL_law 185 = .ok (.iaload, 1) := by decide +kernel
theorem dL_law_186 : decode cL_law 186 = .ok (.aload_n 0, 1) := by decide +kernel
theorem dL_law_187 : decode cL_law 187 = .ok (.iload_n 3, 1) := by decide +kernel
theorem dL_law_188 : decode cL_law 188 = .ok (.iconst 2, 1) := by decide +kernel
theorem dL_law_189 : decode cL_law 189 = .ok (.iadd, 1) := by decide +kernel
theorem dL_law_190 : decode cL_law 190 = .ok (.iaload, 1) := by decide +kernel
theorem dL_law_191 : decode cL_law 191 = .ok (.aload_n 0, 1) := by decide +kernel
theorem dL_law_192 : decode cL_law 192 = .ok (.iload_n 3, 1) := by decide +kernel
theorem dL_law_193 : decode cL_law 193 = .ok (.iconst 3, 1) := by decide +kernel
theorem dL_law_194 : decode cL_law 194 = .ok (.iadd, 1) := by decide +kernel
theorem dL_law_195 : decode cL_law 195 = .ok (.iaload, 1) := by decide +kernel
theorem dL_law_196 : decode cL_law 196 = .ok (.aload_n 0, 1) := by decide +kernel
theorem dL_law_197 : decode cL_law 197 = .ok (.iload_n 3, 1) := by decide +kernel
theorem dL_law_198 : decode cL_law 198 = .ok (.iconst 4, 1) := by decide +kernel
theorem dL_law_199 : decode cL_law 199 = .ok (.iadd, 1) := by decide +kernel
theorem dL_law_200 : decode cL_law 200 = .ok (.iaload, 1) := by decide +kernel
theorem dL_law_201 : decode cL_law 201 = .ok (.invokevirtual 13, 3) := by decide +kernel
theorem dL_law_204 : decode cL_law 204 = .ok (.aload_n 2, 1) := by decide +kernel
theorem dL_law_205 : decode cL_law 205 = .ok (.aload_n 0, 1) := by decide +kernel
theorem dL_law_206 : decode cL_law 206 = .ok (.iload_n 3, 1) := by decide +kernel
theorem dL_law_207 : decode cL_law 207 = .ok (.iconst 1, 1) := by decide +kernel
theorem dL_law_208 : decode cL_law 208 = .ok (.iadd, 1) := by decide +kernel
theorem dL_law_209 : decode cL_law 209 = .ok (.iaload, 1) := by decide +kernel
theorem dL_law_210 : decode cL_law 210 = .ok (.aload_n 0, 1) := by decide +kernel
theorem dL_law_211 : decode cL_law 211 = .ok (.iload_n 3, 1) := by decide +kernel
theorem dL_law_212 : decode cL_law 212 = .ok (.iconst 2, 1) := by decide +kernel
theorem dL_law_213 : decode cL_law 213 = .ok (.iadd, 1) := by decide +kernel
theorem dL_law_214 : decode cL_law 214 = .ok (.iaload, 1) := by decide +kernel
theorem dL_law_215 : decode cL_law 215 = .ok (.aload_n 0, 1) := by decide +kernel
theorem dL_law_216 : decode cL_law 216 = .ok (.iload_n 3, 1) := by decide +kernel
theorem dL_law_217 : decode cL_law 217 = .ok (.iconst 3, 1) := by decide +kernel
theorem dL_law_218 : decode cL_law 218 = .ok (.iadd, 1) := by decide +kernel
theorem dL_law_219 : decode cL_law 219 = .ok (.iaload, 1) := by decide +kernel
theorem dL_law_220 : decode cL_law 220 = .ok (.aload_n 0, 1) := by decide +kernel
theorem dL_law_221 : decode cL_law 221 = .ok (.iload_n 3, 1) := by decide +kernel
theorem dL_law_222 : decode cL_law 222 = .ok (.iconst 4, 1) := by decide +kernel
theorem dL_law_223 : decode cL_law 223 = .ok (.iadd, 1) := by decide +kernel
theorem dL_law_224 : decode cL_law 224 = .ok (.iaload, 1) := by decide +kernel
theorem dL_law_225 : decode cL_law 225 = .ok (.invokevirtual 17, 3) := by decide +kernel
theorem dL_law_228 : decode cL_law 228 = .ok (.if_icmp .eq 973, 3) := by decide +kernel
theorem dL_law_231 : decode cL_law 231 = .ok (.iconst 0, 1) := by decide +kernel
theorem dL_law_232 : decode cL_law 232 = .ok (.ireturn, 1) := by decide +kernel
theorem dL_law_233 : decode cL_law 233 = .ok (.aload_n 1, 1) := by decide +kernel
theorem dL_law_234 : decode cL_law 234 = .ok (.aload_n 0, 1) := by decide +kernel
theorem dL_law_235 : decode cL_law 235 = .ok (.iload_n 3, 1) := by decide +kernel
theorem dL_law_236 : decode cL_law 236 = .ok (.iconst 1, 1) := by decide +kernel
theorem dL_law_237 : decode cL_law 237 = .ok (.iadd, 1) := by decide +kernel
theorem dL_law_238 : decode cL_law 238 = .ok (.iaload, 1) := by decide +kernel
theorem dL_law_239 : decode cL_law 239 = .ok (.aload_n 0, 1) := by decide +kernel
theorem dL_law_240 : decode cL_law 240 = .ok (.iload_n 3, 1) := by decide +kernel
theorem dL_law_241 : decode cL_law 241 = .ok (.iconst 2, 1) := by decide +kernel
theorem dL_law_242 : decode cL_law 242 = .ok (.iadd, 1) := by decide +kernel
theorem dL_law_243 : decode cL_law 243 = .ok (.iaload, 1) := by decide +kernel
theorem dL_law_244 : decode cL_law 244 = .ok (.invokevirtual 18, 3) := by decide +kernel
theorem dL_law_247 : decode cL_law 247 = .ok (.aload_n 2, 1) := by decide +kernel
theorem dL_law_248 : decode cL_law 248 = .ok (.aload_n 0, 1) := by decide +kernel
theorem dL_law_249 : decode cL_law 249 = .ok (.iload_n 3, 1) := by decide +kernel
theorem dL_law_250 : decode cL_law 250 = .ok (.iconst 1, 1) := by decide +kernel
theorem dL_law_251 : decode cL_law 251 = .ok (.iadd, 1) := by decide +kernel
theorem dL_law_252 : decode cL_law 252 = .ok (.iaload, 1) := by decide +kernel
theorem dL_law_253 : decode cL_law 253 = .ok (.aload_n 0, 1) := by decide +kernel
theorem dL_law_254 : decode cL_law 254 = .ok (.iload_n 3, 1) := by decide +kernel
theorem dL_law_255 : decode cL_law 255 = .ok (.iconst 2, 1) := by decide +kernel
theorem dL_law_256 : decode cL_law 256 = .ok (.iadd, 1) := by decide +kernel
theorem dL_law_257 : decode cL_law 257 = .ok (.iaload, 1) := by decide +kernel
theorem dL_law_258 : decode cL_law 258 = .ok (.invokevirtual 22, 3) := by decide +kernel
theorem dL_law_261 : decode cL_law 261 = .ok (.if_icmp .eq 940, 3) := by decide +kernel
theorem dL_law_264 : decode cL_law 264 = .ok (.iconst 0, 1) := by decide +kernel
theorem dL_law_265 : decode cL_law 265 = .ok (.ireturn, 1) := by decide +kernel
theorem dL_law_266 : decode cL_law 266 = .ok (.aload_n 1, 1) := by decide +kernel
theorem dL_law_267 : decode cL_law 267 = .ok (.aload_n 0, 1) := by decide +kernel
theorem dL_law_268 : decode cL_law 268 = .ok (.iload_n 3, 1) := by decide +kernel
theorem dL_law_269 : decode cL_law 269 = .ok (.iconst 1, 1) := by decide +kernel
theorem dL_law_270 : decode cL_law 270 = .ok (.iadd, 1) := by decide +kernel
theorem dL_law_271 : decode cL_law 271 = .ok (.iaload, 1) := by decide +kernel
theorem dL_law_272 : decode cL_law 272 = .ok (.aload_n 0, 1) := by decide +kernel
theorem dL_law_273 : decode cL_law 273 = .ok (.iload_n 3, 1) := by decide +kernel
theorem dL_law_274 : decode cL_law 274 = .ok (.iconst 2, 1) := by decide +kernel
theorem dL_law_275 : decode cL_law 275 = .ok (.iadd, 1) := by decide +kernel
theorem dL_law_276 : decode cL_law 276 = .ok (.iaload, 1) := by decide +kernel
theorem dL_law_277 : decode cL_law 277 = .ok (.invokevirtual 23, 3) := by decide +kernel
theorem dL_law_280 : decode cL_law 280 = .ok (.aload_n 2, 1) := by decide +kernel
theorem dL_law_281 : decode cL_law 281 = .ok (.aload_n 0, 1) := by decide +kernel
theorem dL_law_282 : decode cL_law 282 = .ok (.iload_n 3, 1) := by decide +kernel
theorem dL_law_283 : decode cL_law 283 = .ok (.iconst 1, 1) := by decide +kernel
theorem dL_law_284 : decode cL_law 284 = .ok (.iadd, 1) := by decide +kernel
theorem dL_law_285 : decode cL_law 285 = .ok (.iaload, 1) := by decide +kernel
theorem dL_law_286 : decode cL_law 286 = .ok (.aload_n 0, 1) := by decide +kernel
theorem dL_law_287 : decode cL_law 287 = .ok (.iload_n 3, 1) := by decide +kernel
theorem dL_law_288 : decode cL_law 288 = .ok (.iconst 2, 1) := by decide +kernel
theorem dL_law_289 : decode cL_law 289 = .ok (.iadd, 1) := by decide +kernel
theorem dL_law_290 : decode cL_law 290 = .ok (.iaload, 1) := by decide +kernel
theorem dL_law_291 : decode cL_law 291 = .ok (.invokevirtual 26, 3) := by decide +kernel
theorem dL_law_294 : decode cL_law 294 = .ok (.if_icmp .eq 907, 3) := by decide +kernel
theorem dL_law_297 : decode cL_law 297 = .ok (.iconst 0, 1) := by decide +kernel
theorem dL_law_298 : decode cL_law 298 = .ok (.ireturn, 1) := by decide +kernel
theorem dL_law_299 : decode cL_law 299 = .ok (.aload_n 1, 1) := by decide +kernel
theorem dL_law_300 : decode cL_law 300 = .ok (.aload_n 0, 1) := by decide +kernel
theorem dL_law_301 : decode cL_law 301 = .ok (.iload_n 3, 1) := by decide +kernel
theorem dL_law_302 : decode cL_law 302 = .ok (.iconst 1, 1) := by decide +kernel
theorem dL_law_303 : decode cL_law 303 = .ok (.iadd, 1) := by decide +kernel
theorem dL_law_304 : decode cL_law 304 = .ok (.iaload, 1) := by decide +kernel
theorem dL_law_305 : decode cL_law 305 = .ok (.aload_n 0, 1) := by decide +kernel
theorem dL_law_306 : decode cL_law 306 = .ok (.iload_n 3, 1) := by decide +kernel
theorem dL_law_307 : decode cL_law 307 = .ok (.iconst 2, 1) := by decide +kernel
theorem dL_law_308 : decode cL_law 308 = .ok (.iadd, 1) := by decide +kernel
theorem dL_law_309 : decode cL_law 309 = .ok (.iaload, 1) := by decide +kernel
theorem dL_law_310 : decode cL_law 310 = .ok (.invokevirtual 27, 3) := by decide +kernel
theorem dL_law_313 : decode cL_law 313 = .ok (.aload_n 2, 1) := by decide +kernel
theorem dL_law_314 : decode cL_law 314 = .ok (.aload_n 0, 1) := by decide +kernel
theorem dL_law_315 : decode cL_law 315 = .ok (.iload_n 3, 1) := by decide +kernel
theorem dL_law_316 : decode cL_law 316 = .ok (.iconst 1, 1) := by decide +kernel
theorem dL_law_317 : decode cL_law 317 = .ok (.iadd, 1) := by decide +kernel
theorem dL_law_318 : decode cL_law 318 = .ok (.iaload, 1) := by decide +kernel
theorem dL_law_319 : decode cL_law 319 = .ok (.aload_n 0, 1) := by decide +kernel
theorem dL_law_320 : decode cL_law 320 = .ok (.iload_n 3, 1) := by decide +kernel
theorem dL_law_321 : decode cL_law 321 = .ok (.iconst 2, 1) := by decide +kernel
theorem dL_law_322 : decode cL_law 322 = .ok (.iadd, 1) := by decide +kernel
theorem dL_law_323 : decode cL_law 323 = .ok (.iaload, 1) := by decide +kernel
theorem dL_law_324 : decode cL_law 324 = .ok (.invokevirtual 30, 3) := by decide +kernel
theorem dL_law_327 : decode cL_law 327 = .ok (.if_icmp .eq 874, 3) := by decide +kernel
theorem dL_law_330 : decode cL_law 330 = .ok (.iconst 0, 1) := by decide +kernel
theorem dL_law_331 : decode cL_law 331 = .ok (.ireturn, 1) := by decide +kernel
theorem dL_law_332 : decode cL_law 332 = .ok (.aload_n 1, 1) := by decide +kernel
theorem dL_law_333 : decode cL_law 333 = .ok (.aload_n 0, 1) := by decide +kernel
theorem dL_law_334 : decode cL_law 334 = .ok (.iload_n 3, 1) := by decide +kernel
theorem dL_law_335 : decode cL_law 335 = .ok (.iconst 1, 1) := by decide +kernel
theorem dL_law_336 : decode cL_law 336 = .ok (.iadd, 1) := by decide +kernel
theorem dL_law_337 : decode cL_law 337 = .ok (.iaload, 1) := by decide +kernel
theorem dL_law_338 : decode cL_law 338 = .ok (.aload_n 0, 1) := by decide +kernel
theorem dL_law_339 : decode cL_law 339 = .ok (.iload_n 3, 1) := by decide +kernel
theorem dL_law_340 : decode cL_law 340 = .ok (.iconst 2, 1) := by decide +kernel
theorem dL_law_341 : decode cL_law 341 = .ok (.iadd, 1) := by decide +kernel
theorem dL_law_342 : decode cL_law 342 = .ok (.iaload, 1) := by decide +kernel
theorem dL_law_343 : decode cL_law 343 = .ok (.invokevirtual 31, 3) := by decide +kernel
theorem dL_law_346 : decode cL_law 346 = .ok (.aload_n 2, 1) := by decide +kernel
theorem dL_law_347 : decode cL_law 347 = .ok (.aload_n 0, 1) := by decide +kernel
theorem dL_law_348 : decode cL_law 348 = .ok (.iload_n 3, 1) := by decide +kernel
theorem dL_law_349 : decode cL_law 349 = .ok (.iconst 1, 1) := by decide +kernel
theorem dL_law_350 : decode cL_law 350 = .ok (.iadd, 1) := by decide +kernel
theorem dL_law_351 : decode cL_law 351 = .ok (.iaload, 1) := by decide +kernel
theorem dL_law_352 : decode cL_law 352 = .ok (.aload_n 0, 1) := by decide +kernel
theorem dL_law_353 : decode cL_law 353 = .ok (.iload_n 3, 1) := by decide +kernel
theorem dL_law_354 : decode cL_law 354 = .ok (.iconst 2, 1) := by decide +kernel
theorem dL_law_355 : decode cL_law 355 = .ok (.iadd, 1) := by decide +kernel
theorem dL_law_356 : decode cL_law 356 = .ok (.iaload, 1) := by decide +kernel
theorem dL_law_357 : decode cL_law 357 = .ok (.invokevirtual 34, 3) := by decide +kernel
theorem dL_law_360 : decode cL_law 360 = .ok (.if_icmp .eq 841, 3) := by decide +kernel
theorem dL_law_363 : decode cL_law 363 = .ok (.iconst 0, 1) := by decide +kernel
theorem dL_law_364 : decode cL_law 364 = .ok (.ireturn, 1) := by decide +kernel
theorem dL_law_365 : decode cL_law 365 = .ok (.aload_n 1, 1) := by decide +kernel
theorem dL_law_366 : decode cL_law 366 = .ok (.aload_n 0, 1) := by decide +kernel
theorem dL_law_367 : decode cL_law 367 = .ok (.iload_n 3, 1) := by decide +kernel
theorem dL_law_368 : decode cL_law 368 = .ok (.iconst 1, 1) := by decide +kernel
theorem dL_law_369 : decode cL_law 369 = .ok (.iadd, 1) := by decide +kernel
theorem dL_law_370 : decode cL_law 370 = .ok (.iaload, 1) := by decide +kernel
theorem dL_law_371 : decode cL_law 371 = .ok (.invokevirtual 35, 3) := by decide +kernel
theorem dL_law_374 : decode cL_law 374 = .ok (.aload_n 2, 1) := by decide +kernel
theorem dL_law_375 : decode cL_law 375 = .ok (.aload_n 0, 1) := by decide +kernel
theorem dL_law_376 : decode cL_law 376 = .ok (.iload_n 3, 1) := by decide +kernel
theorem dL_law_377 : decode cL_law 377 = .ok (.iconst 1, 1) := by decide +kernel
theorem dL_law_378 : decode cL_law 378 = .ok (.iadd, 1) := by decide +kernel
theorem dL_law_379 : decode cL_law 379 = .ok (.iaload, 1) := by decide +kernel
theorem dL_law_380 : decode cL_law 380 = .ok (.invokevirtual 39, 3) := by decide +kernel
theorem dL_law_383 : decode cL_law 383 = .ok (.if_icmp .eq 818, 3) := by decide +kernel
theorem dL_law_386 : decode cL_law 386 = .ok (.iconst 0, 1) := by decide +kernel
theorem dL_law_387 : decode cL_law 387 = .ok (.ireturn, 1) := by decide +kernel
theorem dL_law_388 : decode cL_law 388 = .ok (.aload_n 1, 1) := by decide +kernel
theorem dL_law_389 : decode cL_law 389 = .ok (.aload_n 0, 1) := by decide +kernel
theorem dL_law_390 : decode cL_law 390 = .ok (.iload_n 3, 1) := by decide +kernel
theorem dL_law_391 : decode cL_law 391 = .ok (.iconst 1, 1) := by decide +kernel
theorem dL_law_392 : decode cL_law 392 = .ok (.iadd, 1) := by decide +kernel
theorem dL_law_393 : decode cL_law 393 = .ok (.iaload, 1) := by decide +kernel
theorem dL_law_394 : decode cL_law 394 = .ok (.invokevirtual 40, 3) := by decide +kernel
theorem dL_law_397 : decode cL_law 397 = .ok (.aload_n 2, 1) := by decide +kernel
theorem dL_law_398 : decode cL_law 398 = .ok (.aload_n 0, 1) := by decide +kernel
theorem dL_law_399 : decode cL_law 399 = .ok (.iload_n 3, 1) := by decide +kernel
theorem dL_law_400 : decode cL_law 400 = .ok (.iconst 1, 1) := by decide +kernel
theorem dL_law_401 : decode cL_law 401 = .ok (.iadd, 1) := by decide +kernel
theorem dL_law_402 : decode cL_law 402 = .ok (.iaload, 1) := by decide +kernel
theorem dL_law_403 : decode cL_law 403 = .ok (.invokevirtual 43, 3) := by decide +kernel
theorem dL_law_406 : decode cL_law 406 = .ok (.if_icmp .eq 795, 3) := by decide +kernel
theorem dL_law_409 : decode cL_law 409 = .ok (.iconst 0, 1) := by decide +kernel
theorem dL_law_410 : decode cL_law 410 = .ok (.ireturn, 1) := by decide +kernel
theorem dL_law_411 : decode cL_law 411 = .ok (.aload_n 1, 1) := by decide +kernel
theorem dL_law_412 : decode cL_law 412 = .ok (.aload_n 0, 1) := by decide +kernel
theorem dL_law_413 : decode cL_law 413 = .ok (.iload_n 3, 1) := by decide +kernel
theorem dL_law_414 : decode cL_law 414 = .ok (.iconst 1, 1) := by decide +kernel
theorem dL_law_415 : decode cL_law 415 = .ok (.iadd, 1) := by decide +kernel
theorem dL_law_416 : decode cL_law 416 = .ok (.iaload, 1) := by decide +kernel
theorem dL_law_417 : decode cL_law 417 = .ok (.invokevirtual 44, 3) := by decide +kernel
theorem dL_law_420 : decode cL_law 420 = .ok (.aload_n 2, 1) := by decide +kernel
theorem dL_law_421 : decode cL_law 421 = .ok (.aload_n 0, 1) := by decide +kernel
theorem dL_law_422 : decode cL_law 422 = .ok (.iload_n 3, 1) := by decide +kernel
theorem dL_law_423 : decode cL_law 423 = .ok (.iconst 1, 1) := by decide +kernel
theorem dL_law_424 : decode cL_law 424 = .ok (.iadd, 1) := by decide +kernel
theorem dL_law_425 : decode cL_law 425 = .ok (.iaload, 1) := by decide +kernel
theorem dL_law_426 : decode cL_law 426 = .ok (.invokevirtual 47, 3) := by decide +kernel
theorem dL_law_429 : decode cL_law 429 = .ok (.if_icmp .eq 772, 3) := by decide +kernel
theorem dL_law_432 : decode cL_law 432 = .ok (.iconst 0, 1) := by decide +kernel
theorem dL_law_433 : decode cL_law 433 = .ok (.ireturn, 1) := by decide +kernel
theorem dL_law_434 : decode cL_law 434 = .ok (.aload_n 1, 1) := by decide +kernel
theorem dL_law_435 : decode cL_law 435 = .ok (.aload_n 0, 1) := by decide +kernel
theorem dL_law_436 : decode cL_law 436 = .ok (.iload_n 3, 1) := by decide +kernel
theorem dL_law_437 : decode cL_law 437 = .ok (.iconst 1, 1) := by decide +kernel
theorem dL_law_438 : decode cL_law 438 = .ok (.iadd, 1) := by decide +kernel
theorem dL_law_439 : decode cL_law 439 = .ok (.iaload, 1) := by decide +kernel
theorem dL_law_440 : decode cL_law 440 = .ok (.aload_n 0, 1) := by decide +kernel
theorem dL_law_441 : decode cL_law 441 = .ok (.iload_n 3, 1) := by decide +kernel
theorem dL_law_442 : decode cL_law 442 = .ok (.iconst 2, 1) := by decide +kernel
theorem dL_law_443 : decode cL_law 443 = .ok (.iadd, 1) := by decide +kernel
theorem dL_law_444 : decode cL_law 444 = .ok (.iaload, 1) := by decide +kernel
theorem dL_law_445 : decode cL_law 445 = .ok (.invokevirtual 48, 3) := by decide +kernel
theorem dL_law_448 : decode cL_law 448 = .ok (.aload_n 2, 1) := by decide +kernel
theorem dL_law_449 : decode cL_law 449 = .ok (.aload_n 0, 1) := by decide +kernel
theorem dL_law_450 : decode cL_law 450 = .ok (.iload_n 3, 1) := by decide +kernel
theorem dL_law_451 : decode cL_law 451 = .ok (.iconst 1, 1) := by decide +kernel
theorem dL_law_452 : decode cL_law 452 = .ok (.iadd, 1) := by decide +kernel
theorem dL_law_453 : decode cL_law 453 = .ok (.iaload, 1) := by decide +kernel
theorem dL_law_454 : decode cL_law 454 = .ok (.aload_n 0, 1) := by decide +kernel
theorem dL_law_455 : decode cL_law 455 = .ok (.iload_n 3, 1) := by decide +kernel
theorem dL_law_456 : decode cL_law 456 = .ok (.iconst 2, 1) := by decide +kernel
theorem dL_law_457 : decode cL_law 457 = .ok (.iadd, 1) := by decide +kernel
theorem dL_law_458 : decode cL_law 458 = .ok (.iaload, 1) := by decide +kernel
theorem dL_law_459 : decode cL_law 459 = .ok (.invokevirtual 51, 3) := by decide +kernel
theorem dL_law_462 : decode cL_law 462 = .ok (.if_icmp .eq 739, 3) := by decide +kernel
theorem dL_law_465 : decode cL_law 465 = .ok (.iconst 0, 1) := by decide +kernel
theorem dL_law_466 : decode cL_law 466 = .ok (.ireturn, 1) := by decide +kernel
theorem dL_law_467 : decode cL_law 467 = .ok (.aload_n 1, 1) := by decide +kernel
theorem dL_law_468 : decode cL_law 468 = .ok (.aload_n 0, 1) := by decide +kernel
theorem dL_law_469 : decode cL_law 469 = .ok (.iload_n 3, 1) := by decide +kernel
theorem dL_law_470 : decode cL_law 470 = .ok (.iconst 1, 1) := by decide +kernel
theorem dL_law_471 : decode cL_law 471 = .ok (.iadd, 1) := by decide +kernel
theorem dL_law_472 : decode cL_law 472 = .ok (.iaload, 1) := by decide +kernel
theorem dL_law_473 : decode cL_law 473 = .ok (.invokevirtual 52, 3) := by decide +kernel
theorem dL_law_476 : decode cL_law 476 = .ok (.aload_n 2, 1) := by decide +kernel
theorem dL_law_477 : decode cL_law 477 = .ok (.aload_n 0, 1) := by decide +kernel
theorem dL_law_478 : decode cL_law 478 = .ok (.iload_n 3, 1) := by decide +kernel
theorem dL_law_479 : decode cL_law 479 = .ok (.iconst 1, 1) := by decide +kernel
theorem dL_law_480 : decode cL_law 480 = .ok (.iadd, 1) := by decide +kernel
theorem dL_law_481 : decode cL_law 481 = .ok (.iaload, 1) := by decide +kernel
theorem dL_law_482 : decode cL_law 482 = .ok (.invokevirtual 55, 3) := by decide +kernel
theorem dL_law_485 : decode cL_law 485 = .ok (.if_icmp .eq 716, 3) := by decide +kernel
theorem dL_law_488 : decode cL_law 488 = .ok (.iconst 0, 1) := by decide +kernel
theorem dL_law_489 : decode cL_law 489 = .ok (.ireturn, 1) := by decide +kernel
theorem dL_law_490 : decode cL_law 490 = .ok (.aload_n 1, 1) := by decide +kernel
theorem dL_law_491 : decode cL_law 491 = .ok (.aload_n 0, 1) := by decide +kernel
theorem dL_law_492 : decode cL_law 492 = .ok (.iload_n 3, 1) := by decide +kernel
theorem dL_law_493 : decode cL_law 493 = .ok (.iconst 1, 1) := by decide +kernel
theorem dL_law_494 : decode cL_law 494 = .ok (.iadd, 1) := by decide +kernel
theorem dL_law_495 : decode cL_law 495 = .ok (.iaload, 1) := by decide +kernel
theorem dL_law_496 : decode cL_law 496 = .ok (.aload_n 0, 1) := by decide +kernel
theorem dL_law_497 : decode cL_law 497 = .ok (.iload_n 3, 1) := by decide +kernel
theorem dL_law_498 : decode cL_law 498 = .ok (.iconst 2, 1) := by decide +kernel
theorem dL_law_499 : decode cL_law 499 = .ok (.iadd, 1) := by decide +kernel
theorem dL_law_500 : decode cL_law 500 = .ok (.iaload, 1) := by decide +kernel
theorem dL_law_501 : decode cL_law 501 = .ok (.aload_n 0, 1) := by decide +kernel
theorem dL_law_502 : decode cL_law 502 = .ok (.iload_n 3, 1) := by decide +kernel
theorem dL_law_503 : decode cL_law 503 = .ok (.iconst 3, 1) := by decide +kernel
theorem dL_law_504 : decode cL_law 504 = .ok (.iadd, 1) := by decide +kernel
theorem dL_law_505 : decode cL_law 505 = .ok (.iaload, 1) := by decide +kernel
theorem dL_law_506 : decode cL_law 506 = .ok (.aload_n 0, 1) := by decide +kernel
theorem dL_law_507 : decode cL_law 507 = .ok (.iload_n 3, 1) := by decide +kernel
theorem dL_law_508 : decode cL_law 508 = .ok (.iconst 4, 1) := by decide +kernel
theorem dL_law_509 : decode cL_law 509 = .ok (.iadd, 1) := by decide +kernel
theorem dL_law_510 : decode cL_law 510 = .ok (.iaload, 1) := by decide +kernel
theorem dL_law_511 : decode cL_law 511 = .ok (.aload_n 0, 1) := by decide +kernel
theorem dL_law_512 : decode cL_law 512 = .ok (.iload_n 3, 1) := by decide +kernel
theorem dL_law_513 : decode cL_law 513 = .ok (.iconst 5, 1) := by decide +kernel
theorem dL_law_514 : decode cL_law 514 = .ok (.iadd, 1) := by decide +kernel
theorem dL_law_515 : decode cL_law 515 = .ok (.iaload, 1) := by decide +kernel
theorem dL_law_516 : decode cL_law 516 = .ok (.invokevirtual 56, 3) := by decide +kernel
theorem dL_law_519 : decode cL_law 519 = .ok (.aload_n 2, 1) := by decide +kernel
theorem dL_law_520 : decode cL_law 520 = .ok (.aload_n 0, 1) := by decide +kernel
theorem dL_law_521 : decode cL_law 521 = .ok (.iload_n 3, 1) := by decide +kernel
theorem dL_law_522 : decode cL_law 522 = .ok (.iconst 1, 1) := by decide +kernel
theorem dL_law_523 : decode cL_law 523 = .ok (.iadd, 1) := by decide +kernel
theorem dL_law_524 : decode cL_law 524 = .ok (.iaload, 1) := by decide +kernel
theorem dL_law_525 : decode cL_law 525 = .ok (.aload_n 0, 1) := by decide +kernel
theorem dL_law_526 : decode cL_law 526 = .ok (.iload_n 3, 1) := by decide +kernel
theorem dL_law_527 : decode cL_law 527 = .ok (.iconst 2, 1) := by decide +kernel
theorem dL_law_528 : decode cL_law 528 = .ok (.iadd, 1) := by decide +kernel
theorem dL_law_529 : decode cL_law 529 = .ok (.iaload, 1) := by decide +kernel
theorem dL_law_530 : decode cL_law 530 = .ok (.aload_n 0, 1) := by decide +kernel
theorem dL_law_531 : decode cL_law 531 = .ok (.iload_n 3, 1) := by decide +kernel
theorem dL_law_532 : decode cL_law 532 = .ok (.iconst 3, 1) := by decide +kernel
theorem dL_law_533 : decode cL_law 533 = .ok (.iadd, 1) := by decide +kernel
theorem dL_law_534 : decode cL_law 534 = .ok (.iaload, 1) := by decide +kernel
theorem dL_law_535 : decode cL_law 535 = .ok (.aload_n 0, 1) := by decide +kernel
theorem dL_law_536 : decode cL_law 536 = .ok (.iload_n 3, 1) := by decide +kernel
theorem dL_law_537 : decode cL_law 537 = .ok (.iconst 4, 1) := by decide +kernel
theorem dL_law_538 : decode cL_law 538 = .ok (.iadd, 1) := by decide +kernel
theorem dL_law_539 : decode cL_law 539 = .ok (.iaload, 1) := by decide +kernel
theorem dL_law_540 : decode cL_law 540 = .ok (.aload_n 0, 1) := by decide +kernel
theorem dL_law_541 : decode cL_law 541 = .ok (.iload_n 3, 1) := by decide +kernel
theorem dL_law_542 : decode cL_law 542 = .ok (.iconst 5, 1) := by decide +kernel
theorem dL_law_543 : decode cL_law 543 = .ok (.iadd, 1) := by decide +kernel
theorem dL_law_544 : decode cL_law 544 = .ok (.iaload, 1) := by decide +kernel
theorem dL_law_545 : decode cL_law 545 = .ok (.invokevirtual 60, 3) := by decide +kernel
theorem dL_law_548 : decode cL_law 548 = .ok (.if_icmp .eq 653, 3) := by decide +kernel
theorem dL_law_551 : decode cL_law 551 = .ok (.iconst 0, 1) := by decide +kernel
theorem dL_law_552 : decode cL_law 552 = .ok (.ireturn, 1) := by decide +kernel
theorem dL_law_553 : decode cL_law 553 = .ok (.aload_n 1, 1) := by decide +kernel
theorem dL_law_554 : decode cL_law 554 = .ok (.aload_n 0, 1) := by decide +kernel
theorem dL_law_555 : decode cL_law 555 = .ok (.iload_n 3, 1) := by decide +kernel
theorem dL_law_556 : decode cL_law 556 = .ok (.iconst 1, 1) := by decide +kernel
theorem dL_law_557 : decode cL_law 557 = .ok (.iadd, 1) := by decide +kernel
theorem dL_law_558 : decode cL_law 558 = .ok (.iaload, 1) := by decide +kernel
theorem dL_law_559 : decode cL_law 559 = .ok (.invokevirtual 61, 3) := by decide +kernel
theorem dL_law_562 : decode cL_law 562 = .ok (.aload_n 2, 1) := by decide +kernel
theorem dL_law_563 : decode cL_law 563 = .ok (.aload_n 0, 1) := by decide +kernel
theorem dL_law_564 : decode cL_law 564 = .ok (.iload_n 3, 1) := by decide +kernel
theorem dL_law_565 : decode cL_law 565 = .ok (.iconst 1, 1) := by decide +kernel
theorem dL_law_566 : decode cL_law 566 = .ok (.iadd, 1) := by decide +kernel
theorem dL_law_567 : decode cL_law 567 = .ok (.iaload, 1) := by decide +kernel
theorem dL_law_568 : decode cL_law 568 = .ok (.invokevirtual 64, 3) := by decide +kernel
theorem dL_law_571 : decode cL_law 571 = .ok (.if_icmp .eq 630, 3) := by decide +kernel
theorem dL_law_574 : decode cL_law 574 = .ok (.iconst 0, 1) := by decide +kernel
theorem dL_law_575 : decode cL_law 575 = .ok (.ireturn, 1) := by decide +kernel
theorem dL_law_576 : decode cL_law 576 = .ok (.aload_n 1, 1) := by decide +kernel
theorem dL_law_577 : decode cL_law 577 = .ok (.aload_n 0, 1) := by decide +kernel
theorem dL_law_578 : decode cL_law 578 = .ok (.iload_n 3, 1) := by decide +kernel
theorem dL_law_579 : decode cL_law 579 = .ok (.iconst 1, 1) := by decide +kernel
theorem dL_law_580 : decode cL_law 580 = .ok (.iadd, 1) := by decide +kernel
theorem dL_law_581 : decode cL_law 581 = .ok (.iaload, 1) := by decide +kernel
theorem dL_law_582 : decode cL_law 582 = .ok (.aload_n 0, 1) := by decide +kernel
theorem dL_law_583 : decode cL_law 583 = .ok (.iload_n 3, 1) := by decide +kernel
theorem dL_law_584 : decode cL_law 584 = .ok (.iconst 2, 1) := by decide +kernel
theorem dL_law_585 : decode cL_law 585 = .ok (.iadd, 1) := by decide +kernel
theorem dL_law_586 : decode cL_law 586 = .ok (.iaload, 1) := by decide +kernel
theorem dL_law_587 : decode cL_law 587 = .ok (.invokevirtual 65, 3) := by decide +kernel
theorem dL_law_590 : decode cL_law 590 = .ok (.aload_n 2, 1) := by decide +kernel
theorem dL_law_591 : decode cL_law 591 = .ok (.aload_n 0, 1) := by decide +kernel
theorem dL_law_592 : decode cL_law 592 = .ok (.iload_n 3, 1) := by decide +kernel
theorem dL_law_593 : decode cL_law 593 = .ok (.iconst 1, 1) := by decide +kernel
theorem dL_law_594 : decode cL_law 594 = .ok (.iadd, 1) := by decide +kernel
theorem dL_law_595 : decode cL_law 595 = .ok (.iaload, 1) := by decide +kernel
theorem dL_law_596 : decode cL_law 596 = .ok (.aload_n 0, 1) := by decide +kernel
theorem dL_law_597 : decode cL_law 597 = .ok (.iload_n 3, 1) := by decide +kernel
theorem dL_law_598 : decode cL_law 598 = .ok (.iconst 2, 1) := by decide +kernel
theorem dL_law_599 : decode cL_law 599 = .ok (.iadd, 1) := by decide +kernel
theorem dL_law_600 : decode cL_law 600 = .ok (.iaload, 1) := by decide +kernel
theorem dL_law_601 : decode cL_law 601 = .ok (.invokevirtual 68, 3) := by decide +kernel
theorem dL_law_604 : decode cL_law 604 = .ok (.if_icmp .eq 597, 3) := by decide +kernel
theorem dL_law_607 : decode cL_law 607 = .ok (.iconst 0, 1) := by decide +kernel
theorem dL_law_608 : decode cL_law 608 = .ok (.ireturn, 1) := by decide +kernel
theorem dL_law_609 : decode cL_law 609 = .ok (.aload_n 1, 1) := by decide +kernel
theorem dL_law_610 : decode cL_law 610 = .ok (.aload_n 0, 1) := by decide +kernel
theorem dL_law_611 : decode cL_law 611 = .ok (.iload_n 3, 1) := by decide +kernel
theorem dL_law_612 : decode cL_law 612 = .ok (.iconst 1, 1) := by decide +kernel
theorem dL_law_613 : decode cL_law 613 = .ok (.iadd, 1) := by decide +kernel
theorem dL_law_614 : decode cL_law 614 = .ok (.iaload, 1) := by decide +kernel
theorem dL_law_615 : decode cL_law 615 = .ok (.invokevirtual 69, 3) := by decide +kernel
theorem dL_law_618 : decode cL_law 618 = .ok (.aload_n 2, 1) := by decide +kernel
theorem dL_law_619 : decode cL_law 619 = .ok (.aload_n 0, 1) := by decide +kernel
theorem dL_law_620 : decode cL_law 620 = .ok (.iload_n 3, 1) := by decide +kernel
theorem dL_law_621 : decode cL_law 621 = .ok (.iconst 1, 1) := by decide +kernel
theorem dL_law_622 : decode cL_law 622 = .ok (.iadd, 1) := by decide +kernel
theorem dL_law_623 : decode cL_law 623 = .ok (.iaload, 1) := by decide +kernel
theorem dL_law_624 : decode cL_law 624 = .ok (.invokevirtual 72, 3) := by decide +kernel
theorem dL_law_627 : decode cL_law 627 = .ok (.if_icmp .eq 574, 3) := by decide +kernel
theorem dL_law_630 : decode cL_law 630 = .ok (.iconst 0, 1) := by decide +kernel
theorem dL_law_631 : decode cL_law 631 = .ok (.ireturn, 1) := by decide +kernel
theorem dL_law_632 : decode cL_law 632 = .ok (.aload_n 1, 1) := by decide +kernel
theorem dL_law_633 : decode cL_law 633 = .ok (.aload_n 0, 1) := by decide +kernel
theorem dL_law_634 : decode cL_law 634 = .ok (.iload_n 3, 1) := by decide +kernel
theorem dL_law_635 : decode cL_law 635 = .ok (.iconst 1, 1) := by decide +kernel
theorem dL_law_636 : decode cL_law 636 = .ok (.iadd, 1) := by decide +kernel
theorem dL_law_637 : decode cL_law 637 = .ok (.iaload, 1) := by decide +kernel
theorem dL_law_638 : decode cL_law 638 = .ok (.aload_n 0, 1) := by decide +kernel
theorem dL_law_639 : decode cL_law 639 = .ok (.iload_n 3, 1) := by decide +kernel
theorem dL_law_640 : decode cL_law 640 = .ok (.iconst 2, 1) := by decide +kernel
theorem dL_law_641 : decode cL_law 641 = .ok (.iadd, 1) := by decide +kernel
theorem dL_law_642 : decode cL_law 642 = .ok (.iaload, 1) := by decide +kernel
theorem dL_law_643 : decode cL_law 643 = .ok (.invokevirtual 73, 3) := by decide +kernel
theorem dL_law_646 : decode cL_law 646 = .ok (.aload_n 2, 1) := by decide +kernel
theorem dL_law_647 : decode cL_law 647 = .ok (.aload_n 0, 1) := by decide +kernel
theorem dL_law_648 : decode cL_law 648 = .ok (.iload_n 3, 1) := by decide +kernel
theorem dL_law_649 : decode cL_law 649 = .ok (.iconst 1, 1) := by decide +kernel
theorem dL_law_650 : decode cL_law 650 = .ok (.iadd, 1) := by decide +kernel
theorem dL_law_651 : decode cL_law 651 = .ok (.iaload, 1) := by decide +kernel
theorem dL_law_652 : decode cL_law 652 = .ok (.aload_n 0, 1) := by decide +kernel
theorem dL_law_653 : decode cL_law 653 = .ok (.iload_n 3, 1) := by decide +kernel
theorem dL_law_654 : decode cL_law 654 = .ok (.iconst 2, 1) := by decide +kernel
theorem dL_law_655 : decode cL_law 655 = .ok (.iadd, 1) := by decide +kernel
theorem dL_law_656 : decode cL_law 656 = .ok (.iaload, 1) := by decide +kernel
theorem dL_law_657 : decode cL_law 657 = .ok (.invokevirtual 76, 3) := by decide +kernel
theorem dL_law_660 : decode cL_law 660 = .ok (.if_icmp .eq 541, 3) := by decide +kernel
theorem dL_law_663 : decode cL_law 663 = .ok (.iconst 0, 1) := by decide +kernel
theorem dL_law_664 : decode cL_law 664 = .ok (.ireturn, 1) := by decide +kernel
theorem dL_law_665 : decode cL_law 665 = .ok (.aload_n 1, 1) := by decide +kernel
theorem dL_law_666 : decode cL_law 666 = .ok (.aload_n 0, 1) := by decide +kernel
theorem dL_law_667 : decode cL_law 667 = .ok (.iload_n 3, 1) := by decide +kernel
theorem dL_law_668 : decode cL_law 668 = .ok (.iconst 1, 1) := by decide +kernel
theorem dL_law_669 : decode cL_law 669 = .ok (.iadd, 1) := by decide +kernel
theorem dL_law_670 : decode cL_law 670 = .ok (.iaload, 1) := by decide +kernel
theorem dL_law_671 : decode cL_law 671 = .ok (.aload_n 0, 1) := by decide +kernel
theorem dL_law_672 : decode cL_law 672 = .ok (.iload_n 3, 1) := by decide +kernel
theorem dL_law_673 : decode cL_law 673 = .ok (.iconst 2, 1) := by decide +kernel
theorem dL_law_674 : decode cL_law 674 = .ok (.iadd, 1) := by decide +kernel
theorem dL_law_675 : decode cL_law 675 = .ok (.iaload, 1) := by decide +kernel
theorem dL_law_676 : decode cL_law 676 = .ok (.invokevirtual 77, 3) := by decide +kernel
theorem dL_law_679 : decode cL_law 679 = .ok (.aload_n 2, 1) := by decide +kernel
theorem dL_law_680 : decode cL_law 680 = .ok (.aload_n 0, 1) := by decide +kernel
theorem dL_law_681 : decode cL_law 681 = .ok (.iload_n 3, 1) := by decide +kernel
theorem dL_law_682 : decode cL_law 682 = .ok (.iconst 1, 1) := by decide +kernel
theorem dL_law_683 : decode cL_law 683 = .ok (.iadd, 1) := by decide +kernel
theorem dL_law_684 : decode cL_law 684 = .ok (.iaload, 1) := by decide +kernel
theorem dL_law_685 : decode cL_law 685 = .ok (.aload_n 0, 1) := by decide +kernel
theorem dL_law_686 : decode cL_law 686 = .ok (.iload_n 3, 1) := by decide +kernel
theorem dL_law_687 : decode cL_law 687 = .ok (.iconst 2, 1) := by decide +kernel
theorem dL_law_688 : decode cL_law 688 = .ok (.iadd, 1) := by decide +kernel
theorem dL_law_689 : decode cL_law 689 = .ok (.iaload, 1) := by decide +kernel
theorem dL_law_690 : decode cL_law 690 = .ok (.invokevirtual 80, 3) := by decide +kernel
theorem dL_law_693 : decode cL_law 693 = .ok (.if_icmp .eq 508, 3) := by decide +kernel
theorem dL_law_696 : decode cL_law 696 = .ok (.iconst 0, 1) := by decide +kernel
theorem dL_law_697 : decode cL_law 697 = .ok (.ireturn, 1) := by decide +kernel
theorem dL_law_698 : decode cL_law 698 = .ok (.aload_n 1, 1) := by decide +kernel
theorem dL_law_699 : decode cL_law 699 = .ok (.aload_n 0, 1) := by decide +kernel
theorem dL_law_700 : decode cL_law 700 = .ok (.iload_n 3, 1) := by decide +kernel
theorem dL_law_701 : decode cL_law 701 = .ok (.iconst 1, 1) := by decide +kernel
theorem dL_law_702 : decode cL_law 702 = .ok (.iadd, 1) := by decide +kernel
theorem dL_law_703 : decode cL_law 703 = .ok (.iaload, 1) := by decide +kernel
theorem dL_law_704 : decode cL_law 704 = .ok (.invokevirtual 81, 3) := by decide +kernel
theorem dL_law_707 : decode cL_law 707 = .ok (.aload_n 2, 1) := by decide +kernel
theorem dL_law_708 : decode cL_law 708 = .ok (.aload_n 0, 1) := by decide +kernel
theorem dL_law_709 : decode cL_law 709 = .ok (.iload_n 3, 1) := by decide +kernel
theorem dL_law_710 : decode cL_law 710 = .ok (.iconst 1, 1) := by decide +kernel
theorem dL_law_711 : decode cL_law 711 = .ok (.iadd, 1) := by decide +kernel
theorem dL_law_712 : decode cL_law 712 = .ok (.iaload, 1) := by decide +kernel
theorem dL_law_713 : decode cL_law 713 = .ok (.invokevirtual 84, 3) := by decide +kernel
theorem dL_law_716 : decode cL_law 716 = .ok (.if_icmp .eq 485, 3) := by decide +kernel
theorem dL_law_719 : decode cL_law 719 = .ok (.iconst 0, 1) := by decide +kernel
theorem dL_law_720 : decode cL_law 720 = .ok (.ireturn, 1) := by decide +kernel
theorem dL_law_721 : decode cL_law 721 = .ok (.aload_n 1, 1) := by decide +kernel
theorem dL_law_722 : decode cL_law 722 = .ok (.aload_n 0, 1) := by decide +kernel
theorem dL_law_723 : decode cL_law 723 = .ok (.iload_n 3, 1) := by decide +kernel
theorem dL_law_724 : decode cL_law 724 = .ok (.iconst 1, 1) := by decide +kernel
theorem dL_law_725 : decode cL_law 725 = .ok (.iadd, 1) := by decide +kernel
theorem dL_law_726 : decode cL_law 726 = .ok (.iaload, 1) := by decide +kernel
theorem dL_law_727 : decode cL_law 727 = .ok (.aload_n 0, 1) := by decide +kernel
theorem dL_law_728 : decode cL_law 728 = .ok (.iload_n 3, 1) := by decide +kernel
theorem dL_law_729 : decode cL_law 729 = .ok (.iconst 2, 1) := by decide +kernel
theorem dL_law_730 : decode cL_law 730 = .ok (.iadd, 1) := by decide +kernel
theorem dL_law_731 : decode cL_law 731 = .ok (.iaload, 1) := by decide +kernel
theorem dL_law_732 : decode cL_law 732 = .ok (.invokevirtual 85, 3) := by decide +kernel
theorem dL_law_735 : decode cL_law 735 = .ok (.aload_n 2, 1) := by decide +kernel
theorem dL_law_736 : decode cL_law 736 = .ok (.aload_n 0, 1) := by decide +kernel
theorem dL_law_737 : decode cL_law 737 = .ok (.iload_n 3, 1) := by decide +kernel
theorem dL_law_738 : decode cL_law 738 = .ok (.iconst 1, 1) := by decide +kernel
theorem dL_law_739 : decode cL_law 739 = .ok (.iadd, 1) := by decide +kernel
theorem dL_law_740 : decode cL_law 740 = .ok (.iaload, 1) := by decide +kernel
theorem dL_law_741 : decode cL_law 741 = .ok (.aload_n 0, 1) := by decide +kernel
theorem dL_law_742 : decode cL_law 742 = .ok (.iload_n 3, 1) := by decide +kernel
theorem dL_law_743 : decode cL_law 743 = .ok (.iconst 2, 1) := by decide +kernel
theorem dL_law_744 : decode cL_law 744 = .ok (.iadd, 1) := by decide +kernel
theorem dL_law_745 : decode cL_law 745 = .ok (.iaload, 1) := by decide +kernel
theorem dL_law_746 : decode cL_law 746 = .ok (.invokevirtual 88, 3) := by decide +kernel
theorem dL_law_749 : decode cL_law 749 = .ok (.if_icmp .eq 452, 3) := by decide +kernel
theorem dL_law_752 : decode cL_law 752 = .ok (.iconst 0, 1) := by decide +kernel
theorem dL_law_753 : decode cL_law 753 = .ok (.ireturn, 1) := by decide +kernel
theorem dL_law_754 : decode cL_law 754 = .ok (.aload_n 1, 1) := by decide +kernel
theorem dL_law_755 : decode cL_law 755 = .ok (.aload_n 0, 1) := by decide +kernel
theorem dL_law_756 : decode cL_law 756 = .ok (.iload_n 3, 1) := by decide +kernel
theorem dL_law_757 : decode cL_law 757 = .ok (.iconst 1, 1) := by decide +kernel
theorem dL_law_758 : decode cL_law 758 = .ok (.iadd, 1) := by decide +kernel
theorem dL_law_759 : decode cL_law 759 = .ok (.iaload, 1) := by decide +kernel
theorem dL_law_760 : decode cL_law 760 = .ok (.invokevirtual 89, 3) := by decide +kernel
theorem dL_law_763 : decode cL_law 763 = .ok (.aload_n 2, 1) := by decide +kernel
theorem dL_law_764 : decode cL_law 764 = .ok (.aload_n 0, 1) := by decide +kernel
theorem dL_law_765 : decode cL_law 765 = .ok (.iload_n 3, 1) := by decide +kernel
theorem dL_law_766 : decode cL_law 766 = .ok (.iconst 1, 1) := by decide +kernel
theorem dL_law_767 : decode cL_law 767 = .ok (.iadd, 1) := by decide +kernel
theorem dL_law_768 : decode cL_law 768 = .ok (.iaload, 1) := by decide +kernel
theorem dL_law_769 : decode cL_law 769 = .ok (.invokevirtual 92, 3) := by decide +kernel
theorem dL_law_772 : decode cL_law 772 = .ok (.if_icmp .eq 429, 3) := by decide +kernel
theorem dL_law_775 : decode cL_law 775 = .ok (.iconst 0, 1) := by decide +kernel
theorem dL_law_776 : decode cL_law 776 = .ok (.ireturn, 1) := by decide +kernel
theorem dL_law_777 : decode cL_law 777 = .ok (.aload_n 1, 1) := by decide +kernel
theorem dL_law_778 : decode cL_law 778 = .ok (.aload_n 0, 1) := by decide +kernel
theorem dL_law_779 : decode cL_law 779 = .ok (.iload_n 3, 1) := by decide +kernel
theorem dL_law_780 : decode cL_law 780 = .ok (.iconst 1, 1) := by decide +kernel
theorem dL_law_781 : decode cL_law 781 = .ok (.iadd, 1) := by decide +kernel
theorem dL_law_782 : decode cL_law 782 = .ok (.iaload, 1) := by decide +kernel
theorem dL_law_783 : decode cL_law 783 = .ok (.invokevirtual 93, 3) := by decide +kernel
theorem dL_law_786 : decode cL_law 786 = .ok (.aload_n 2, 1) := by decide +kernel
theorem dL_law_787 : decode cL_law 787 = .ok (.aload_n 0, 1) := by decide +kernel
theorem dL_law_788 : decode cL_law 788 = .ok (.iload_n 3, 1) := by decide +kernel
theorem dL_law_789 : decode cL_law 789 = .ok (.iconst 1, 1) := by decide +kernel
theorem dL_law_790 : decode cL_law 790 = .ok (.iadd, 1) := by decide +kernel
theorem dL_law_791 : decode cL_law 791 = .ok (.iaload, 1) := by decide +kernel
theorem dL_law_792 : decode cL_law 792 = .ok (.invokevirtual 96, 3) := by decide +kernel
theorem dL_law_795 : decode cL_law 795 = .ok (.if_icmp .eq 406, 3) := by decide +kernel
theorem dL_law_798 : decode cL_law 798 = .ok (.iconst 0, 1) := by decide +kernel
theorem dL_law_799 : decode cL_law 799 = .ok (.ireturn, 1) := by decide +kernel
theorem dL_law_800 : decode cL_law 800 = .ok (.aload_n 1, 1) := by decide +kernel
theorem dL_law_801 : decode cL_law 801 = .ok (.aload_n 0, 1) := by decide +kernel
theorem dL_law_802 : decode cL_law 802 = .ok (.iload_n 3, 1) := by decide +kernel
theorem dL_law_803 : decode cL_law 803 = .ok (.iconst 1, 1) := by decide +kernel
theorem dL_law_804 : decode cL_law 804 = .ok (.iadd, 1) := by decide +kernel
theorem dL_law_805 : decode cL_law 805 = .ok (.iaload, 1) := by decide +kernel
theorem dL_law_806 : decode cL_law 806 = .ok (.invokevirtual 97, 3) := by decide +kernel
theorem dL_law_809 : decode cL_law 809 = .ok (.aload_n 2, 1) := by decide +kernel
theorem dL_law_810 : decode cL_law 810 = .ok (.aload_n 0, 1) := by decide +kernel
theorem dL_law_811 : decode cL_law 811 = .ok (.iload_n 3, 1) := by decide +kernel
theorem dL_law_812 : decode cL_law 812 = .ok (.iconst 1, 1) := by decide +kernel
theorem dL_law_813 : decode cL_law 813 = .ok (.iadd, 1) := by decide +kernel
theorem dL_law_814 : decode cL_law 814 = .ok (.iaload, 1) := by decide +kernel
theorem dL_law_815 : decode cL_law 815 = .ok (.invokevirtual 100, 3) := by decide +kernel
theorem dL_law_818 : decode cL_law 818 = .ok (.if_icmp .eq 383, 3) := by decide +kernel
theorem dL_law_821 : decode cL_law 821 = .ok (.iconst 0, 1) := by decide +kernel
theorem dL_law_822 : decode cL_law 822 = .ok (.ireturn, 1) := by decide +kernel
theorem dL_law_823 : decode cL_law 823 = .ok (.aload_n 1, 1) := by decide +kernel
theorem dL_law_824 : decode cL_law 824 = .ok (.aload_n 0, 1) := by decide +kernel
theorem dL_law_825 : decode cL_law 825 = .ok (.iload_n 3, 1) := by decide +kernel
theorem dL_law_826 : decode cL_law 826 = .ok (.iconst 1, 1) := by decide +kernel
theorem dL_law_827 : decode cL_law 827 = .ok (.iadd, 1) := by decide +kernel
theorem dL_law_828 : decode cL_law 828 = .ok (.iaload, 1) := by decide +kernel
theorem dL_law_829 : decode cL_law 829 = .ok (.aload_n 0, 1) := by decide +kernel
theorem dL_law_830 : decode cL_law 830 = .ok (.iload_n 3, 1) := by decide +kernel
theorem dL_law_831 : decode cL_law 831 = .ok (.iconst 2, 1) := by decide +kernel
theorem dL_law_832 : decode cL_law 832 = .ok (.iadd, 1) := by decide +kernel
theorem dL_law_833 : decode cL_law 833 = .ok (.iaload, 1) := by decide +kernel
theorem dL_law_834 : decode cL_law 834 = .ok (.invokevirtual 101, 3) := by decide +kernel
theorem dL_law_837 : decode cL_law 837 = .ok (.aload_n 2, 1) := by decide +kernel
theorem dL_law_838 : decode cL_law 838 = .ok (.aload_n 0, 1) := by decide +kernel
theorem dL_law_839 : decode cL_law 839 = .ok (.iload_n 3, 1) := by decide +kernel
theorem dL_law_840 : decode cL_law 840 = .ok (.iconst 1, 1) := by decide +kernel
theorem dL_law_841 : decode cL_law 841 = .ok (.iadd, 1) := by decide +kernel
theorem dL_law_842 : decode cL_law 842 = .ok (.iaload, 1) := by decide +kernel
theorem dL_law_843 : decode cL_law 843 = .ok (.aload_n 0, 1) := by decide +kernel
theorem dL_law_844 : decode cL_law 844 = .ok (.iload_n 3, 1) := by decide +kernel
theorem dL_law_845 : decode cL_law 845 = .ok (.iconst 2, 1) := by decide +kernel
theorem dL_law_846 : decode cL_law 846 = .ok (.iadd, 1) := by decide +kernel
theorem dL_law_847 : decode cL_law 847 = .ok (.iaload, 1) := by decide +kernel
theorem dL_law_848 : decode cL_law 848 = .ok (.invokevirtual 105, 3) := by decide +kernel
theorem dL_law_851 : decode cL_law 851 = .ok (.lcmp, 1) := by decide +kernel
theorem dL_law_852 : decode cL_law 852 = .ok (.ifCond .eq 349, 3) := by decide +kernel
theorem dL_law_855 : decode cL_law 855 = .ok (.iconst 0, 1) := by decide +kernel
theorem dL_law_856 : decode cL_law 856 = .ok (.ireturn, 1) := by decide +kernel
theorem dL_law_857 : decode cL_law 857 = .ok (.aload_n 1, 1) := by decide +kernel
theorem dL_law_858 : decode cL_law 858 = .ok (.aload_n 0, 1) := by decide +kernel
theorem dL_law_859 : decode cL_law 859 = .ok (.iload_n 3, 1) := by decide +kernel
theorem dL_law_860 : decode cL_law 860 = .ok (.iconst 1, 1) := by decide +kernel
theorem dL_law_861 : decode cL_law 861 = .ok (.iadd, 1) := by decide +kernel
theorem dL_law_862 : decode cL_law 862 = .ok (.iaload, 1) := by decide +kernel
theorem dL_law_863 : decode cL_law 863 = .ok (.aload_n 0, 1) := by decide +kernel
theorem dL_law_864 : decode cL_law 864 = .ok (.iload_n 3, 1) := by decide +kernel
theorem dL_law_865 : decode cL_law 865 = .ok (.iconst 2, 1) := by decide +kernel
theorem dL_law_866 : decode cL_law 866 = .ok (.iadd, 1) := by decide +kernel
theorem dL_law_867 : decode cL_law 867 = .ok (.iaload, 1) := by decide +kernel
theorem dL_law_868 : decode cL_law 868 = .ok (.aload_n 0, 1) := by decide +kernel
theorem dL_law_869 : decode cL_law 869 = .ok (.iload_n 3, 1) := by decide +kernel
theorem dL_law_870 : decode cL_law 870 = .ok (.iconst 3, 1) := by decide +kernel
theorem dL_law_871 : decode cL_law 871 = .ok (.iadd, 1) := by decide +kernel
theorem dL_law_872 : decode cL_law 872 = .ok (.iaload, 1) := by decide +kernel
theorem dL_law_873 : decode cL_law 873 = .ok (.invokevirtual 106, 3) := by decide +kernel
theorem dL_law_876 : decode cL_law 876 = .ok (.aload_n 2, 1) := by decide +kernel
theorem dL_law_877 : decode cL_law 877 = .ok (.aload_n 0, 1) := by decide +kernel
theorem dL_law_878 : decode cL_law 878 = .ok (.iload_n 3, 1) := by decide +kernel
theorem dL_law_879 : decode cL_law 879 = .ok (.iconst 1, 1) := by decide +kernel
theorem dL_law_880 : decode cL_law 880 = .ok (.iadd, 1) := by decide +kernel
theorem dL_law_881 : decode cL_law 881 = .ok (.iaload, 1) := by decide +kernel
theorem dL_law_882 : decode cL_law 882 = .ok (.aload_n 0, 1) := by decide +kernel
theorem dL_law_883 : decode cL_law 883 = .ok (.iload_n 3, 1) := by decide +kernel
theorem dL_law_884 : decode cL_law 884 = .ok (.iconst 2, 1) := by decide +kernel
theorem dL_law_885 : decode cL_law 885 = .ok (.iadd, 1) := by decide +kernel
theorem dL_law_886 : decode cL_law 886 = .ok (.iaload, 1) := by decide +kernel
theorem dL_law_887 : decode cL_law 887 = .ok (.aload_n 0, 1) := by decide +kernel
theorem dL_law_888 : decode cL_law 888 = .ok (.iload_n 3, 1) := by decide +kernel
theorem dL_law_889 : decode cL_law 889 = .ok (.iconst 3, 1) := by decide +kernel
theorem dL_law_890 : decode cL_law 890 = .ok (.iadd, 1) := by decide +kernel
theorem dL_law_891 : decode cL_law 891 = .ok (.iaload, 1) := by decide +kernel
theorem dL_law_892 : decode cL_law 892 = .ok (.invokevirtual 110, 3) := by decide +kernel
theorem dL_law_895 : decode cL_law 895 = .ok (.if_icmp .eq 306, 3) := by decide +kernel
theorem dL_law_898 : decode cL_law 898 = .ok (.iconst 0, 1) := by decide +kernel
theorem dL_law_899 : decode cL_law 899 = .ok (.ireturn, 1) := by decide +kernel
theorem dL_law_900 : decode cL_law 900 = .ok (.aload_n 1, 1) := by decide +kernel
theorem dL_law_901 : decode cL_law 901 = .ok (.aload_n 0, 1) := by decide +kernel
theorem dL_law_902 : decode cL_law 902 = .ok (.iload_n 3, 1) := by decide +kernel
theorem dL_law_903 : decode cL_law 903 = .ok (.iconst 1, 1) := by decide +kernel
theorem dL_law_904 : decode cL_law 904 = .ok (.iadd, 1) := by decide +kernel
theorem dL_law_905 : decode cL_law 905 = .ok (.iaload, 1) := by decide +kernel
theorem dL_law_906 : decode cL_law 906 = .ok (.invokevirtual 111, 3) := by decide +kernel
theorem dL_law_909 : decode cL_law 909 = .ok (.aload_n 2, 1) := by decide +kernel
theorem dL_law_910 : decode cL_law 910 = .ok (.aload_n 0, 1) := by decide +kernel
theorem dL_law_911 : decode cL_law 911 = .ok (.iload_n 3, 1) := by decide +kernel
theorem dL_law_912 : decode cL_law 912 = .ok (.iconst 1, 1) := by decide +kernel
theorem dL_law_913 : decode cL_law 913 = .ok (.iadd, 1) := by decide +kernel
theorem dL_law_914 : decode cL_law 914 = .ok (.iaload, 1) := by decide +kernel
theorem dL_law_915 : decode cL_law 915 = .ok (.invokevirtual 114, 3) := by decide +kernel
theorem dL_law_918 : decode cL_law 918 = .ok (.if_icmp .eq 283, 3) := by decide +kernel
theorem dL_law_921 : decode cL_law 921 = .ok (.iconst 0, 1) := by decide +kernel
theorem dL_law_922 : decode cL_law 922 = .ok (.ireturn, 1) := by decide +kernel
theorem dL_law_923 : decode cL_law 923 = .ok (.aload_n 1, 1) := by decide +kernel
theorem dL_law_924 : decode cL_law 924 = .ok (.aload_n 0, 1) := by decide +kernel
theorem dL_law_925 : decode cL_law 925 = .ok (.iload_n 3, 1) := by decide +kernel
theorem dL_law_926 : decode cL_law 926 = .ok (.iconst 1, 1) := by decide +kernel
theorem dL_law_927 : decode cL_law 927 = .ok (.iadd, 1) := by decide +kernel
theorem dL_law_928 : decode cL_law 928 = .ok (.iaload, 1) := by decide +kernel
theorem dL_law_929 : decode cL_law 929 = .ok (.aload_n 0, 1) := by decide +kernel
theorem dL_law_930 : decode cL_law 930 = .ok (.iload_n 3, 1) := by decide +kernel
theorem dL_law_931 : decode cL_law 931 = .ok (.iconst 2, 1) := by decide +kernel
theorem dL_law_932 : decode cL_law 932 = .ok (.iadd, 1) := by decide +kernel
theorem dL_law_933 : decode cL_law 933 = .ok (.iaload, 1) := by decide +kernel
theorem dL_law_934 : decode cL_law 934 = .ok (.aload_n 0, 1) := by decide +kernel
theorem dL_law_935 : decode cL_law 935 = .ok (.iload_n 3, 1) := by decide +kernel
theorem dL_law_936 : decode cL_law 936 = .ok (.iconst 3, 1) := by decide +kernel
theorem dL_law_937 : decode cL_law 937 = .ok (.iadd, 1) := by decide +kernel
theorem dL_law_938 : decode cL_law 938 = .ok (.iaload, 1) := by decide +kernel
theorem dL_law_939 : decode cL_law 939 = .ok (.invokevirtual 115, 3) := by decide +kernel
theorem dL_law_942 : decode cL_law 942 = .ok (.aload_n 2, 1) := by decide +kernel
theorem dL_law_943 : decode cL_law 943 = .ok (.aload_n 0, 1) := by decide +kernel
theorem dL_law_944 : decode cL_law 944 = .ok (.iload_n 3, 1) := by decide +kernel
theorem dL_law_945 : decode cL_law 945 = .ok (.iconst 1, 1) := by decide +kernel
theorem dL_law_946 : decode cL_law 946 = .ok (.iadd, 1) := by decide +kernel
theorem dL_law_947 : decode cL_law 947 = .ok (.iaload, 1) := by decide +kernel
theorem dL_law_948 : decode cL_law 948 = .ok (.aload_n 0, 1) := by decide +kernel
theorem dL_law_949 : decode cL_law 949 = .ok (.iload_n 3, 1) := by decide +kernel
theorem dL_law_950 : decode cL_law 950 = .ok (.iconst 2, 1) := by decide +kernel
theorem dL_law_951 : decode cL_law 951 = .ok (.iadd, 1) := by decide +kernel
theorem dL_law_952 : decode cL_law 952 = .ok (.iaload, 1) := by decide +kernel
theorem dL_law_953 : decode cL_law 953 = .ok (.aload_n 0, 1) := by decide +kernel
theorem dL_law_954 : decode cL_law 954 = .ok (.iload_n 3, 1) := by decide +kernel
theorem dL_law_955 : decode cL_law 955 = .ok (.iconst 3, 1) := by decide +kernel
theorem dL_law_956 : decode cL_law 956 = .ok (.iadd, 1) := by decide +kernel
theorem dL_law_957 : decode cL_law 957 = .ok (.iaload, 1) := by decide +kernel
theorem dL_law_958 : decode cL_law 958 = .ok (.invokevirtual 118, 3) := by decide +kernel
theorem dL_law_961 : decode cL_law 961 = .ok (.if_icmp .eq 240, 3) := by decide +kernel
theorem dL_law_964 : decode cL_law 964 = .ok (.iconst 0, 1) := by decide +kernel
theorem dL_law_965 : decode cL_law 965 = .ok (.ireturn, 1) := by decide +kernel
theorem dL_law_966 : decode cL_law 966 = .ok (.aload_n 1, 1) := by decide +kernel
theorem dL_law_967 : decode cL_law 967 = .ok (.aload_n 0, 1) := by decide +kernel
theorem dL_law_968 : decode cL_law 968 = .ok (.iload_n 3, 1) := by decide +kernel
theorem dL_law_969 : decode cL_law 969 = .ok (.iconst 1, 1) := by decide +kernel
theorem dL_law_970 : decode cL_law 970 = .ok (.iadd, 1) := by decide +kernel
theorem dL_law_971 : decode cL_law 971 = .ok (.iaload, 1) := by decide +kernel
theorem dL_law_972 : decode cL_law 972 = .ok (.aload_n 0, 1) := by decide +kernel
theorem dL_law_973 : decode cL_law 973 = .ok (.iload_n 3, 1) := by decide +kernel
theorem dL_law_974 : decode cL_law 974 = .ok (.iconst 2, 1) := by decide +kernel
theorem dL_law_975 : decode cL_law 975 = .ok (.iadd, 1) := by decide +kernel
theorem dL_law_976 : decode cL_law 976 = .ok (.iaload, 1) := by decide +kernel
theorem dL_law_977 : decode cL_law 977 = .ok (.aload_n 0, 1) := by decide +kernel
theorem dL_law_978 : decode cL_law 978 = .ok (.iload_n 3, 1) := by decide +kernel
theorem dL_law_979 : decode cL_law 979 = .ok (.iconst 3, 1) := by decide +kernel
theorem dL_law_980 : decode cL_law 980 = .ok (.iadd, 1) := by decide +kernel
theorem dL_law_981 : decode cL_law 981 = .ok (.iaload, 1) := by decide +kernel
theorem dL_law_982 : decode cL_law 982 = .ok (.invokevirtual 119, 3) := by decide +kernel
theorem dL_law_985 : decode cL_law 985 = .ok (.aload_n 2, 1) := by decide +kernel
theorem dL_law_986 : decode cL_law 986 = .ok (.aload_n 0, 1) := by decide +kernel
theorem dL_law_987 : decode cL_law 987 = .ok (.iload_n 3, 1) := by decide +kernel
theorem dL_law_988 : decode cL_law 988 = .ok (.iconst 1, 1) := by decide +kernel
theorem dL_law_989 : decode cL_law 989 = .ok (.iadd, 1) := by decide +kernel
theorem dL_law_990 : decode cL_law 990 = .ok (.iaload, 1) := by decide +kernel
theorem dL_law_991 : decode cL_law 991 = .ok (.aload_n 0, 1) := by decide +kernel
theorem dL_law_992 : decode cL_law 992 = .ok (.iload_n 3, 1) := by decide +kernel
theorem dL_law_993 : decode cL_law 993 = .ok (.iconst 2, 1) := by decide +kernel
theorem dL_law_994 : decode cL_law 994 = .ok (.iadd, 1) := by decide +kernel
theorem dL_law_995 : decode cL_law 995 = .ok (.iaload, 1) := by decide +kernel
theorem dL_law_996 : decode cL_law 996 = .ok (.aload_n 0, 1) := by decide +kernel
theorem dL_law_997 : decode cL_law 997 = .ok (.iload_n 3, 1) := by decide +kernel
theorem dL_law_998 : decode cL_law 998 = .ok (.iconst 3, 1) := by decide +kernel
theorem dL_law_999 : decode cL_law 999 = .ok (.iadd, 1) := by decide +kernel
theorem dL_law_1000 : decode cL_law 1000 = .ok (.iaload, 1) := by decide +kernel
theorem dL_law_1001 : decode cL_law 1001 = .ok (.invokevirtual 123, 3) := by decide +kernel
theorem dL_law_1004 : decode cL_law 1004 = .ok (.lcmp, 1) := by decide +kernel
theorem dL_law_1005 : decode cL_law 1005 = .ok (.ifCond .eq 196, 3) := by decide +kernel
theorem dL_law_1008 : decode cL_law 1008 = .ok (.iconst 0, 1) := by decide +kernel
theorem dL_law_1009 : decode cL_law 1009 = .ok (.ireturn, 1) := by decide +kernel
theorem dL_law_1010 : decode cL_law 1010 = .ok (.aload_n 1, 1) := by decide +kernel
theorem dL_law_1011 : decode cL_law 1011 = .ok (.aload_n 0, 1) := by decide +kernel
theorem dL_law_1012 : decode cL_law 1012 = .ok (.iload_n 3, 1) := by decide +kernel
theorem dL_law_1013 : decode cL_law 1013 = .ok (.iconst 1, 1) := by decide +kernel
theorem dL_law_1014 : decode cL_law 1014 = .ok (.iadd, 1) := by decide +kernel
theorem dL_law_1015 : decode cL_law 1015 = .ok (.iaload, 1) := by decide +kernel
theorem dL_law_1016 : decode cL_law 1016 = .ok (.aload_n 0, 1) := by decide +kernel
theorem dL_law_1017 : decode cL_law 1017 = .ok (.iload_n 3, 1) := by decide +kernel
theorem dL_law_1018 : decode cL_law 1018 = .ok (.iconst 2, 1) := by decide +kernel
theorem dL_law_1019 : decode cL_law 1019 = .ok (.iadd, 1) := by decide +kernel
theorem dL_law_1020 : decode cL_law 1020 = .ok (.iaload, 1) := by decide +kernel
theorem dL_law_1021 : decode cL_law 1021 = .ok (.aload_n 0, 1) := by decide +kernel
theorem dL_law_1022 : decode cL_law 1022 = .ok (.iload_n 3, 1) := by decide +kernel
theorem dL_law_1023 : decode cL_law 1023 = .ok (.iconst 3, 1) := by decide +kernel
theorem dL_law_1024 : decode cL_law 1024 = .ok (.iadd, 1) := by decide +kernel
theorem dL_law_1025 : decode cL_law 1025 = .ok (.iaload, 1) := by decide +kernel
theorem dL_law_1026 : decode cL_law 1026 = .ok (.aload_n 0, 1) := by decide +kernel
theorem dL_law_1027 : decode cL_law 1027 = .ok (.iload_n 3, 1) := by decide +kernel
theorem dL_law_1028 : decode cL_law 1028 = .ok (.iconst 4, 1) := by decide +kernel
theorem dL_law_1029 : decode cL_law 1029 = .ok (.iadd, 1) := by decide +kernel
theorem dL_law_1030 : decode cL_law 1030 = .ok (.iaload, 1) := by decide +kernel
theorem dL_law_1031 : decode cL_law 1031 = .ok (.aload_n 0, 1) := by decide +kernel
theorem dL_law_1032 : decode cL_law 1032 = .ok (.iload_n 3, 1) := by decide +kernel
theorem dL_law_1033 : decode cL_law 1033 = .ok (.iconst 5, 1) := by decide +kernel
theorem dL_law_1034 : decode cL_law 1034 = .ok (.iadd, 1) := by decide +kernel
theorem dL_law_1035 : decode cL_law 1035 = .ok (.iaload, 1) := by decide +kernel
theorem dL_law_1036 : decode cL_law 1036 = .ok (.invokevirtual 124, 3) := by decide +kernel
theorem dL_law_1039 : decode cL_law 1039 = .ok (.aload_n 2, 1) := by decide +kernel
theorem dL_law_1040 : decode cL_law 1040 = .ok (.aload_n 0, 1) := by decide +kernel
theorem dL_law_1041 : decode cL_law 1041 = .ok (.iload_n 3, 1) := by decide +kernel
theorem dL_law_1042 : decode cL_law 1042 = .ok (.iconst 1, 1) := by decide +kernel
theorem dL_law_1043 : decode cL_law 1043 = .ok (.iadd, 1) := by decide +kernel
theorem dL_law_1044 : decode cL_law 1044 = .ok (.iaload, 1) := by decide +kernel
theorem dL_law_1045 : decode cL_law 1045 = .ok (.aload_n 0, 1) := by decide +kernel
theorem dL_law_1046 : decode cL_law 1046 = .ok (.iload_n 3, 1) := by decide +kernel
theorem dL_law_1047 : decode cL_law 1047 = .ok (.iconst 2, 1) := by decide +kernel
theorem dL_law_1048 : decode cL_law 1048 = .ok (.iadd, 1) := by decide +kernel
theorem dL_law_1049 : decode cL_law 1049 = .ok (.iaload, 1) := by decide +kernel
theorem dL_law_1050 : decode cL_law 1050 = .ok (.aload_n 0, 1) := by decide +kernel
theorem dL_law_1051 : decode cL_law 1051 = .ok (.iload_n 3, 1) := by decide +kernel
theorem dL_law_1052 : decode cL_law 1052 = .ok (.iconst 3, 1) := by decide +kernel
theorem dL_law_1053 : decode cL_law 1053 = .ok (.iadd, 1) := by decide +kernel
theorem dL_law_1054 : decode cL_law 1054 = .ok (.iaload, 1) := by decide +kernel
theorem dL_law_1055 : decode cL_law 1055 = .ok (.aload_n 0, 1) := by decide +kernel
theorem dL_law_1056 : decode cL_law 1056 = .ok (.iload_n 3, 1) := by decide +kernel
theorem dL_law_1057 : decode cL_law 1057 = .ok (.iconst 4, 1) := by decide +kernel
theorem dL_law_1058 : decode cL_law 1058 = .ok (.iadd, 1) := by decide +kernel
theorem dL_law_1059 : decode cL_law 1059 = .ok (.iaload, 1) := by decide +kernel
theorem dL_law_1060 : decode cL_law 1060 = .ok (.aload_n 0, 1) := by decide +kernel
theorem dL_law_1061 : decode cL_law 1061 = .ok (.iload_n 3, 1) := by decide +kernel
theorem dL_law_1062 : decode cL_law 1062 = .ok (.iconst 5, 1) := by decide +kernel
theorem dL_law_1063 : decode cL_law 1063 = .ok (.iadd, 1) := by decide +kernel
theorem dL_law_1064 : decode cL_law 1064 = .ok (.iaload, 1) := by decide +kernel
theorem dL_law_1065 : decode cL_law 1065 = .ok (.invokevirtual 127, 3) := by decide +kernel
theorem dL_law_1068 : decode cL_law 1068 = .ok (.if_icmp .eq 133, 3) := by decide +kernel
theorem dL_law_1071 : decode cL_law 1071 = .ok (.iconst 0, 1) := by decide +kernel
theorem dL_law_1072 : decode cL_law 1072 = .ok (.ireturn, 1) := by decide +kernel
theorem dL_law_1073 : decode cL_law 1073 = .ok (.aload_n 1, 1) := by decide +kernel
theorem dL_law_1074 : decode cL_law 1074 = .ok (.aload_n 0, 1) := by decide +kernel
theorem dL_law_1075 : decode cL_law 1075 = .ok (.iload_n 3, 1) := by decide +kernel
theorem dL_law_1076 : decode cL_law 1076 = .ok (.iconst 1, 1) := by decide +kernel
theorem dL_law_1077 : decode cL_law 1077 = .ok (.iadd, 1) := by decide +kernel
theorem dL_law_1078 : decode cL_law 1078 = .ok (.iaload, 1) := by decide +kernel
theorem dL_law_1079 : decode cL_law 1079 = .ok (.invokevirtual 128, 3) := by decide +kernel
theorem dL_law_1082 : decode cL_law 1082 = .ok (.aload_n 2, 1) := by decide +kernel
theorem dL_law_1083 : decode cL_law 1083 = .ok (.aload_n 0, 1) := by decide +kernel
theorem dL_law_1084 : decode cL_law 1084 = .ok (.iload_n 3, 1) := by decide +kernel
theorem dL_law_1085 : decode cL_law 1085 = .ok (.iconst 1, 1) := by decide +kernel
theorem dL_law_1086 : decode cL_law 1086 = .ok (.iadd, 1) := by decide +kernel
theorem dL_law_1087 : decode cL_law 1087 = .ok (.iaload, 1) := by decide +kernel
theorem dL_law_1088 : decode cL_law 1088 = .ok (.invokevirtual 131, 3) := by decide +kernel
theorem dL_law_1091 : decode cL_law 1091 = .ok (.if_icmp .eq 110, 3) := by decide +kernel
theorem dL_law_1094 : decode cL_law 1094 = .ok (.iconst 0, 1) := by decide +kernel
theorem dL_law_1095 : decode cL_law 1095 = .ok (.ireturn, 1) := by decide +kernel
theorem dL_law_1096 : decode cL_law 1096 = .ok (.aload_n 1, 1) := by decide +kernel
theorem dL_law_1097 : decode cL_law 1097 = .ok (.aload_n 0, 1) := by decide +kernel
theorem dL_law_1098 : decode cL_law 1098 = .ok (.iload_n 3, 1) := by decide +kernel
theorem dL_law_1099 : decode cL_law 1099 = .ok (.iconst 1, 1) := by decide +kernel
theorem dL_law_1100 : decode cL_law 1100 = .ok (.iadd, 1) := by decide +kernel
theorem dL_law_1101 : decode cL_law 1101 = .ok (.iaload, 1) := by decide +kernel
theorem dL_law_1102 : decode cL_law 1102 = .ok (.invokevirtual 132, 3) := by decide +kernel
theorem dL_law_1105 : decode cL_law 1105 = .ok (.aload_n 2, 1) := by decide +kernel
theorem dL_law_1106 : decode cL_law 1106 = .ok (.aload_n 0, 1) := by decide +kernel
theorem dL_law_1107 : decode cL_law 1107 = .ok (.iload_n 3, 1) := by decide +kernel
theorem dL_law_1108 : decode cL_law 1108 = .ok (.iconst 1, 1) := by decide +kernel
theorem dL_law_1109 : decode cL_law 1109 = .ok (.iadd, 1) := by decide +kernel
theorem dL_law_1110 : decode cL_law 1110 = .ok (.iaload, 1) := by decide +kernel
theorem dL_law_1111 : decode cL_law 1111 = .ok (.invokevirtual 135, 3) := by decide +kernel
theorem dL_law_1114 : decode cL_law 1114 = .ok (.if_icmp .eq 87, 3) := by decide +kernel
theorem dL_law_1117 : decode cL_law 1117 = .ok (.iconst 0, 1) := by decide +kernel
theorem dL_law_1118 : decode cL_law 1118 = .ok (.ireturn, 1) := by decide +kernel
theorem dL_law_1119 : decode cL_law 1119 = .ok (.aload_n 1, 1) := by decide +kernel
theorem dL_law_1120 : decode cL_law 1120 = .ok (.aload_n 0, 1) := by decide +kernel
theorem dL_law_1121 : decode cL_law 1121 = .ok (.iload_n 3, 1) := by decide +kernel
theorem dL_law_1122 : decode cL_law 1122 = .ok (.iconst 1, 1) := by decide +kernel
theorem dL_law_1123 : decode cL_law 1123 = .ok (.iadd, 1) := by decide +kernel
theorem dL_law_1124 : decode cL_law 1124 = .ok (.iaload, 1) := by decide +kernel
theorem dL_law_1125 : decode cL_law 1125 = .ok (.aload_n 0, 1) := by decide +kernel
theorem dL_law_1126 : decode cL_law 1126 = .ok (.iload_n 3, 1) := by decide +kernel
theorem dL_law_1127 : decode cL_law 1127 = .ok (.iconst 2, 1) := by decide +kernel
theorem dL_law_1128 : decode cL_law 1128 = .ok (.iadd, 1) := by decide +kernel
theorem dL_law_1129 : decode cL_law 1129 = .ok (.iaload, 1) := by decide +kernel
theorem dL_law_1130 : decode cL_law 1130 = .ok (.invokevirtual 136, 3) := by decide +kernel
theorem dL_law_1133 : decode cL_law 1133 = .ok (.aload_n 2, 1) := by decide +kernel
theorem dL_law_1134 : decode cL_law 1134 = .ok (.aload_n 0, 1) := by decide +kernel
theorem dL_law_1135 : decode cL_law 1135 = .ok (.iload_n 3, 1) := by decide +kernel
theorem dL_law_1136 : decode cL_law 1136 = .ok (.iconst 1, 1) := by decide +kernel
theorem dL_law_1137 : decode cL_law 1137 = .ok (.iadd, 1) := by decide +kernel
theorem dL_law_1138 : decode cL_law 1138 = .ok (.iaload, 1) := by decide +kernel
theorem dL_law_1139 : decode cL_law 1139 = .ok (.aload_n 0, 1) := by decide +kernel
theorem dL_law_1140 : decode cL_law 1140 = .ok (.iload_n 3, 1) := by decide +kernel
theorem dL_law_1141 : decode cL_law 1141 = .ok (.iconst 2, 1) := by decide +kernel
theorem dL_law_1142 : decode cL_law 1142 = .ok (.iadd, 1) := by decide +kernel
theorem dL_law_1143 : decode cL_law 1143 = .ok (.iaload, 1) := by decide +kernel
theorem dL_law_1144 : decode cL_law 1144 = .ok (.invokevirtual 139, 3) := by decide +kernel
theorem dL_law_1147 : decode cL_law 1147 = .ok (.if_icmp .eq 54, 3) := by decide +kernel
theorem dL_law_1150 : decode cL_law 1150 = .ok (.iconst 0, 1) := by decide +kernel
theorem dL_law_1151 : decode cL_law 1151 = .ok (.ireturn, 1) := by decide +kernel
theorem dL_law_1152 : decode cL_law 1152 = .ok (.aload_n 1, 1) := by decide +kernel
theorem dL_law_1153 : decode cL_law 1153 = .ok (.invokevirtual 140, 3) := by decide +kernel
theorem dL_law_1156 : decode cL_law 1156 = .ok (.aload_n 2, 1) := by decide +kernel
theorem dL_law_1157 : decode cL_law 1157 = .ok (.invokevirtual 144, 3) := by decide +kernel
theorem dL_law_1160 : decode cL_law 1160 = .ok (.if_icmp .eq 41, 3) := by decide +kernel
theorem dL_law_1163 : decode cL_law 1163 = .ok (.iconst 0, 1) := by decide +kernel
theorem dL_law_1164 : decode cL_law 1164 = .ok (.ireturn, 1) := by decide +kernel
theorem dL_law_1165 : decode cL_law 1165 = .ok (.aload_n 1, 1) := by decide +kernel
theorem dL_law_1166 : decode cL_law 1166 = .ok (.invokevirtual 145, 3) := by decide +kernel
theorem dL_law_1169 : decode cL_law 1169 = .ok (.aload_n 2, 1) := by decide +kernel
theorem dL_law_1170 : decode cL_law 1170 = .ok (.invokevirtual 148, 3) := by decide +kernel
theorem dL_law_1173 : decode cL_law 1173 = .ok (.if_icmp .eq 28, 3) := by decide +kernel
theorem dL_law_1176 : decode cL_law 1176 = .ok (.iconst 0, 1) := by decide +kernel
theorem dL_law_1177 : decode cL_law 1177 = .ok (.ireturn, 1) := by decide +kernel
theorem dL_law_1178 : decode cL_law 1178 = .ok (.aload_n 1, 1) := by decide +kernel
theorem dL_law_1179 : decode cL_law 1179 = .ok (.aload_n 0, 1) := by decide +kernel
theorem dL_law_1180 : decode cL_law 1180 = .ok (.iload_n 3, 1) := by decide +kernel
theorem dL_law_1181 : decode cL_law 1181 = .ok (.iconst 1, 1) := by decide +kernel
theorem dL_law_1182 : decode cL_law 1182 = .ok (.iadd, 1) := by decide +kernel
theorem dL_law_1183 : decode cL_law 1183 = .ok (.iaload, 1) := by decide +kernel
theorem dL_law_1184 : decode cL_law 1184 = .ok (.invokevirtual 149, 3) := by decide +kernel
theorem dL_law_1187 : decode cL_law 1187 = .ok (.aload_n 2, 1) := by decide +kernel
theorem dL_law_1188 : decode cL_law 1188 = .ok (.aload_n 0, 1) := by decide +kernel
theorem dL_law_1189 : decode cL_law 1189 = .ok (.iload_n 3, 1) := by decide +kernel
theorem dL_law_1190 : decode cL_law 1190 = .ok (.iconst 1, 1) := by decide +kernel
theorem dL_law_1191 : decode cL_law 1191 = .ok (.iadd, 1) := by decide +kernel
theorem dL_law_1192 : decode cL_law 1192 = .ok (.iaload, 1) := by decide +kernel
theorem dL_law_1193 : decode cL_law 1193 = .ok (.invokevirtual 152, 3) := by decide +kernel
theorem dL_law_1196 : decode cL_law 1196 = .ok (.if_icmp .eq 5, 3) := by decide +kernel
theorem dL_law_1199 : decode cL_law 1199 = .ok (.iconst 0, 1) := by decide +kernel
theorem dL_law_1200 : decode cL_law 1200 = .ok (.ireturn, 1) := by decide +kernel
theorem dL_law_1201 : decode cL_law 1201 = .ok (.iinc 3 6, 3) := by decide +kernel
theorem dL_law_1204 : decode cL_law 1204 = .ok (.goto (-1186), 3) := by decide +kernel
theorem dL_law_1207 : decode cL_law 1207 = .ok (.iconst 1, 1) := by decide +kernel
theorem dL_law_1208 : decode cL_law 1208 = .ok (.ireturn, 1) := by decide +kernel
end
section
def lwG : List Cond := lw_tbl.filter goodWord
theorem lwG_at {w : Cond} (i : Nat) (h : lw_tbl[i]? = some w) (g : goodWord w = true) : w ∈ lwG := List.mem_filter.mpr ⟨List.mem_of_getElem? h, g⟩
theorem lwG_good : GoodIn lwG lwG := fun _ h => ⟨h, good_of_word (List.mem_filter.mp h).2⟩
abbrev kS (y : MethodName) (cc : ByteArray) (n : Nat) (r : Option FieldType) : List Cond := Cond.code y cc n r :: lwG
theorem kG_S {y : MethodName} {cc : ByteArray} {n : Nat} {r : Option FieldType} (h : Cond.code y cc n r ∈ lwG) : GoodIn lwG (kS y cc n r) := fun w hw => (List.mem_cons.mp hw).elim (fun e => by rw [e]; exact lwG_good _ h) (lwG_good w)
theorem kG_V {own C : String} {idx : Nat} {y : MethodName} {cc : ByteArray} {n : Nat} {r : Option FieldType} (h1 : Cond.methodLink own idx y ∈ lwG) (h2 : Cond.instanceMethod y ∈ lwG) (h3 : Cond.selects C y y ∈ lwG) (h4 : Cond.initialized C ∈ lwG) (h5 : Cond.code y cc n r ∈ lwG) : GoodIn lwG (wsV own idx C y (kS y cc n r)) := by
  intro w hw
  unfold wsV at hw
  rcases List.mem_append.mp hw with h | h
  · simp only [List.mem_cons, List.not_mem_nil, or_false] at h
    rcases h with rfl | rfl | rfl | rfl
    · exact lwG_good _ h1
    · exact lwG_good _ h2
    · exact lwG_good _ h3
    · exact lwG_good _ h4
  · exact kG_S h5 w h
theorem kG_T {own : String} {idx : Nat} {y : MethodName} {cc : ByteArray} {n : Nat} {r : Option FieldType} (h1 : Cond.methodLink own idx y ∈ lwG) (h2 : Cond.static y ∈ lwG) (h4 : Cond.initialized y.cls ∈ lwG) (h5 : Cond.code y cc n r ∈ lwG) : GoodIn lwG (va_wsS own idx y (kS y cc n r)) := by
  intro w hw
  unfold va_wsS at hw
  rcases List.mem_append.mp hw with h | h
  · simp only [List.mem_cons, List.not_mem_nil, or_false] at h
    rcases h with rfl | rfl | rfl
    · exact lwG_good _ h1
    · exact lwG_good _ h2
    · exact lwG_good _ h4
  · exact kG_S h5 w h
/-- what a callee's words say once for all its calls -/
abbrev kCal (C : String) (y : MethodName) (cc : ByteArray) (n : Nat) (r : Option FieldType) (k : Nat) : Prop := Cond.instanceMethod y ∈ lwG ∧ Cond.selects C y y ∈ lwG ∧ Cond.initialized C ∈ lwG ∧ Cond.code y cc n r ∈ lwG ∧ (y.cls = C ∧ y.cls ≠ "java/lang/invoke/MethodHandle" ∧ y.cls ≠ "java/lang/invoke/VarHandle" ∧ (parseMethodDescriptor y.desc).map (fun d => d.parameters.length) = some k)
abbrev kCalT (y : MethodName) (cc : ByteArray) (n : Nat) (r : Option FieldType) (k : Nat) : Prop := Cond.static y ∈ lwG ∧ Cond.initialized y.cls ∈ lwG ∧ Cond.code y cc n r ∈ lwG ∧ (y.cls ≠ "java/lang/invoke/MethodHandle" ∧ y.cls ≠ "java/lang/invoke/VarHandle" ∧ (parseMethodDescriptor y.desc).map (fun d => d.parameters.length) = some k)
abbrev kV : Type := Nat → Int32
abbrev kR : Type := Nat → Nat → Int32
def kTys (cI cS : ClassId) : List (ClassId × FieldType) := [(cI, .int), (cS, .object "HalfCuts$Sheet")]
def kK (D : va_G) (cI cS : ClassId) (U : State) : Prop := va_K D vwCl (kTys cI cS) U ∧ va_Nw (.methodLinkNest RX0 55 yX6_floatBits "HalfCuts") U ∧ va_Nw (.methodLinkNest RX0 62 yX6_isCutBy "HalfCuts") U
theorem kK.warm {D : va_G} {cI cS : ClassId} {s U : State} (hW : s.WarmedH U.vm) (h : kK D cI cS s) : kK D cI cS U := ⟨va_K.moved hW.alike h.1, va_Nw.warmM hW h.2.1, va_Nw.warmM hW h.2.2⟩
theorem kK.calling {D : va_G} {cI cS : ClassId} {U : State} {g : JFrame} {mk : MethodId} {a : Array Value} (h : kK D cI cS U) : kK D cI cS (U.calling g mk a) := ⟨va_K.moved (u := U) (U := U.calling g mk a) (Vm.Alike.refl U.vm) h.1, va_Nw.same (u := U) (U := U.calling g mk a) rfl rfl h.2.1, va_Nw.same (u := U) (U := U.calling g mk a) rfl rfl h.2.2⟩
/-- the frame's own facts -/
abbrev kC (p : Program) (s : State) (m : MethodId) (c : Code) (args : Array Value) (cc : ByteArray) (nL : Nat) (own : String) (D : va_G) (cI cS : ClassId) : Prop := CallFix p m c cc nL s args lwG own ∧ kK D cI cS s
def kQ (D : va_G) (wf : kV → kR → va_W) (A : Nat → Prop) (o : Option Value) (v : kV) (ar : kR) : Array Value → State → Outcome → State → Prop := fun _ st oc t => oc = .returned o ∧ va_P D vwCl (wf v ar) t.heap ∧ va_F A st t
/-- THE CONTRACT: from the world (v, ar) it returns o, and the world is (v2, ar2) -/
def kMet (l : Launch) (D : va_G) (cI cS : ClassId) (wf : kV → kR → va_W) (A : Nat → Prop) (y : MethodName) (cc : ByteArray) (n : Nat) (r : Option FieldType) (fr lo : Nat) (av : List Value) (v : kV) (ar : kR) (o : Option Value) (v2 : kV) (ar2 : kR) : Prop := Met l y (kS y cc n r) { frames := fr, cells := 0, slots := 0, locals := lo } (va_Pc av (fun U => va_P D vwCl (wf v ar) U.heap ∧ kK D cI cS U)) (kQ D wf A o v2 ar2) 0 0 A
def kA (a : Nat → Nat) (n : Nat) : Nat → Prop := fun q => ∃ k, k < n ∧ q = a k
def kAp (a : Nat → Nat) (n : Nat) : Prop := ∀ i j, i < n → j < n → a i = a j → i = j
def bI (b : Bool) : Int32 := match b with | true => 1 | false => 0
theorem bI_0 {b : Bool} : bI b = 0 ↔ b = false := by cases b <;> decide
theorem bI_n (b : Bool) : narrow .boolean (.int (bI b)) = .int (bI b) := by cases b <;> rfl
def kb1 {α β : Type} (x : Option α) (k : α → Option β) : Option β := match x with | some y => k y | none => none
def kb2 {β : Type} (x : Option (kV × kR)) (k : kV → kR → Option β) : Option β := match x with | some (v, ar) => k v ar | none => none
def kb3 {α β : Type} (x : Option (α × kV × kR)) (k : α → kV → kR → Option β) : Option β := match x with | some (y, v, ar) => k y v ar | none => none
theorem kb1_s {α β : Type} {x : Option α} {k : α → Option β} {r : β} (h : kb1 x k = some r) : ∃ y, x = some y ∧ k y = some r := by
  cases x with
  | none => cases h
  | some y => exact ⟨y, rfl, h⟩
theorem kb2_s {β : Type} {x : Option (kV × kR)} {k : kV → kR → Option β} {r : β} (h : kb2 x k = some r) : ∃ v ar, x = some (v, ar) ∧ k v ar = some r := by
  cases x with
  | none => cases h
  | some y => exact ⟨y.1, y.2, rfl, h⟩
theorem kb3_s {α β : Type} {x : Option (α × kV × kR)} {k : α → kV → kR → Option β} {r : β} (h : kb3 x k = some r) : ∃ y v ar, x = some (y, v, ar) ∧ k y v ar = some r := by
  cases x with
  | none => cases h
  | some y => exact ⟨y.1, y.2.1, y.2.2, rfl, h⟩
theorem kif_t {c : Prop} [Decidable c] {α : Type} {t e : Option α} {r : α} (hc : c) (h : (if c then t else e) = some r) : t = some r := by rwa [if_pos hc] at h
theorem kif_f {c : Prop} [Decidable c] {α : Type} {t e : Option α} {r : α} (hc : ¬ c) (h : (if c then t else e) = some r) : e = some r := by rwa [if_neg hc] at h
/-- a check that must hold: what it guards is refused else -/
theorem kgd {c : Prop} [Decidable c] {α : Type} {e : Option α} {r : α} (h : (if c then none else e) = some r) : ¬ c ∧ e = some r := by
  by_cases hc : c
  · rw [if_pos hc] at h; cases h
  · rw [if_neg hc] at h; exact ⟨hc, h⟩
section KB
variable {p : Program} {l : Launch} {e : Env} {R : Room} {s : State} {m : MethodId} {args : Array Value} {below : List Frame} {meth : Method} {c : Code} {H : Heap} {locs : List Loc} {Q : State → Prop}
variable {cc : ByteArray} {pc nL : Nat} {ls : Array Slot} {rest : List Value} {own : String} {D : va_G} {cI cS : ClassId} {wf : kV → kR → va_W} {A : Nat → Prop} {v v2 : kV} {ar ar2 : kR} {st0 : List Value}
theorem kstart {y : MethodName} {n : Nat} {r : Option FieldType} {fr lo : Nat} {av : List Value} {o : Option Value} (hy : plainName y.cls = true) (hlen : (lg_sl av).length ≤ n)
    (body : ∀ (p : Program) (e : Env) (s : State) (m : MethodId) (args : Array Value) (below : List Frame) (meth : Method) (c : Code) (ls : Array Slot), kC p s m c args cc n y.cls D cI cS → meth.sig.returnType = r → meth.locks = false → lv_has ls n (lv_args 0 av) → va_P D vwCl (wf v ar) s.heap → va_S A s.heap s.heap [] → W p l e { frames := fr, cells := 0, slots := 0, locals := lo } s m args below meth c s.heap [] 0 0 (MQ below (kQ D wf A o v2 ar2) args s 0 0 A) (F0 m 0 ls [])) :
    kMet l D cI cS wf A y cc n r fr lo av v ar o v2 ar2 := by
  refine Met.ofW (cc := cc) (maxL := n) (ret := r) hy rfl ?_
  intro p e s m args below meth c s₁ B hml hv
  obtain ⟨rfl, hP, hK⟩ := hv
  have hts0 := atoms_spec (ws := kS y cc n r) B.pre
  have hts : ∀ w ∈ lwG, w.before av.toArray s = true := fun w h => hts0 w (List.mem_cons_of_mem _ h)
  have hl := lv_entry av (n := n) hlen
  rw [lg_entry_eq]
  exact body p e s m _ below meth c _ ⟨⟨B.exec, B.bytes, hml, findClass_of_methodNamed B.named, hts⟩, hK⟩ B.returns B.notSynchronized hl hP va_S.rf
theorem kret_i {x : Int32} (C0 : kC p s m c args cc nL own D cI cS) (hr : meth.sig.returnType = some .int) (hlk : meth.locks = false) (hP : va_P D vwCl (wf v ar) H) (hS : va_S A s.heap H locs) (hdg : decode cc pc = .ok (.ireturn, 1)) : W p l e R s m args below meth c H locs 0 0 (MQ below (kQ D wf A (some (.int x)) v ar) args s 0 0 A) (F0 m pc ls [.int x]) :=
  W.iret C0.1.1 C0.1.2.1 hr (fun t ht _ => ⟨rfl, by rw [ht]; exact hP, hS.F ht⟩) hS.2.2 hdg hlk
theorem kret_z {x : Int32} (b : Bool) (hx : x = bI b) (C0 : kC p s m c args cc nL own D cI cS) (hr : meth.sig.returnType = some .boolean) (hlk : meth.locks = false) (hP : va_P D vwCl (wf v ar) H) (hS : va_S A s.heap H locs) (hdg : decode cc pc = .ok (.ireturn, 1)) : W p l e R s m args below meth c H locs 0 0 (MQ below (kQ D wf A (some (.int (bI b))) v ar) args s 0 0 A) (F0 m pc ls [.int x]) := by
  subst hx
  exact W.zret C0.1.1 C0.1.2.1 hr (bI_n b) (fun t ht _ => ⟨rfl, by rw [ht]; exact hP, hS.F ht⟩) hS.2.2 hdg hlk
theorem kret_l {x : Int64} (C0 : kC p s m c args cc nL own D cI cS) (hr : meth.sig.returnType = some .long) (hlk : meth.locks = false) (hP : va_P D vwCl (wf v ar) H) (hS : va_S A s.heap H locs) (hdg : decode cc pc = .ok (.lreturn, 1)) : W p l e R s m args below meth c H locs 0 0 (MQ below (kQ D wf A (some (.long x)) v ar) args s 0 0 A) (F0 m pc ls [.long x]) :=
  W.lret C0.1.1 C0.1.2.1 hr (fun t ht _ => ⟨rfl, by rw [ht]; exact hP, hS.F ht⟩) hS.2.2 hdg hlk
theorem kret_v (C0 : kC p s m c args cc nL own D cI cS) (hr : meth.sig.returnType = none) (hlk : meth.locks = false) (hP : va_P D vwCl (wf v ar) H) (hS : va_S A s.heap H locs) (hdg : decode cc pc = .ok (.return_, 1)) : W p l e R s m args below meth c H locs 0 0 (MQ below (kQ D wf A none v ar) args s 0 0 A) (F0 m pc ls []) :=
  W.vret C0.1.1 C0.1.2.1 hr (fun t ht _ => ⟨rfl, by rw [ht]; exact hP, hS.F ht⟩) hS.2.2 hdg hlk
theorem kafter {o : Option Value} {a : Array Value} (hr : va_Run p l e R s m args below meth c H locs 0 0 0 0 (F0 m pc ls st0) rest (kQ D wf A o v2 ar2 a) A) (hS : va_S A s.heap H locs)
    (kk : ∀ (H1 : Heap) (locs1 : List Loc), va_P D vwCl (wf v2 ar2) H1 → va_S A s.heap H1 locs1 → W p l e R s m args below meth c H1 locs1 0 0 Q (F0 m (pc + 3) ls (o.toList ++ rest))) : W p l e R s m args below meth c H locs 0 0 Q (F0 m pc ls st0) := by
  intro T hT X
  obtain ⟨v, st₀, t, T', L, h0, X', hL, e1, e2, ⟨hv, hb, hz, hk⟩, st⟩ := hr T hT X
  cases hv
  rw [h0] at hz hk
  obtain ⟨t2, a1, b1⟩ := kk T'.heap (locs ++ L) (by rw [e1]; exact hb)
    ⟨Nat.le_trans hS.1 (by rw [e1]; exact hz), fun q h1 h2 => by rw [e1, hk q (Nat.lt_of_lt_of_le h1 hS.1) h2]; exact hS.2.1 q h1 h2, fun q hq => by
      rcases List.mem_append.mp hq with h | h
      · exact hS.2.2 q h
      · exact hL q h⟩ T' rfl X'
  exact ⟨t2, st t2 a1, b1⟩
theorem kpre {av : List Value} (hK : kK D cI cS s) (hP : va_P D vwCl (wf v ar) H) : FrameBlind (va_Pc av (fun U => va_P D vwCl (wf v ar) U.heap ∧ kK D cI cS U)) ∧ ∀ U : State, U.heap = H → s.WarmedH U.vm → va_Pc av (fun U => va_P D vwCl (wf v ar) U.heap ∧ kK D cI cS U) av.toArray U :=
  ⟨fun _ _ _ _ q => ⟨q.1, q.2.1, q.2.2.calling⟩, fun _ hU hW => ⟨rfl, by rw [hU]; exact hP, hK.warm hW⟩⟩
theorem kcallV {C : String} {y : MethodName} {bytes : ByteArray} {maxL n idx fr lo b : Nat} {ret : Option FieldType} {As : List Value} {o : Option Value} (C0 : kC p s m c args cc nL own D cI cS) (hM : kMet l D cI cS wf A y bytes maxL ret fr lo (.ref b :: As) v ar o v2 ar2) (hl : Cond.methodLink own idx y ∈ lwG) (hw : kCal C y bytes maxL ret n) (hrecv : ∃ cell : Cell, H[b]? = some cell ∧ cell.vm.isStatics = false ∧ s.vm.findClass C = some cell.cls) (hP : va_P D vwCl (wf v ar) H) (hS : va_S A s.heap H locs) (hR : fr + 1 ≤ R.frames ∧ 8 + (maxL + 11) + lo ≤ R.locals) (hn : As.length = n) (hls : ls.size = nL) (hst : st0 = As.reverse ++ .ref b :: rest) (hW : (rest.map fun v => v.category).sum ≤ 8) (hdg : decode cc pc = .ok (.invokevirtual idx, 3))
    (kk : ∀ (H1 : Heap) (locs1 : List Loc), va_P D vwCl (wf v2 ar2) H1 → va_S A s.heap H1 locs1 → W p l e R s m args below meth c H1 locs1 0 0 Q (F0 m (pc + 3) ls (o.toList ++ rest))) : W p l e R s m args below meth c H locs 0 0 Q (F0 m pc ls st0) :=
  kafter (va_runV (As := As) (rest := rest) C0.1 hM (cwV (mc := 0) (ms := 0) n C0.1.2.2.2.2 (kG_V hl hw.1 hw.2.1 hw.2.2.1 hw.2.2.2.1) rfl rfl rfl hw.2.2.2.2 hR) ⟨(kpre C0.2 hP).1, hrecv, (kpre C0.2 hP).2⟩ rfl hn hls hst (lv_room hW) hdg ⟨Nat.zero_le _, Nat.zero_le _⟩) hS kk
theorem kcallT {y : MethodName} {bytes : ByteArray} {maxL n idx fr lo : Nat} {ret : Option FieldType} {As : List Value} {o : Option Value} (C0 : kC p s m c args cc nL own D cI cS) (hM : kMet l D cI cS wf A y bytes maxL ret fr lo As v ar o v2 ar2) (hl : Cond.methodLink own idx y ∈ lwG) (hw : kCalT y bytes maxL ret n) (hP : va_P D vwCl (wf v ar) H) (hS : va_S A s.heap H locs) (hR : fr + 1 ≤ R.frames ∧ 8 + (maxL + 11) + lo ≤ R.locals) (hn : As.length = n) (hls : ls.size = nL) (hst : st0 = As.reverse ++ rest) (hW : (rest.map fun v => v.category).sum ≤ 8) (hdg : decode cc pc = .ok (.invokestatic idx, 3))
    (kk : ∀ (H1 : Heap) (locs1 : List Loc), va_P D vwCl (wf v2 ar2) H1 → va_S A s.heap H1 locs1 → W p l e R s m args below meth c H1 locs1 0 0 Q (F0 m (pc + 3) ls (o.toList ++ rest))) : W p l e R s m args below meth c H locs 0 0 Q (F0 m pc ls st0) :=
  kafter (va_runS (As := As) (rest := rest) C0.1 hM (va_cwS (mc := 0) (ms := 0) n C0.1.2.2.2.2 (kG_T hl hw.1 hw.2.1 hw.2.2.1) rfl rfl rfl hw.2.2.2 hR) (kpre C0.2 hP) rfl hn hls hst (lv_room hW) hdg ⟨Nat.zero_le _, Nat.zero_le _⟩) hS kk
theorem kcallN {y : MethodName} {bytes : ByteArray} {maxL n idx fr lo : Nat} {ret : Option FieldType} {As : List Value} {o : Option Value} (C0 : kC p s m c args cc nL own D cI cS) (hM : kMet l D cI cS wf A y bytes maxL ret fr lo As v ar o v2 ar2) (hl : va_Nw (.methodLinkNest own idx y "HalfCuts") s) (hw : kCalT y bytes maxL ret n) (hP : va_P D vwCl (wf v ar) H) (hS : va_S A s.heap H locs) (hR : fr + 1 ≤ R.frames ∧ 8 + (maxL + 11) + lo ≤ R.locals) (hn : As.length = n) (hls : ls.size = nL) (hst : st0 = As.reverse ++ rest) (hW : (rest.map fun v => v.category).sum ≤ 8) (hdg : decode cc pc = .ok (.invokestatic idx, 3))
    (kk : ∀ (H1 : Heap) (locs1 : List Loc), va_P D vwCl (wf v2 ar2) H1 → va_S A s.heap H1 locs1 → W p l e R s m args below meth c H1 locs1 0 0 Q (F0 m (pc + 3) ls (o.toList ++ rest))) : W p l e R s m args below meth c H locs 0 0 Q (F0 m pc ls st0) :=
  kafter (va_runSN (As := As) (rest := rest) C0.1 hM ⟨va_cnB (mc := 0) (ms := 0) n C0.1.2.2.2.2 (kG_S hw.2.2.1) rfl rfl rfl hl (C0.1.2.2.2.2 _ hw.2.1) hw.2.2.2 hR, C0.1.2.2.2.2 _ hw.1, trivial⟩ (kpre C0.2 hP) rfl hn hls hst (lv_room hW) hdg ⟨Nat.zero_le _, Nat.zero_le _⟩) hS kk
/-- a switch falls through: x is none of the keys -/
theorem kswO {x : Int32} {lo hi : Int} (n : Nat) (hn : hi = lo + n - 1) (h : ∀ k : Nat, k < n → ¬ x.toInt = lo + k) : x.toInt < lo ∨ hi < x.toInt := by
  by_cases h1 : x.toInt < lo
  · exact Or.inl h1
  · by_cases h2 : hi < x.toInt
    · exact Or.inr h2
    · exact absurd (show x.toInt = lo + ((x.toInt - lo).toNat : Nat) by omega) (h _ (by omega))
end KB
end
section
theorem q_native : Cond.native arraycopyName ∈ lwG := lwG_at 272 (by decide +kernel) (by decide +kernel)
theorem q_cpstat : Cond.static arraycopyName ∈ lwG := lwG_at 271 (by decide +kernel) (by decide +kernel)
theorem q_cpini : Cond.initialized "java/lang/System" ∈ lwG := lwG_at 52 (by decide +kernel) (by decide +kernel)
def xW (cI cS : ClassId) (a : Nat → Nat) (v : kV) (ar : kR) : va_W := [(a 0, .inr (6, [.ref (a 1), .ref (a 2), .ref (a 3), .ref (a 4), .ref (a 5), .ref (a 6), .ref (a 7), .int (v 0), .int (v 1)])), (a 1, .inl (cS, 4, .inr (.inr (.inr (.inr (fun k => some (a (8+k)))))))), (a 2, .inr (0, [.int (v 2), .int (v 3), .int (v 4), .int (v 5), .int (v 6), .ref (a 12), .ref (a 13), .ref (a 14), .ref (a 15)])), (a 3, .inr (0, [.int (v 7), .int (v 8), .int (v 9), .int (v 10), .int (v 11), .ref (a 16), .ref (a 17), .ref (a 18), .ref (a 19)])), (a 4, .inr (5, [.ref (a 20), .int (v 12), .int (v 13)])), (a 5, .inr (1, [.ref (a 21), .int (v 14), .int (v 15)])), (a 6, .inr (2, [.int (v 16), .int (v 17), .int (v 18), .ref (a 22)])), (a 7, .inr (3, [.int (v 19), .ref (a 23), .ref (a 24)])), (a 8, .inr (4, [.int (v 20), .int (v 21), .ref (a 25)])), (a 9, .inr (4, [.int (v 22), .int (v 23), .ref (a 26)])), (a 10, .inr (4, [.int (v 24), .int (v 25), .ref (a 27)])), (a 11, .inr (4, [.int (v 26), .int (v 27), .ref (a 28)])), (a 12, .inl (cI, 7, .inl (ar 0))), (a 13, .inl (cI, 7, .inl (ar 1))), (a 14, .inl (cI, 7, .inl (ar 2))), (a 15, .inl (cI, 6, .inl (ar 3))), (a 16, .inl (cI, 7, .inl (ar 4))), (a 17, .inl (cI, 7, .inl (ar 5))), (a 18, .inl (cI, 7, .inl (ar 6))), (a 19, .inl (cI, 6, .inl (ar 7))), (a 20, .inl (cI, 60, .inl (ar 8))), (a 21, .inl (cI, 7, .inl (ar 9))), (a 22, .inl (cI, 9, .inl (ar 10))), (a 23, .inl (cI, 8, .inl (ar 11))), (a 24, .inl (cI, 8, .inl (ar 12))), (a 25, .inl (cI, 60, .inl (ar 13))), (a 26, .inl (cI, 60, .inl (ar 14))), (a 27, .inl (cI, 60, .inl (ar 15))), (a 28, .inl (cI, 60, .inl (ar 16)))]
def mW (cI : ClassId) (a : Nat → Nat) (v : kV) (ar : kR) : va_W := [(a 0, .inr (7, [.int (v 0), .int (v 1), .ref (a 1), .ref (a 2), .ref (a 3), .int (v 5), .int (v 6), .int (v 7), .int (v 8), .int (v 9), .int (v 10), .int (v 11), .ref (a 4), .ref (a 5), .ref (a 6), .ref (a 7), .int (v 16), .int (v 17), .int (v 18), .int (v 19), .int (v 20), .ref (a 8), .ref (a 9), .ref (a 10), .ref (a 11), .int (v 25), .int (v 26), .int (v 27), .ref (a 12), .int (v 29), .ref (a 13), .ref (a 14)])), (a 1, .inl (cI, 4, .inl (ar 0))), (a 2, .inl (cI, 4, .inl (ar 1))), (a 3, .inl (cI, 240, .inl (ar 2))), (a 4, .inl (cI, 9, .inl (ar 3))), (a 5, .inl (cI, 7, .inl (ar 4))), (a 6, .inl (cI, 7, .inl (ar 5))), (a 7, .inl (cI, 6, .inl (ar 6))), (a 8, .inl (cI, 7, .inl (ar 7))), (a 9, .inl (cI, 7, .inl (ar 8))), (a 10, .inl (cI, 6, .inl (ar 9))), (a 11, .inl (cI, 7, .inl (ar 10))), (a 12, .inl (cI, 7, .inl (ar 11))), (a 13, .inl (cI, 8, .inl (ar 12))), (a 14, .inl (cI, 8, .inl (ar 13)))]
def xLen (k : Nat) : Nat := ([7, 7, 7, 6, 7, 7, 7, 6, 60, 7, 9, 8, 8, 60, 60, 60, 60] : List Nat).getD k 0
theorem kkey {w : va_W} {a : Nat → Nat} {n : Nat} (h : w.map Prod.fst = (List.range n).map a) (k : Nat) (q : Nat × va_E) (hq : w[k]? = some q) : k < n ∧ q.1 = a k := by
  have h1 : (w.map Prod.fst)[k]? = some q.1 := by rw [List.getElem?_map, hq]; rfl
  rw [h, List.getElem?_map] at h1
  by_cases hk : k < n
  · rw [List.getElem?_range hk] at h1
    exact ⟨hk, (Option.some.inj h1).symm⟩
  · rw [List.getElem?_eq_none (by simpa using hk)] at h1
    cases h1
theorem kapart {w : va_W} {a : Nat → Nat} {n : Nat} (h : w.map Prod.fst = (List.range n).map a) (hap : kAp a n) : va_D (kA a n) w := by
  refine ⟨fun i j x y hi hj hxy => ?_, fun k q hq => ?_⟩
  · obtain ⟨h1, h2⟩ := kkey h i x hi
    obtain ⟨h3, h4⟩ := kkey h j y hj
    exact hap i j h1 h3 (by rw [← h2, ← h4, hxy])
  · obtain ⟨h1, h2⟩ := kkey h k q hq
    exact ⟨k, h1, h2⟩
theorem xD {cI cS : ClassId} {a : Nat → Nat} {v : kV} {ar : kR} (hap : kAp a 29) : va_D (kA a 29) (xW cI cS a v ar) := kapart rfl hap
theorem mD {cI : ClassId} {a : Nat → Nat} {v : kV} {ar : kR} (hap : kAp a 15) : va_D (kA a 15) (mW cI a v ar) := kapart rfl hap
theorem k2c {P : Nat → Prop} {h : Nat} (hh : h < 2) (h0 : P 0) (h1 : P 1) : P h := by
  rcases (show h = 0 ∨ h = 1 by omega) with rfl | rfl
  · exact h0
  · exact h1
theorem k4c {P : Nat → Prop} {h : Nat} (hh : h < 4) (h0 : P 0) (h1 : P 1) (h2 : P 2) (h3 : P 3) : P h := by
  rcases (show h = 0 ∨ h = 1 ∨ h = 2 ∨ h = 3 by omega) with rfl | rfl | rfl | rfl
  · exact h0
  · exact h1
  · exact h2
  · exact h3
theorem iX0 : ∀ w ∈ u_ws RX0 TX0 9, w ∈ lwG := by
  intro w hw
  have h : u_ws RX0 TX0 9 = [98, 100, 102, 104, 106, 108, 110, 112, 114].filterMap (fun i => lw_tbl[i]?) := by decide +kernel
  have g : (u_ws RX0 TX0 9).all goodWord = true := by decide +kernel
  refine List.mem_filter.mpr ⟨?_, List.all_eq_true.mp g w hw⟩
  rw [h] at hw
  obtain ⟨i, -, hi⟩ := List.mem_filterMap.mp hw
  exact List.mem_of_getElem? hi
theorem iX1 : ∀ w ∈ u_ws RX1 TX1 3, w ∈ lwG := by
  intro w hw
  have h : u_ws RX1 TX1 3 = [146, 148, 150].filterMap (fun i => lw_tbl[i]?) := by decide +kernel
  have g : (u_ws RX1 TX1 3).all goodWord = true := by decide +kernel
  refine List.mem_filter.mpr ⟨?_, List.all_eq_true.mp g w hw⟩
  rw [h] at hw
  obtain ⟨i, -, hi⟩ := List.mem_filterMap.mp hw
  exact List.mem_of_getElem? hi
theorem iX2 : ∀ w ∈ u_ws RX2 TX2 4, w ∈ lwG := by
  intro w hw
  have h : u_ws RX2 TX2 4 = [167, 169, 171, 173].filterMap (fun i => lw_tbl[i]?) := by decide +kernel
  have g : (u_ws RX2 TX2 4).all goodWord = true := by decide +kernel
  refine List.mem_filter.mpr ⟨?_, List.all_eq_true.mp g w hw⟩
  rw [h] at hw
  obtain ⟨i, -, hi⟩ := List.mem_filterMap.mp hw
  exact List.mem_of_getElem? hi
theorem iX3 : ∀ w ∈ u_ws RX3 TX3 3, w ∈ lwG := by
  intro w hw
  have h : u_ws RX3 TX3 3 = [186, 188, 190].filterMap (fun i => lw_tbl[i]?) := by decide +kernel
  have g : (u_ws RX3 TX3 3).all goodWord = true := by decide +kernel
  refine List.mem_filter.mpr ⟨?_, List.all_eq_true.mp g w hw⟩
  rw [h] at hw
  obtain ⟨i, -, hi⟩ := List.mem_filterMap.mp hw
  exact List.mem_of_getElem? hi
theorem iX4 : ∀ w ∈ u_ws RX4 TX4 3, w ∈ lwG := by
  intro w hw
  have h : u_ws RX4 TX4 3 = [205, 207, 209].filterMap (fun i => lw_tbl[i]?) := by decide +kernel
  have g : (u_ws RX4 TX4 3).all goodWord = true := by decide +kernel
  refine List.mem_filter.mpr ⟨?_, List.all_eq_true.mp g w hw⟩
  rw [h] at hw
  obtain ⟨i, -, hi⟩ := List.mem_filterMap.mp hw
  exact List.mem_of_getElem? hi
theorem iX5 : ∀ w ∈ u_ws RX5 TX5 3, w ∈ lwG := by
  intro w hw
  have h : u_ws RX5 TX5 3 = [128, 130, 132].filterMap (fun i => lw_tbl[i]?) := by decide +kernel
  have g : (u_ws RX5 TX5 3).all goodWord = true := by decide +kernel
  refine List.mem_filter.mpr ⟨?_, List.all_eq_true.mp g w hw⟩
  rw [h] at hw
  obtain ⟨i, -, hi⟩ := List.mem_filterMap.mp hw
  exact List.mem_of_getElem? hi
theorem iX6 : ∀ w ∈ u_ws RX6 TX6 9, w ∈ lwG := by
  intro w hw
  have h : u_ws RX6 TX6 9 = [221, 223, 225, 227, 229, 231, 233, 235, 237].filterMap (fun i => lw_tbl[i]?) := by decide +kernel
  have g : (u_ws RX6 TX6 9).all goodWord = true := by decide +kernel
  refine List.mem_filter.mpr ⟨?_, List.all_eq_true.mp g w hw⟩
  rw [h] at hw
  obtain ⟨i, -, hi⟩ := List.mem_filterMap.mp hw
  exact List.mem_of_getElem? hi
theorem iX7 : ∀ w ∈ u_ws RX7 TX7 32, w ∈ lwG := by
  intro w hw
  have h : u_ws RX7 TX7 32 = [672, 674, 676, 678, 680, 682, 684, 686, 688, 690, 692, 694, 696, 698, 700, 702, 704, 706, 708, 710, 712, 714, 716, 718, 720, 722, 724, 726, 728, 730, 732, 734].filterMap (fun i => lw_tbl[i]?) := by decide +kernel
  have g : (u_ws RX7 TX7 32).all goodWord = true := by decide +kernel
  refine List.mem_filter.mpr ⟨?_, List.all_eq_true.mp g w hw⟩
  rw [h] at hw
  obtain ⟨i, -, hi⟩ := List.mem_filterMap.mp hw
  exact List.mem_of_getElem? hi
section KR
variable {p : Program} {l : Launch} {e : Env} {R : Room} {s : State} {m : MethodId} {args : Array Value} {below : List Frame} {meth : Method} {c : Code} {H : Heap} {locs : List Loc} {cells slots : Nat} {Q : State → Prop}
variable {cc : ByteArray} {pc nL idx : Nat} {ls : Array Slot} {rest : List Value} {own : String} {D : va_G} {cI cS : ClassId} {a : Nat → Nat} {v : kV} {ar : kR}
theorem xo_HC : (xW cI cS a v ar)[0]? = some (a 0, .inr (6, [.ref (a 1), .ref (a (2+0)), .ref (a (2+1)), .ref (a 4), .ref (a 5), .ref (a 6), .ref (a 7), .int (v (0)), .int (v (1))])) := rfl
theorem xv_HC (hK : kK D cI cS s) (hP : va_P D vwCl (xW cI cS a v ar) H) : ∃ cell : Cell, H[a 0]? = some cell ∧ cell.vm.isStatics = false ∧ s.vm.findClass RX6 = some cell.cls := va_recv hK.1 hP (ci := 6) (q0 := 0) (q := (RX6, TX6, 9)) rfl (xo_HC)
theorem xg_HC_0 (C0 : kC p s m c args cc nL own D cI cS) (hP : va_P D vwCl (xW cI cS a v ar) H) (hl : Cond.fieldLink own idx "HalfCuts" "sheets" "[LHalfCuts$Sheet;" ∈ lwG) (hdg : decode cc pc = .ok (.getfield idx, 3)) (kk : W p l e R s m args below meth c H locs cells slots Q (F0 m (pc + 3) ls (.ref (a 1) :: rest))) : W p l e R s m args below meth c H locs cells slots Q (F0 m pc ls (.ref (a 0) :: rest)) :=
  va_get (D := D) (ci := 6) (C := RX6) (T := TX6) (N := 9) C0.1.1 C0.1.2.1 C0.1.2.2.2.2 iX6 C0.1.2.2.2.1 C0.2.1 hP (0) (xo_HC) rfl 0 (by decide) (C0.1.2.2.2.2 _ hl) (fun _ h9 => h9) rfl hdg kk
theorem xg_HC_1 (C0 : kC p s m c args cc nL own D cI cS) (hP : va_P D vwCl (xW cI cS a v ar) H) (hl : Cond.fieldLink own idx "HalfCuts" "now" "LHalfCuts$Halves;" ∈ lwG) (hdg : decode cc pc = .ok (.getfield idx, 3)) (kk : W p l e R s m args below meth c H locs cells slots Q (F0 m (pc + 3) ls (.ref (a (2+0)) :: rest))) : W p l e R s m args below meth c H locs cells slots Q (F0 m pc ls (.ref (a 0) :: rest)) :=
  va_get (D := D) (ci := 6) (C := RX6) (T := TX6) (N := 9) C0.1.1 C0.1.2.1 C0.1.2.2.2.2 iX6 C0.1.2.2.2.1 C0.2.1 hP (0) (xo_HC) rfl 1 (by decide) (C0.1.2.2.2.2 _ hl) (fun _ h9 => h9) rfl hdg kk
theorem xg_HC_2 (C0 : kC p s m c args cc nL own D cI cS) (hP : va_P D vwCl (xW cI cS a v ar) H) (hl : Cond.fieldLink own idx "HalfCuts" "trial" "LHalfCuts$Halves;" ∈ lwG) (hdg : decode cc pc = .ok (.getfield idx, 3)) (kk : W p l e R s m args below meth c H locs cells slots Q (F0 m (pc + 3) ls (.ref (a (2+1)) :: rest))) : W p l e R s m args below meth c H locs cells slots Q (F0 m pc ls (.ref (a 0) :: rest)) :=
  va_get (D := D) (ci := 6) (C := RX6) (T := TX6) (N := 9) C0.1.1 C0.1.2.1 C0.1.2.2.2.2 iX6 C0.1.2.2.2.1 C0.2.1 hP (0) (xo_HC) rfl 2 (by decide) (C0.1.2.2.2.2 _ hl) (fun _ h9 => h9) rfl hdg kk
theorem xg_HC_3 (C0 : kC p s m c args cc nL own D cI cS) (hP : va_P D vwCl (xW cI cS a v ar) H) (hl : Cond.fieldLink own idx "HalfCuts" "text" "LHalfCuts$Text;" ∈ lwG) (hdg : decode cc pc = .ok (.getfield idx, 3)) (kk : W p l e R s m args below meth c H locs cells slots Q (F0 m (pc + 3) ls (.ref (a 4) :: rest))) : W p l e R s m args below meth c H locs cells slots Q (F0 m pc ls (.ref (a 0) :: rest)) :=
  va_get (D := D) (ci := 6) (C := RX6) (T := TX6) (N := 9) C0.1.1 C0.1.2.1 C0.1.2.2.2.2 iX6 C0.1.2.2.2.1 C0.2.1 hP (0) (xo_HC) rfl 3 (by decide) (C0.1.2.2.2.2 _ hl) (fun _ h9 => h9) rfl hdg kk
theorem xg_HC_4 (C0 : kC p s m c args cc nL own D cI cS) (hP : va_P D vwCl (xW cI cS a v ar) H) (hl : Cond.fieldLink own idx "HalfCuts" "latestPass" "LHalfCuts$Pass;" ∈ lwG) (hdg : decode cc pc = .ok (.getfield idx, 3)) (kk : W p l e R s m args below meth c H locs cells slots Q (F0 m (pc + 3) ls (.ref (a 5) :: rest))) : W p l e R s m args below meth c H locs cells slots Q (F0 m pc ls (.ref (a 0) :: rest)) :=
  va_get (D := D) (ci := 6) (C := RX6) (T := TX6) (N := 9) C0.1.1 C0.1.2.1 C0.1.2.2.2.2 iX6 C0.1.2.2.2.1 C0.2.1 hP (0) (xo_HC) rfl 4 (by decide) (C0.1.2.2.2.2 _ hl) (fun _ h9 => h9) rfl hdg kk
theorem xg_HC_5 (C0 : kC p s m c args cc nL own D cI cS) (hP : va_P D vwCl (xW cI cS a v ar) H) (hl : Cond.fieldLink own idx "HalfCuts" "shelf" "LHalfCuts$Rack;" ∈ lwG) (hdg : decode cc pc = .ok (.getfield idx, 3)) (kk : W p l e R s m args below meth c H locs cells slots Q (F0 m (pc + 3) ls (.ref (a 6) :: rest))) : W p l e R s m args below meth c H locs cells slots Q (F0 m pc ls (.ref (a 0) :: rest)) :=
  va_get (D := D) (ci := 6) (C := RX6) (T := TX6) (N := 9) C0.1.1 C0.1.2.1 C0.1.2.2.2.2 iX6 C0.1.2.2.2.1 C0.2.1 hP (0) (xo_HC) rfl 5 (by decide) (C0.1.2.2.2.2 _ hl) (fun _ h9 => h9) rfl hdg kk
theorem xg_HC_6 (C0 : kC p s m c args cc nL own D cI cS) (hP : va_P D vwCl (xW cI cS a v ar) H) (hl : Cond.fieldLink own idx "HalfCuts" "seen" "LHalfCuts$Readings;" ∈ lwG) (hdg : decode cc pc = .ok (.getfield idx, 3)) (kk : W p l e R s m args below meth c H locs cells slots Q (F0 m (pc + 3) ls (.ref (a 7) :: rest))) : W p l e R s m args below meth c H locs cells slots Q (F0 m pc ls (.ref (a 0) :: rest)) :=
  va_get (D := D) (ci := 6) (C := RX6) (T := TX6) (N := 9) C0.1.1 C0.1.2.1 C0.1.2.2.2.2 iX6 C0.1.2.2.2.1 C0.2.1 hP (0) (xo_HC) rfl 6 (by decide) (C0.1.2.2.2.2 _ hl) (fun _ h9 => h9) rfl hdg kk
theorem xg_HC_7 (C0 : kC p s m c args cc nL own D cI cS) (hP : va_P D vwCl (xW cI cS a v ar) H) (hl : Cond.fieldLink own idx "HalfCuts" "traced" "I" ∈ lwG) (hdg : decode cc pc = .ok (.getfield idx, 3)) (kk : W p l e R s m args below meth c H locs cells slots Q (F0 m (pc + 3) ls (.int (v (0)) :: rest))) : W p l e R s m args below meth c H locs cells slots Q (F0 m pc ls (.ref (a 0) :: rest)) :=
  va_get (D := D) (ci := 6) (C := RX6) (T := TX6) (N := 9) C0.1.1 C0.1.2.1 C0.1.2.2.2.2 iX6 C0.1.2.2.2.1 C0.2.1 hP (0) (xo_HC) rfl 7 (by decide) (C0.1.2.2.2.2 _ hl) (fun _ h9 => h9) rfl hdg kk
theorem xs_HC_7 {x : Int32} : (xW cI cS a v ar).set (0) (a 0, .inr (6, ([.ref (a 1), .ref (a (2+0)), .ref (a (2+1)), .ref (a 4), .ref (a 5), .ref (a 6), .ref (a 7), .int (v (0)), .int (v (1))] : List Value).set 7 (.int x))) = xW cI cS a (upd v (0) x) ar := rfl
theorem xp_HC_7 (C0 : kC p s m c args cc nL own D cI cS) (hap : kAp a 29) {x : Int32} (hP : va_P D vwCl (xW cI cS a v ar) H) (hS : va_S (kA a 29) s.heap H locs) (hl : Cond.fieldLink own idx "HalfCuts" "traced" "I" ∈ lwG) (hdg : decode cc pc = .ok (.putfield idx, 3)) (kk : ∀ (H1 : Heap) (locs1 : List Loc), va_P D vwCl (xW cI cS a (upd v (0) x) ar) H1 → va_S (kA a 29) s.heap H1 locs1 → W p l e R s m args below meth c H1 locs1 cells slots Q (F0 m (pc + 3) ls rest)) : W p l e R s m args below meth c H locs cells slots Q (F0 m pc ls (.int x :: .ref (a 0) :: rest)) :=
  va_put (D := D) (ci := 6) (C := RX6) (T := TX6) (N := 9) (ty := .int) C0.1.1 C0.1.2.1 C0.1.2.2.2.2 iX6 tyX6 tyX6_ok nmX6 C0.1.2.2.2.1 C0.2.1 hP (xD hap) hS (0) (xo_HC) rfl 7 (by decide) (C0.1.2.2.2.2 _ hl) (fun _ h9 => h9) rfl (by decide +kernel) rfl rfl (Nat.le_of_ble_eq_true rfl) hdg (fun H1 locs1 hP1 _ hS1 => kk H1 locs1 (by rw [xs_HC_7] at hP1; exact hP1) hS1)
theorem xg_HC_8 (C0 : kC p s m c args cc nL own D cI cS) (hP : va_P D vwCl (xW cI cS a v ar) H) (hl : Cond.fieldLink own idx "HalfCuts" "latestFault" "I" ∈ lwG) (hdg : decode cc pc = .ok (.getfield idx, 3)) (kk : W p l e R s m args below meth c H locs cells slots Q (F0 m (pc + 3) ls (.int (v (1)) :: rest))) : W p l e R s m args below meth c H locs cells slots Q (F0 m pc ls (.ref (a 0) :: rest)) :=
  va_get (D := D) (ci := 6) (C := RX6) (T := TX6) (N := 9) C0.1.1 C0.1.2.1 C0.1.2.2.2.2 iX6 C0.1.2.2.2.1 C0.2.1 hP (0) (xo_HC) rfl 8 (by decide) (C0.1.2.2.2.2 _ hl) (fun _ h9 => h9) rfl hdg kk
theorem xs_HC_8 {x : Int32} : (xW cI cS a v ar).set (0) (a 0, .inr (6, ([.ref (a 1), .ref (a (2+0)), .ref (a (2+1)), .ref (a 4), .ref (a 5), .ref (a 6), .ref (a 7), .int (v (0)), .int (v (1))] : List Value).set 8 (.int x))) = xW cI cS a (upd v (1) x) ar := rfl
theorem xp_HC_8 (C0 : kC p s m c args cc nL own D cI cS) (hap : kAp a 29) {x : Int32} (hP : va_P D vwCl (xW cI cS a v ar) H) (hS : va_S (kA a 29) s.heap H locs) (hl : Cond.fieldLink own idx "HalfCuts" "latestFault" "I" ∈ lwG) (hdg : decode cc pc = .ok (.putfield idx, 3)) (kk : ∀ (H1 : Heap) (locs1 : List Loc), va_P D vwCl (xW cI cS a (upd v (1) x) ar) H1 → va_S (kA a 29) s.heap H1 locs1 → W p l e R s m args below meth c H1 locs1 cells slots Q (F0 m (pc + 3) ls rest)) : W p l e R s m args below meth c H locs cells slots Q (F0 m pc ls (.int x :: .ref (a 0) :: rest)) :=
  va_put (D := D) (ci := 6) (C := RX6) (T := TX6) (N := 9) (ty := .int) C0.1.1 C0.1.2.1 C0.1.2.2.2.2 iX6 tyX6 tyX6_ok nmX6 C0.1.2.2.2.1 C0.2.1 hP (xD hap) hS (0) (xo_HC) rfl 8 (by decide) (C0.1.2.2.2.2 _ hl) (fun _ h9 => h9) rfl (by decide +kernel) rfl rfl (Nat.le_of_ble_eq_true rfl) hdg (fun H1 locs1 hP1 _ hS1 => kk H1 locs1 (by rw [xs_HC_8] at hP1; exact hP1) hS1)
theorem xo_H {h : Nat} (hh : h < 2) : (xW cI cS a v ar)[2+h]? = some (a (2+h), .inr (0, [.int (v (2+5*h+0)), .int (v (2+5*h+1)), .int (v (2+5*h+2)), .int (v (2+5*h+3)), .int (v (2+5*h+4)), .ref (a (12+(4*h+0))), .ref (a (12+(4*h+1))), .ref (a (12+(4*h+2))), .ref (a (12+(4*h+3)))])) := k2c (P := fun h => (xW cI cS a v ar)[2+h]? = some (a (2+h), .inr (0, [.int (v (2+5*h+0)), .int (v (2+5*h+1)), .int (v (2+5*h+2)), .int (v (2+5*h+3)), .int (v (2+5*h+4)), .ref (a (12+(4*h+0))), .ref (a (12+(4*h+1))), .ref (a (12+(4*h+2))), .ref (a (12+(4*h+3)))]))) hh rfl rfl
theorem xv_H {h : Nat} (hh : h < 2) (hK : kK D cI cS s) (hP : va_P D vwCl (xW cI cS a v ar) H) : ∃ cell : Cell, H[a (2+h)]? = some cell ∧ cell.vm.isStatics = false ∧ s.vm.findClass RX0 = some cell.cls := va_recv hK.1 hP (ci := 0) (q0 := 2+h) (q := (RX0, TX0, 9)) rfl (xo_H hh)
theorem xg_H_0 (C0 : kC p s m c args cc nL own D cI cS) {h : Nat} (hh : h < 2) (hP : va_P D vwCl (xW cI cS a v ar) H) (hl : Cond.fieldLink own idx "HalfCuts$Halves" "cells" "I" ∈ lwG) (hdg : decode cc pc = .ok (.getfield idx, 3)) (kk : W p l e R s m args below meth c H locs cells slots Q (F0 m (pc + 3) ls (.int (v (2+5*h+0)) :: rest))) : W p l e R s m args below meth c H locs cells slots Q (F0 m pc ls (.ref (a (2+h)) :: rest)) :=
  va_get (D := D) (ci := 0) (C := RX0) (T := TX0) (N := 9) C0.1.1 C0.1.2.1 C0.1.2.2.2.2 iX0 C0.1.2.2.2.1 C0.2.1 hP (2+h) (xo_H hh) rfl 0 (by decide) (C0.1.2.2.2.2 _ hl) (fun _ h9 => h9) rfl hdg kk
theorem xs_H_0 {h : Nat} (hh : h < 2) {x : Int32} : (xW cI cS a v ar).set (2+h) (a (2+h), .inr (0, ([.int (v (2+5*h+0)), .int (v (2+5*h+1)), .int (v (2+5*h+2)), .int (v (2+5*h+3)), .int (v (2+5*h+4)), .ref (a (12+(4*h+0))), .ref (a (12+(4*h+1))), .ref (a (12+(4*h+2))), .ref (a (12+(4*h+3)))] : List Value).set 0 (.int x))) = xW cI cS a (upd v (2+5*h+0) x) ar := k2c (P := fun h => (xW cI cS a v ar).set (2+h) (a (2+h), .inr (0, ([.int (v (2+5*h+0)), .int (v (2+5*h+1)), .int (v (2+5*h+2)), .int (v (2+5*h+3)), .int (v (2+5*h+4)), .ref (a (12+(4*h+0))), .ref (a (12+(4*h+1))), .ref (a (12+(4*h+2))), .ref (a (12+(4*h+3)))] : List Value).set 0 (.int x))) = xW cI cS a (upd v (2+5*h+0) x) ar) hh rfl rfl
theorem xp_H_0 (C0 : kC p s m c args cc nL own D cI cS) (hap : kAp a 29) {h : Nat} (hh : h < 2) {x : Int32} (hP : va_P D vwCl (xW cI cS a v ar) H) (hS : va_S (kA a 29) s.heap H locs) (hl : Cond.fieldLink own idx "HalfCuts$Halves" "cells" "I" ∈ lwG) (hdg : decode cc pc = .ok (.putfield idx, 3)) (kk : ∀ (H1 : Heap) (locs1 : List Loc), va_P D vwCl (xW cI cS a (upd v (2+5*h+0) x) ar) H1 → va_S (kA a 29) s.heap H1 locs1 → W p l e R s m args below meth c H1 locs1 cells slots Q (F0 m (pc + 3) ls rest)) : W p l e R s m args below meth c H locs cells slots Q (F0 m pc ls (.int x :: .ref (a (2+h)) :: rest)) :=
  va_put (D := D) (ci := 0) (C := RX0) (T := TX0) (N := 9) (ty := .int) C0.1.1 C0.1.2.1 C0.1.2.2.2.2 iX0 tyX0 tyX0_ok nmX0 C0.1.2.2.2.1 C0.2.1 hP (xD hap) hS (2+h) (xo_H hh) rfl 0 (by decide) (C0.1.2.2.2.2 _ hl) (fun _ h9 => h9) rfl (by decide +kernel) rfl rfl (Nat.le_of_ble_eq_true rfl) hdg (fun H1 locs1 hP1 _ hS1 => kk H1 locs1 (by rw [xs_H_0 hh] at hP1; exact hP1) hS1)
theorem xg_H_1 (C0 : kC p s m c args cc nL own D cI cS) {h : Nat} (hh : h < 2) (hP : va_P D vwCl (xW cI cS a v ar) H) (hl : Cond.fieldLink own idx "HalfCuts$Halves" "nets" "I" ∈ lwG) (hdg : decode cc pc = .ok (.getfield idx, 3)) (kk : W p l e R s m args below meth c H locs cells slots Q (F0 m (pc + 3) ls (.int (v (2+5*h+1)) :: rest))) : W p l e R s m args below meth c H locs cells slots Q (F0 m pc ls (.ref (a (2+h)) :: rest)) :=
  va_get (D := D) (ci := 0) (C := RX0) (T := TX0) (N := 9) C0.1.1 C0.1.2.1 C0.1.2.2.2.2 iX0 C0.1.2.2.2.1 C0.2.1 hP (2+h) (xo_H hh) rfl 1 (by decide) (C0.1.2.2.2.2 _ hl) (fun _ h9 => h9) rfl hdg kk
theorem xs_H_1 {h : Nat} (hh : h < 2) {x : Int32} : (xW cI cS a v ar).set (2+h) (a (2+h), .inr (0, ([.int (v (2+5*h+0)), .int (v (2+5*h+1)), .int (v (2+5*h+2)), .int (v (2+5*h+3)), .int (v (2+5*h+4)), .ref (a (12+(4*h+0))), .ref (a (12+(4*h+1))), .ref (a (12+(4*h+2))), .ref (a (12+(4*h+3)))] : List Value).set 1 (.int x))) = xW cI cS a (upd v (2+5*h+1) x) ar := k2c (P := fun h => (xW cI cS a v ar).set (2+h) (a (2+h), .inr (0, ([.int (v (2+5*h+0)), .int (v (2+5*h+1)), .int (v (2+5*h+2)), .int (v (2+5*h+3)), .int (v (2+5*h+4)), .ref (a (12+(4*h+0))), .ref (a (12+(4*h+1))), .ref (a (12+(4*h+2))), .ref (a (12+(4*h+3)))] : List Value).set 1 (.int x))) = xW cI cS a (upd v (2+5*h+1) x) ar) hh rfl rfl
theorem xp_H_1 (C0 : kC p s m c args cc nL own D cI cS) (hap : kAp a 29) {h : Nat} (hh : h < 2) {x : Int32} (hP : va_P D vwCl (xW cI cS a v ar) H) (hS : va_S (kA a 29) s.heap H locs) (hl : Cond.fieldLink own idx "HalfCuts$Halves" "nets" "I" ∈ lwG) (hdg : decode cc pc = .ok (.putfield idx, 3)) (kk : ∀ (H1 : Heap) (locs1 : List Loc), va_P D vwCl (xW cI cS a (upd v (2+5*h+1) x) ar) H1 → va_S (kA a 29) s.heap H1 locs1 → W p l e R s m args below meth c H1 locs1 cells slots Q (F0 m (pc + 3) ls rest)) : W p l e R s m args below meth c H locs cells slots Q (F0 m pc ls (.int x :: .ref (a (2+h)) :: rest)) :=
  va_put (D := D) (ci := 0) (C := RX0) (T := TX0) (N := 9) (ty := .int) C0.1.1 C0.1.2.1 C0.1.2.2.2.2 iX0 tyX0 tyX0_ok nmX0 C0.1.2.2.2.1 C0.2.1 hP (xD hap) hS (2+h) (xo_H hh) rfl 1 (by decide) (C0.1.2.2.2.2 _ hl) (fun _ h9 => h9) rfl (by decide +kernel) rfl rfl (Nat.le_of_ble_eq_true rfl) hdg (fun H1 locs1 hP1 _ hS1 => kk H1 locs1 (by rw [xs_H_1 hh] at hP1; exact hP1) hS1)
theorem xg_H_2 (C0 : kC p s m c args cc nL own D cI cS) {h : Nat} (hh : h < 2) (hP : va_P D vwCl (xW cI cS a v ar) H) (hl : Cond.fieldLink own idx "HalfCuts$Halves" "right" "I" ∈ lwG) (hdg : decode cc pc = .ok (.getfield idx, 3)) (kk : W p l e R s m args below meth c H locs cells slots Q (F0 m (pc + 3) ls (.int (v (2+5*h+2)) :: rest))) : W p l e R s m args below meth c H locs cells slots Q (F0 m pc ls (.ref (a (2+h)) :: rest)) :=
  va_get (D := D) (ci := 0) (C := RX0) (T := TX0) (N := 9) C0.1.1 C0.1.2.1 C0.1.2.2.2.2 iX0 C0.1.2.2.2.1 C0.2.1 hP (2+h) (xo_H hh) rfl 2 (by decide) (C0.1.2.2.2.2 _ hl) (fun _ h9 => h9) rfl hdg kk
theorem xs_H_2 {h : Nat} (hh : h < 2) {x : Int32} : (xW cI cS a v ar).set (2+h) (a (2+h), .inr (0, ([.int (v (2+5*h+0)), .int (v (2+5*h+1)), .int (v (2+5*h+2)), .int (v (2+5*h+3)), .int (v (2+5*h+4)), .ref (a (12+(4*h+0))), .ref (a (12+(4*h+1))), .ref (a (12+(4*h+2))), .ref (a (12+(4*h+3)))] : List Value).set 2 (.int x))) = xW cI cS a (upd v (2+5*h+2) x) ar := k2c (P := fun h => (xW cI cS a v ar).set (2+h) (a (2+h), .inr (0, ([.int (v (2+5*h+0)), .int (v (2+5*h+1)), .int (v (2+5*h+2)), .int (v (2+5*h+3)), .int (v (2+5*h+4)), .ref (a (12+(4*h+0))), .ref (a (12+(4*h+1))), .ref (a (12+(4*h+2))), .ref (a (12+(4*h+3)))] : List Value).set 2 (.int x))) = xW cI cS a (upd v (2+5*h+2) x) ar) hh rfl rfl
theorem xp_H_2 (C0 : kC p s m c args cc nL own D cI cS) (hap : kAp a 29) {h : Nat} (hh : h < 2) {x : Int32} (hP : va_P D vwCl (xW cI cS a v ar) H) (hS : va_S (kA a 29) s.heap H locs) (hl : Cond.fieldLink own idx "HalfCuts$Halves" "right" "I" ∈ lwG) (hdg : decode cc pc = .ok (.putfield idx, 3)) (kk : ∀ (H1 : Heap) (locs1 : List Loc), va_P D vwCl (xW cI cS a (upd v (2+5*h+2) x) ar) H1 → va_S (kA a 29) s.heap H1 locs1 → W p l e R s m args below meth c H1 locs1 cells slots Q (F0 m (pc + 3) ls rest)) : W p l e R s m args below meth c H locs cells slots Q (F0 m pc ls (.int x :: .ref (a (2+h)) :: rest)) :=
  va_put (D := D) (ci := 0) (C := RX0) (T := TX0) (N := 9) (ty := .int) C0.1.1 C0.1.2.1 C0.1.2.2.2.2 iX0 tyX0 tyX0_ok nmX0 C0.1.2.2.2.1 C0.2.1 hP (xD hap) hS (2+h) (xo_H hh) rfl 2 (by decide) (C0.1.2.2.2.2 _ hl) (fun _ h9 => h9) rfl (by decide +kernel) rfl rfl (Nat.le_of_ble_eq_true rfl) hdg (fun H1 locs1 hP1 _ hS1 => kk H1 locs1 (by rw [xs_H_2 hh] at hP1; exact hP1) hS1)
theorem xg_H_3 (C0 : kC p s m c args cc nL own D cI cS) {h : Nat} (hh : h < 2) (hP : va_P D vwCl (xW cI cS a v ar) H) (hl : Cond.fieldLink own idx "HalfCuts$Halves" "fixed" "I" ∈ lwG) (hdg : decode cc pc = .ok (.getfield idx, 3)) (kk : W p l e R s m args below meth c H locs cells slots Q (F0 m (pc + 3) ls (.int (v (2+5*h+3)) :: rest))) : W p l e R s m args below meth c H locs cells slots Q (F0 m pc ls (.ref (a (2+h)) :: rest)) :=
  va_get (D := D) (ci := 0) (C := RX0) (T := TX0) (N := 9) C0.1.1 C0.1.2.1 C0.1.2.2.2.2 iX0 C0.1.2.2.2.1 C0.2.1 hP (2+h) (xo_H hh) rfl 3 (by decide) (C0.1.2.2.2.2 _ hl) (fun _ h9 => h9) rfl hdg kk
theorem xs_H_3 {h : Nat} (hh : h < 2) {x : Int32} : (xW cI cS a v ar).set (2+h) (a (2+h), .inr (0, ([.int (v (2+5*h+0)), .int (v (2+5*h+1)), .int (v (2+5*h+2)), .int (v (2+5*h+3)), .int (v (2+5*h+4)), .ref (a (12+(4*h+0))), .ref (a (12+(4*h+1))), .ref (a (12+(4*h+2))), .ref (a (12+(4*h+3)))] : List Value).set 3 (.int x))) = xW cI cS a (upd v (2+5*h+3) x) ar := k2c (P := fun h => (xW cI cS a v ar).set (2+h) (a (2+h), .inr (0, ([.int (v (2+5*h+0)), .int (v (2+5*h+1)), .int (v (2+5*h+2)), .int (v (2+5*h+3)), .int (v (2+5*h+4)), .ref (a (12+(4*h+0))), .ref (a (12+(4*h+1))), .ref (a (12+(4*h+2))), .ref (a (12+(4*h+3)))] : List Value).set 3 (.int x))) = xW cI cS a (upd v (2+5*h+3) x) ar) hh rfl rfl
theorem xp_H_3 (C0 : kC p s m c args cc nL own D cI cS) (hap : kAp a 29) {h : Nat} (hh : h < 2) {x : Int32} (hP : va_P D vwCl (xW cI cS a v ar) H) (hS : va_S (kA a 29) s.heap H locs) (hl : Cond.fieldLink own idx "HalfCuts$Halves" "fixed" "I" ∈ lwG) (hdg : decode cc pc = .ok (.putfield idx, 3)) (kk : ∀ (H1 : Heap) (locs1 : List Loc), va_P D vwCl (xW cI cS a (upd v (2+5*h+3) x) ar) H1 → va_S (kA a 29) s.heap H1 locs1 → W p l e R s m args below meth c H1 locs1 cells slots Q (F0 m (pc + 3) ls rest)) : W p l e R s m args below meth c H locs cells slots Q (F0 m pc ls (.int x :: .ref (a (2+h)) :: rest)) :=
  va_put (D := D) (ci := 0) (C := RX0) (T := TX0) (N := 9) (ty := .int) C0.1.1 C0.1.2.1 C0.1.2.2.2.2 iX0 tyX0 tyX0_ok nmX0 C0.1.2.2.2.1 C0.2.1 hP (xD hap) hS (2+h) (xo_H hh) rfl 3 (by decide) (C0.1.2.2.2.2 _ hl) (fun _ h9 => h9) rfl (by decide +kernel) rfl rfl (Nat.le_of_ble_eq_true rfl) hdg (fun H1 locs1 hP1 _ hS1 => kk H1 locs1 (by rw [xs_H_3 hh] at hP1; exact hP1) hS1)
theorem xg_H_4 (C0 : kC p s m c args cc nL own D cI cS) {h : Nat} (hh : h < 2) (hP : va_P D vwCl (xW cI cS a v ar) H) (hl : Cond.fieldLink own idx "HalfCuts$Halves" "bound" "I" ∈ lwG) (hdg : decode cc pc = .ok (.getfield idx, 3)) (kk : W p l e R s m args below meth c H locs cells slots Q (F0 m (pc + 3) ls (.int (v (2+5*h+4)) :: rest))) : W p l e R s m args below meth c H locs cells slots Q (F0 m pc ls (.ref (a (2+h)) :: rest)) :=
  va_get (D := D) (ci := 0) (C := RX0) (T := TX0) (N := 9) C0.1.1 C0.1.2.1 C0.1.2.2.2.2 iX0 C0.1.2.2.2.1 C0.2.1 hP (2+h) (xo_H hh) rfl 4 (by decide) (C0.1.2.2.2.2 _ hl) (fun _ h9 => h9) rfl hdg kk
theorem xs_H_4 {h : Nat} (hh : h < 2) {x : Int32} : (xW cI cS a v ar).set (2+h) (a (2+h), .inr (0, ([.int (v (2+5*h+0)), .int (v (2+5*h+1)), .int (v (2+5*h+2)), .int (v (2+5*h+3)), .int (v (2+5*h+4)), .ref (a (12+(4*h+0))), .ref (a (12+(4*h+1))), .ref (a (12+(4*h+2))), .ref (a (12+(4*h+3)))] : List Value).set 4 (.int x))) = xW cI cS a (upd v (2+5*h+4) x) ar := k2c (P := fun h => (xW cI cS a v ar).set (2+h) (a (2+h), .inr (0, ([.int (v (2+5*h+0)), .int (v (2+5*h+1)), .int (v (2+5*h+2)), .int (v (2+5*h+3)), .int (v (2+5*h+4)), .ref (a (12+(4*h+0))), .ref (a (12+(4*h+1))), .ref (a (12+(4*h+2))), .ref (a (12+(4*h+3)))] : List Value).set 4 (.int x))) = xW cI cS a (upd v (2+5*h+4) x) ar) hh rfl rfl
theorem xp_H_4 (C0 : kC p s m c args cc nL own D cI cS) (hap : kAp a 29) {h : Nat} (hh : h < 2) {x : Int32} (hP : va_P D vwCl (xW cI cS a v ar) H) (hS : va_S (kA a 29) s.heap H locs) (hl : Cond.fieldLink own idx "HalfCuts$Halves" "bound" "I" ∈ lwG) (hdg : decode cc pc = .ok (.putfield idx, 3)) (kk : ∀ (H1 : Heap) (locs1 : List Loc), va_P D vwCl (xW cI cS a (upd v (2+5*h+4) x) ar) H1 → va_S (kA a 29) s.heap H1 locs1 → W p l e R s m args below meth c H1 locs1 cells slots Q (F0 m (pc + 3) ls rest)) : W p l e R s m args below meth c H locs cells slots Q (F0 m pc ls (.int x :: .ref (a (2+h)) :: rest)) :=
  va_put (D := D) (ci := 0) (C := RX0) (T := TX0) (N := 9) (ty := .int) C0.1.1 C0.1.2.1 C0.1.2.2.2.2 iX0 tyX0 tyX0_ok nmX0 C0.1.2.2.2.1 C0.2.1 hP (xD hap) hS (2+h) (xo_H hh) rfl 4 (by decide) (C0.1.2.2.2.2 _ hl) (fun _ h9 => h9) rfl (by decide +kernel) rfl rfl (Nat.le_of_ble_eq_true rfl) hdg (fun H1 locs1 hP1 _ hS1 => kk H1 locs1 (by rw [xs_H_4 hh] at hP1; exact hP1) hS1)
theorem xg_H_5 (C0 : kC p s m c args cc nL own D cI cS) {h : Nat} (hh : h < 2) (hP : va_P D vwCl (xW cI cS a v ar) H) (hl : Cond.fieldLink own idx "HalfCuts$Halves" "kind" "[I" ∈ lwG) (hdg : decode cc pc = .ok (.getfield idx, 3)) (kk : W p l e R s m args below meth c H locs cells slots Q (F0 m (pc + 3) ls (.ref (a (12+(4*h+0))) :: rest))) : W p l e R s m args below meth c H locs cells slots Q (F0 m pc ls (.ref (a (2+h)) :: rest)) :=
  va_get (D := D) (ci := 0) (C := RX0) (T := TX0) (N := 9) C0.1.1 C0.1.2.1 C0.1.2.2.2.2 iX0 C0.1.2.2.2.1 C0.2.1 hP (2+h) (xo_H hh) rfl 5 (by decide) (C0.1.2.2.2.2 _ hl) (fun _ h9 => h9) rfl hdg kk
theorem xg_H_6 (C0 : kC p s m c args cc nL own D cI cS) {h : Nat} (hh : h < 2) (hP : va_P D vwCl (xW cI cS a v ar) H) (hl : Cond.fieldLink own idx "HalfCuts$Halves" "bulk" "[I" ∈ lwG) (hdg : decode cc pc = .ok (.getfield idx, 3)) (kk : W p l e R s m args below meth c H locs cells slots Q (F0 m (pc + 3) ls (.ref (a (12+(4*h+1))) :: rest))) : W p l e R s m args below meth c H locs cells slots Q (F0 m pc ls (.ref (a (2+h)) :: rest)) :=
  va_get (D := D) (ci := 0) (C := RX0) (T := TX0) (N := 9) C0.1.1 C0.1.2.1 C0.1.2.2.2.2 iX0 C0.1.2.2.2.1 C0.2.1 hP (2+h) (xo_H hh) rfl 6 (by decide) (C0.1.2.2.2.2 _ hl) (fun _ h9 => h9) rfl hdg kk
theorem xg_H_7 (C0 : kC p s m c args cc nL own D cI cS) {h : Nat} (hh : h < 2) (hP : va_P D vwCl (xW cI cS a v ar) H) (hl : Cond.fieldLink own idx "HalfCuts$Halves" "weight" "[I" ∈ lwG) (hdg : decode cc pc = .ok (.getfield idx, 3)) (kk : W p l e R s m args below meth c H locs cells slots Q (F0 m (pc + 3) ls (.ref (a (12+(4*h+2))) :: rest))) : W p l e R s m args below meth c H locs cells slots Q (F0 m pc ls (.ref (a (2+h)) :: rest)) :=
  va_get (D := D) (ci := 0) (C := RX0) (T := TX0) (N := 9) C0.1.1 C0.1.2.1 C0.1.2.2.2.2 iX0 C0.1.2.2.2.1 C0.2.1 hP (2+h) (xo_H hh) rfl 7 (by decide) (C0.1.2.2.2.2 _ hl) (fun _ h9 => h9) rfl hdg kk
theorem xg_H_8 (C0 : kC p s m c args cc nL own D cI cS) {h : Nat} (hh : h < 2) (hP : va_P D vwCl (xW cI cS a v ar) H) (hl : Cond.fieldLink own idx "HalfCuts$Halves" "net" "[I" ∈ lwG) (hdg : decode cc pc = .ok (.getfield idx, 3)) (kk : W p l e R s m args below meth c H locs cells slots Q (F0 m (pc + 3) ls (.ref (a (12+(4*h+3))) :: rest))) : W p l e R s m args below meth c H locs cells slots Q (F0 m pc ls (.ref (a (2+h)) :: rest)) :=
  va_get (D := D) (ci := 0) (C := RX0) (T := TX0) (N := 9) C0.1.1 C0.1.2.1 C0.1.2.2.2.2 iX0 C0.1.2.2.2.1 C0.2.1 hP (2+h) (xo_H hh) rfl 8 (by decide) (C0.1.2.2.2.2 _ hl) (fun _ h9 => h9) rfl hdg kk
theorem xo_T : (xW cI cS a v ar)[4]? = some (a 4, .inr (5, [.ref (a (12+(8))), .int (v (12)), .int (v (13))])) := rfl
theorem xv_T (hK : kK D cI cS s) (hP : va_P D vwCl (xW cI cS a v ar) H) : ∃ cell : Cell, H[a 4]? = some cell ∧ cell.vm.isStatics = false ∧ s.vm.findClass RX5 = some cell.cls := va_recv hK.1 hP (ci := 5) (q0 := 4) (q := (RX5, TX5, 3)) rfl (xo_T)
theorem xg_T_0 (C0 : kC p s m c args cc nL own D cI cS) (hP : va_P D vwCl (xW cI cS a v ar) H) (hl : Cond.fieldLink own idx "HalfCuts$Text" "codes" "[I" ∈ lwG) (hdg : decode cc pc = .ok (.getfield idx, 3)) (kk : W p l e R s m args below meth c H locs cells slots Q (F0 m (pc + 3) ls (.ref (a (12+(8))) :: rest))) : W p l e R s m args below meth c H locs cells slots Q (F0 m pc ls (.ref (a 4) :: rest)) :=
  va_get (D := D) (ci := 5) (C := RX5) (T := TX5) (N := 3) C0.1.1 C0.1.2.1 C0.1.2.2.2.2 iX5 C0.1.2.2.2.1 C0.2.1 hP (4) (xo_T) rfl 0 (by decide) (C0.1.2.2.2.2 _ hl) (fun _ h9 => h9) rfl hdg kk
theorem xg_T_1 (C0 : kC p s m c args cc nL own D cI cS) (hP : va_P D vwCl (xW cI cS a v ar) H) (hl : Cond.fieldLink own idx "HalfCuts$Text" "count" "I" ∈ lwG) (hdg : decode cc pc = .ok (.getfield idx, 3)) (kk : W p l e R s m args below meth c H locs cells slots Q (F0 m (pc + 3) ls (.int (v (12)) :: rest))) : W p l e R s m args below meth c H locs cells slots Q (F0 m pc ls (.ref (a 4) :: rest)) :=
  va_get (D := D) (ci := 5) (C := RX5) (T := TX5) (N := 3) C0.1.1 C0.1.2.1 C0.1.2.2.2.2 iX5 C0.1.2.2.2.1 C0.2.1 hP (4) (xo_T) rfl 1 (by decide) (C0.1.2.2.2.2 _ hl) (fun _ h9 => h9) rfl hdg kk
theorem xs_T_1 {x : Int32} : (xW cI cS a v ar).set (4) (a 4, .inr (5, ([.ref (a (12+(8))), .int (v (12)), .int (v (13))] : List Value).set 1 (.int x))) = xW cI cS a (upd v (12) x) ar := rfl
theorem xp_T_1 (C0 : kC p s m c args cc nL own D cI cS) (hap : kAp a 29) {x : Int32} (hP : va_P D vwCl (xW cI cS a v ar) H) (hS : va_S (kA a 29) s.heap H locs) (hl : Cond.fieldLink own idx "HalfCuts$Text" "count" "I" ∈ lwG) (hdg : decode cc pc = .ok (.putfield idx, 3)) (kk : ∀ (H1 : Heap) (locs1 : List Loc), va_P D vwCl (xW cI cS a (upd v (12) x) ar) H1 → va_S (kA a 29) s.heap H1 locs1 → W p l e R s m args below meth c H1 locs1 cells slots Q (F0 m (pc + 3) ls rest)) : W p l e R s m args below meth c H locs cells slots Q (F0 m pc ls (.int x :: .ref (a 4) :: rest)) :=
  va_put (D := D) (ci := 5) (C := RX5) (T := TX5) (N := 3) (ty := .int) C0.1.1 C0.1.2.1 C0.1.2.2.2.2 iX5 tyX5 tyX5_ok nmX5 C0.1.2.2.2.1 C0.2.1 hP (xD hap) hS (4) (xo_T) rfl 1 (by decide) (C0.1.2.2.2.2 _ hl) (fun _ h9 => h9) rfl (by decide +kernel) rfl rfl (Nat.le_of_ble_eq_true rfl) hdg (fun H1 locs1 hP1 _ hS1 => kk H1 locs1 (by rw [xs_T_1] at hP1; exact hP1) hS1)
theorem xg_T_2 (C0 : kC p s m c args cc nL own D cI cS) (hP : va_P D vwCl (xW cI cS a v ar) H) (hl : Cond.fieldLink own idx "HalfCuts$Text" "at" "I" ∈ lwG) (hdg : decode cc pc = .ok (.getfield idx, 3)) (kk : W p l e R s m args below meth c H locs cells slots Q (F0 m (pc + 3) ls (.int (v (13)) :: rest))) : W p l e R s m args below meth c H locs cells slots Q (F0 m pc ls (.ref (a 4) :: rest)) :=
  va_get (D := D) (ci := 5) (C := RX5) (T := TX5) (N := 3) C0.1.1 C0.1.2.1 C0.1.2.2.2.2 iX5 C0.1.2.2.2.1 C0.2.1 hP (4) (xo_T) rfl 2 (by decide) (C0.1.2.2.2.2 _ hl) (fun _ h9 => h9) rfl hdg kk
theorem xs_T_2 {x : Int32} : (xW cI cS a v ar).set (4) (a 4, .inr (5, ([.ref (a (12+(8))), .int (v (12)), .int (v (13))] : List Value).set 2 (.int x))) = xW cI cS a (upd v (13) x) ar := rfl
theorem xp_T_2 (C0 : kC p s m c args cc nL own D cI cS) (hap : kAp a 29) {x : Int32} (hP : va_P D vwCl (xW cI cS a v ar) H) (hS : va_S (kA a 29) s.heap H locs) (hl : Cond.fieldLink own idx "HalfCuts$Text" "at" "I" ∈ lwG) (hdg : decode cc pc = .ok (.putfield idx, 3)) (kk : ∀ (H1 : Heap) (locs1 : List Loc), va_P D vwCl (xW cI cS a (upd v (13) x) ar) H1 → va_S (kA a 29) s.heap H1 locs1 → W p l e R s m args below meth c H1 locs1 cells slots Q (F0 m (pc + 3) ls rest)) : W p l e R s m args below meth c H locs cells slots Q (F0 m pc ls (.int x :: .ref (a 4) :: rest)) :=
  va_put (D := D) (ci := 5) (C := RX5) (T := TX5) (N := 3) (ty := .int) C0.1.1 C0.1.2.1 C0.1.2.2.2.2 iX5 tyX5 tyX5_ok nmX5 C0.1.2.2.2.1 C0.2.1 hP (xD hap) hS (4) (xo_T) rfl 2 (by decide) (C0.1.2.2.2.2 _ hl) (fun _ h9 => h9) rfl (by decide +kernel) rfl rfl (Nat.le_of_ble_eq_true rfl) hdg (fun H1 locs1 hP1 _ hS1 => kk H1 locs1 (by rw [xs_T_2] at hP1; exact hP1) hS1)
theorem xo_P : (xW cI cS a v ar)[5]? = some (a 5, .inr (1, [.ref (a (12+(9))), .int (v (14)), .int (v (15))])) := rfl
theorem xv_P (hK : kK D cI cS s) (hP : va_P D vwCl (xW cI cS a v ar) H) : ∃ cell : Cell, H[a 5]? = some cell ∧ cell.vm.isStatics = false ∧ s.vm.findClass RX1 = some cell.cls := va_recv hK.1 hP (ci := 1) (q0 := 5) (q := (RX1, TX1, 3)) rfl (xo_P)
theorem xg_P_0 (C0 : kC p s m c args cc nL own D cI cS) (hP : va_P D vwCl (xW cI cS a v ar) H) (hl : Cond.fieldLink own idx "HalfCuts$Pass" "moved" "[I" ∈ lwG) (hdg : decode cc pc = .ok (.getfield idx, 3)) (kk : W p l e R s m args below meth c H locs cells slots Q (F0 m (pc + 3) ls (.ref (a (12+(9))) :: rest))) : W p l e R s m args below meth c H locs cells slots Q (F0 m pc ls (.ref (a 5) :: rest)) :=
  va_get (D := D) (ci := 1) (C := RX1) (T := TX1) (N := 3) C0.1.1 C0.1.2.1 C0.1.2.2.2.2 iX1 C0.1.2.2.2.1 C0.2.1 hP (5) (xo_P) rfl 0 (by decide) (C0.1.2.2.2.2 _ hl) (fun _ h9 => h9) rfl hdg kk
theorem xg_P_1 (C0 : kC p s m c args cc nL own D cI cS) (hP : va_P D vwCl (xW cI cS a v ar) H) (hl : Cond.fieldLink own idx "HalfCuts$Pass" "moves" "I" ∈ lwG) (hdg : decode cc pc = .ok (.getfield idx, 3)) (kk : W p l e R s m args below meth c H locs cells slots Q (F0 m (pc + 3) ls (.int (v (14)) :: rest))) : W p l e R s m args below meth c H locs cells slots Q (F0 m pc ls (.ref (a 5) :: rest)) :=
  va_get (D := D) (ci := 1) (C := RX1) (T := TX1) (N := 3) C0.1.1 C0.1.2.1 C0.1.2.2.2.2 iX1 C0.1.2.2.2.1 C0.2.1 hP (5) (xo_P) rfl 1 (by decide) (C0.1.2.2.2.2 _ hl) (fun _ h9 => h9) rfl hdg kk
theorem xs_P_1 {x : Int32} : (xW cI cS a v ar).set (5) (a 5, .inr (1, ([.ref (a (12+(9))), .int (v (14)), .int (v (15))] : List Value).set 1 (.int x))) = xW cI cS a (upd v (14) x) ar := rfl
theorem xp_P_1 (C0 : kC p s m c args cc nL own D cI cS) (hap : kAp a 29) {x : Int32} (hP : va_P D vwCl (xW cI cS a v ar) H) (hS : va_S (kA a 29) s.heap H locs) (hl : Cond.fieldLink own idx "HalfCuts$Pass" "moves" "I" ∈ lwG) (hdg : decode cc pc = .ok (.putfield idx, 3)) (kk : ∀ (H1 : Heap) (locs1 : List Loc), va_P D vwCl (xW cI cS a (upd v (14) x) ar) H1 → va_S (kA a 29) s.heap H1 locs1 → W p l e R s m args below meth c H1 locs1 cells slots Q (F0 m (pc + 3) ls rest)) : W p l e R s m args below meth c H locs cells slots Q (F0 m pc ls (.int x :: .ref (a 5) :: rest)) :=
  va_put (D := D) (ci := 1) (C := RX1) (T := TX1) (N := 3) (ty := .int) C0.1.1 C0.1.2.1 C0.1.2.2.2.2 iX1 tyX1 tyX1_ok nmX1 C0.1.2.2.2.1 C0.2.1 hP (xD hap) hS (5) (xo_P) rfl 1 (by decide) (C0.1.2.2.2.2 _ hl) (fun _ h9 => h9) rfl (by decide +kernel) rfl rfl (Nat.le_of_ble_eq_true rfl) hdg (fun H1 locs1 hP1 _ hS1 => kk H1 locs1 (by rw [xs_P_1] at hP1; exact hP1) hS1)
theorem xg_P_2 (C0 : kC p s m c args cc nL own D cI cS) (hP : va_P D vwCl (xW cI cS a v ar) H) (hl : Cond.fieldLink own idx "HalfCuts$Pass" "kept" "I" ∈ lwG) (hdg : decode cc pc = .ok (.getfield idx, 3)) (kk : W p l e R s m args below meth c H locs cells slots Q (F0 m (pc + 3) ls (.int (v (15)) :: rest))) : W p l e R s m args below meth c H locs cells slots Q (F0 m pc ls (.ref (a 5) :: rest)) :=
  va_get (D := D) (ci := 1) (C := RX1) (T := TX1) (N := 3) C0.1.1 C0.1.2.1 C0.1.2.2.2.2 iX1 C0.1.2.2.2.1 C0.2.1 hP (5) (xo_P) rfl 2 (by decide) (C0.1.2.2.2.2 _ hl) (fun _ h9 => h9) rfl hdg kk
theorem xs_P_2 {x : Int32} : (xW cI cS a v ar).set (5) (a 5, .inr (1, ([.ref (a (12+(9))), .int (v (14)), .int (v (15))] : List Value).set 2 (.int x))) = xW cI cS a (upd v (15) x) ar := rfl
theorem xp_P_2 (C0 : kC p s m c args cc nL own D cI cS) (hap : kAp a 29) {x : Int32} (hP : va_P D vwCl (xW cI cS a v ar) H) (hS : va_S (kA a 29) s.heap H locs) (hl : Cond.fieldLink own idx "HalfCuts$Pass" "kept" "I" ∈ lwG) (hdg : decode cc pc = .ok (.putfield idx, 3)) (kk : ∀ (H1 : Heap) (locs1 : List Loc), va_P D vwCl (xW cI cS a (upd v (15) x) ar) H1 → va_S (kA a 29) s.heap H1 locs1 → W p l e R s m args below meth c H1 locs1 cells slots Q (F0 m (pc + 3) ls rest)) : W p l e R s m args below meth c H locs cells slots Q (F0 m pc ls (.int x :: .ref (a 5) :: rest)) :=
  va_put (D := D) (ci := 1) (C := RX1) (T := TX1) (N := 3) (ty := .int) C0.1.1 C0.1.2.1 C0.1.2.2.2.2 iX1 tyX1 tyX1_ok nmX1 C0.1.2.2.2.1 C0.2.1 hP (xD hap) hS (5) (xo_P) rfl 2 (by decide) (C0.1.2.2.2.2 _ hl) (fun _ h9 => h9) rfl (by decide +kernel) rfl rfl (Nat.le_of_ble_eq_true rfl) hdg (fun H1 locs1 hP1 _ hS1 => kk H1 locs1 (by rw [xs_P_2] at hP1; exact hP1) hS1)
theorem xo_R : (xW cI cS a v ar)[6]? = some (a 6, .inr (2, [.int (v (16)), .int (v (17)), .int (v (18)), .ref (a (12+(10)))])) := rfl
theorem xv_R (hK : kK D cI cS s) (hP : va_P D vwCl (xW cI cS a v ar) H) : ∃ cell : Cell, H[a 6]? = some cell ∧ cell.vm.isStatics = false ∧ s.vm.findClass RX2 = some cell.cls := va_recv hK.1 hP (ci := 2) (q0 := 6) (q := (RX2, TX2, 4)) rfl (xo_R)
theorem xg_R_0 (C0 : kC p s m c args cc nL own D cI cS) (hP : va_P D vwCl (xW cI cS a v ar) H) (hl : Cond.fieldLink own idx "HalfCuts$Rack" "stands" "Z" ∈ lwG) (hdg : decode cc pc = .ok (.getfield idx, 3)) (kk : W p l e R s m args below meth c H locs cells slots Q (F0 m (pc + 3) ls (.int (v (16)) :: rest))) : W p l e R s m args below meth c H locs cells slots Q (F0 m pc ls (.ref (a 6) :: rest)) :=
  va_get (D := D) (ci := 2) (C := RX2) (T := TX2) (N := 4) C0.1.1 C0.1.2.1 C0.1.2.2.2.2 iX2 C0.1.2.2.2.1 C0.2.1 hP (6) (xo_R) rfl 0 (by decide) (C0.1.2.2.2.2 _ hl) (fun _ h9 => h9) rfl hdg kk
theorem xs_R_0 {x : Int32} : (xW cI cS a v ar).set (6) (a 6, .inr (2, ([.int (v (16)), .int (v (17)), .int (v (18)), .ref (a (12+(10)))] : List Value).set 0 (.int x))) = xW cI cS a (upd v (16) x) ar := rfl
theorem xp_R_0 (C0 : kC p s m c args cc nL own D cI cS) (hap : kAp a 29) {x : Int32} (hz : narrow .boolean (.int x) = .int x) (hzf : fits .boolean (.int x) = true) (hP : va_P D vwCl (xW cI cS a v ar) H) (hS : va_S (kA a 29) s.heap H locs) (hl : Cond.fieldLink own idx "HalfCuts$Rack" "stands" "Z" ∈ lwG) (hdg : decode cc pc = .ok (.putfield idx, 3)) (kk : ∀ (H1 : Heap) (locs1 : List Loc), va_P D vwCl (xW cI cS a (upd v (16) x) ar) H1 → va_S (kA a 29) s.heap H1 locs1 → W p l e R s m args below meth c H1 locs1 cells slots Q (F0 m (pc + 3) ls rest)) : W p l e R s m args below meth c H locs cells slots Q (F0 m pc ls (.int x :: .ref (a 6) :: rest)) :=
  va_put (D := D) (ci := 2) (C := RX2) (T := TX2) (N := 4) (ty := .boolean) C0.1.1 C0.1.2.1 C0.1.2.2.2.2 iX2 tyX2 tyX2_ok nmX2 C0.1.2.2.2.1 C0.2.1 hP (xD hap) hS (6) (xo_R) rfl 0 (by decide) (C0.1.2.2.2.2 _ hl) (fun _ h9 => h9) rfl (by decide +kernel) hz hzf (Nat.le_of_ble_eq_true rfl) hdg (fun H1 locs1 hP1 _ hS1 => kk H1 locs1 (by rw [xs_R_0] at hP1; exact hP1) hS1)
theorem xg_R_1 (C0 : kC p s m c args cc nL own D cI cS) (hP : va_P D vwCl (xW cI cS a v ar) H) (hl : Cond.fieldLink own idx "HalfCuts$Rack" "kind" "I" ∈ lwG) (hdg : decode cc pc = .ok (.getfield idx, 3)) (kk : W p l e R s m args below meth c H locs cells slots Q (F0 m (pc + 3) ls (.int (v (17)) :: rest))) : W p l e R s m args below meth c H locs cells slots Q (F0 m pc ls (.ref (a 6) :: rest)) :=
  va_get (D := D) (ci := 2) (C := RX2) (T := TX2) (N := 4) C0.1.1 C0.1.2.1 C0.1.2.2.2.2 iX2 C0.1.2.2.2.1 C0.2.1 hP (6) (xo_R) rfl 1 (by decide) (C0.1.2.2.2.2 _ hl) (fun _ h9 => h9) rfl hdg kk
theorem xs_R_1 {x : Int32} : (xW cI cS a v ar).set (6) (a 6, .inr (2, ([.int (v (16)), .int (v (17)), .int (v (18)), .ref (a (12+(10)))] : List Value).set 1 (.int x))) = xW cI cS a (upd v (17) x) ar := rfl
theorem xp_R_1 (C0 : kC p s m c args cc nL own D cI cS) (hap : kAp a 29) {x : Int32} (hP : va_P D vwCl (xW cI cS a v ar) H) (hS : va_S (kA a 29) s.heap H locs) (hl : Cond.fieldLink own idx "HalfCuts$Rack" "kind" "I" ∈ lwG) (hdg : decode cc pc = .ok (.putfield idx, 3)) (kk : ∀ (H1 : Heap) (locs1 : List Loc), va_P D vwCl (xW cI cS a (upd v (17) x) ar) H1 → va_S (kA a 29) s.heap H1 locs1 → W p l e R s m args below meth c H1 locs1 cells slots Q (F0 m (pc + 3) ls rest)) : W p l e R s m args below meth c H locs cells slots Q (F0 m pc ls (.int x :: .ref (a 6) :: rest)) :=
  va_put (D := D) (ci := 2) (C := RX2) (T := TX2) (N := 4) (ty := .int) C0.1.1 C0.1.2.1 C0.1.2.2.2.2 iX2 tyX2 tyX2_ok nmX2 C0.1.2.2.2.1 C0.2.1 hP (xD hap) hS (6) (xo_R) rfl 1 (by decide) (C0.1.2.2.2.2 _ hl) (fun _ h9 => h9) rfl (by decide +kernel) rfl rfl (Nat.le_of_ble_eq_true rfl) hdg (fun H1 locs1 hP1 _ hS1 => kk H1 locs1 (by rw [xs_R_1] at hP1; exact hP1) hS1)
theorem xg_R_2 (C0 : kC p s m c args cc nL own D cI cS) (hP : va_P D vwCl (xW cI cS a v ar) H) (hl : Cond.fieldLink own idx "HalfCuts$Rack" "places" "I" ∈ lwG) (hdg : decode cc pc = .ok (.getfield idx, 3)) (kk : W p l e R s m args below meth c H locs cells slots Q (F0 m (pc + 3) ls (.int (v (18)) :: rest))) : W p l e R s m args below meth c H locs cells slots Q (F0 m pc ls (.ref (a 6) :: rest)) :=
  va_get (D := D) (ci := 2) (C := RX2) (T := TX2) (N := 4) C0.1.1 C0.1.2.1 C0.1.2.2.2.2 iX2 C0.1.2.2.2.1 C0.2.1 hP (6) (xo_R) rfl 2 (by decide) (C0.1.2.2.2.2 _ hl) (fun _ h9 => h9) rfl hdg kk
theorem xs_R_2 {x : Int32} : (xW cI cS a v ar).set (6) (a 6, .inr (2, ([.int (v (16)), .int (v (17)), .int (v (18)), .ref (a (12+(10)))] : List Value).set 2 (.int x))) = xW cI cS a (upd v (18) x) ar := rfl
theorem xp_R_2 (C0 : kC p s m c args cc nL own D cI cS) (hap : kAp a 29) {x : Int32} (hP : va_P D vwCl (xW cI cS a v ar) H) (hS : va_S (kA a 29) s.heap H locs) (hl : Cond.fieldLink own idx "HalfCuts$Rack" "places" "I" ∈ lwG) (hdg : decode cc pc = .ok (.putfield idx, 3)) (kk : ∀ (H1 : Heap) (locs1 : List Loc), va_P D vwCl (xW cI cS a (upd v (18) x) ar) H1 → va_S (kA a 29) s.heap H1 locs1 → W p l e R s m args below meth c H1 locs1 cells slots Q (F0 m (pc + 3) ls rest)) : W p l e R s m args below meth c H locs cells slots Q (F0 m pc ls (.int x :: .ref (a 6) :: rest)) :=
  va_put (D := D) (ci := 2) (C := RX2) (T := TX2) (N := 4) (ty := .int) C0.1.1 C0.1.2.1 C0.1.2.2.2.2 iX2 tyX2 tyX2_ok nmX2 C0.1.2.2.2.1 C0.2.1 hP (xD hap) hS (6) (xo_R) rfl 2 (by decide) (C0.1.2.2.2.2 _ hl) (fun _ h9 => h9) rfl (by decide +kernel) rfl rfl (Nat.le_of_ble_eq_true rfl) hdg (fun H1 locs1 hP1 _ hS1 => kk H1 locs1 (by rw [xs_R_2] at hP1; exact hP1) hS1)
theorem xg_R_3 (C0 : kC p s m c args cc nL own D cI cS) (hP : va_P D vwCl (xW cI cS a v ar) H) (hl : Cond.fieldLink own idx "HalfCuts$Rack" "held" "[I" ∈ lwG) (hdg : decode cc pc = .ok (.getfield idx, 3)) (kk : W p l e R s m args below meth c H locs cells slots Q (F0 m (pc + 3) ls (.ref (a (12+(10))) :: rest))) : W p l e R s m args below meth c H locs cells slots Q (F0 m pc ls (.ref (a 6) :: rest)) :=
  va_get (D := D) (ci := 2) (C := RX2) (T := TX2) (N := 4) C0.1.1 C0.1.2.1 C0.1.2.2.2.2 iX2 C0.1.2.2.2.1 C0.2.1 hP (6) (xo_R) rfl 3 (by decide) (C0.1.2.2.2.2 _ hl) (fun _ h9 => h9) rfl hdg kk
theorem xo_RD : (xW cI cS a v ar)[7]? = some (a 7, .inr (3, [.int (v (19)), .ref (a (12+(11))), .ref (a (12+(12)))])) := rfl
theorem xv_RD (hK : kK D cI cS s) (hP : va_P D vwCl (xW cI cS a v ar) H) : ∃ cell : Cell, H[a 7]? = some cell ∧ cell.vm.isStatics = false ∧ s.vm.findClass RX3 = some cell.cls := va_recv hK.1 hP (ci := 3) (q0 := 7) (q := (RX3, TX3, 3)) rfl (xo_RD)
theorem xg_RD_0 (C0 : kC p s m c args cc nL own D cI cS) (hP : va_P D vwCl (xW cI cS a v ar) H) (hl : Cond.fieldLink own idx "HalfCuts$Readings" "count" "I" ∈ lwG) (hdg : decode cc pc = .ok (.getfield idx, 3)) (kk : W p l e R s m args below meth c H locs cells slots Q (F0 m (pc + 3) ls (.int (v (19)) :: rest))) : W p l e R s m args below meth c H locs cells slots Q (F0 m pc ls (.ref (a 7) :: rest)) :=
  va_get (D := D) (ci := 3) (C := RX3) (T := TX3) (N := 3) C0.1.1 C0.1.2.1 C0.1.2.2.2.2 iX3 C0.1.2.2.2.1 C0.2.1 hP (7) (xo_RD) rfl 0 (by decide) (C0.1.2.2.2.2 _ hl) (fun _ h9 => h9) rfl hdg kk
theorem xs_RD_0 {x : Int32} : (xW cI cS a v ar).set (7) (a 7, .inr (3, ([.int (v (19)), .ref (a (12+(11))), .ref (a (12+(12)))] : List Value).set 0 (.int x))) = xW cI cS a (upd v (19) x) ar := rfl
theorem xp_RD_0 (C0 : kC p s m c args cc nL own D cI cS) (hap : kAp a 29) {x : Int32} (hP : va_P D vwCl (xW cI cS a v ar) H) (hS : va_S (kA a 29) s.heap H locs) (hl : Cond.fieldLink own idx "HalfCuts$Readings" "count" "I" ∈ lwG) (hdg : decode cc pc = .ok (.putfield idx, 3)) (kk : ∀ (H1 : Heap) (locs1 : List Loc), va_P D vwCl (xW cI cS a (upd v (19) x) ar) H1 → va_S (kA a 29) s.heap H1 locs1 → W p l e R s m args below meth c H1 locs1 cells slots Q (F0 m (pc + 3) ls rest)) : W p l e R s m args below meth c H locs cells slots Q (F0 m pc ls (.int x :: .ref (a 7) :: rest)) :=
  va_put (D := D) (ci := 3) (C := RX3) (T := TX3) (N := 3) (ty := .int) C0.1.1 C0.1.2.1 C0.1.2.2.2.2 iX3 tyX3 tyX3_ok nmX3 C0.1.2.2.2.1 C0.2.1 hP (xD hap) hS (7) (xo_RD) rfl 0 (by decide) (C0.1.2.2.2.2 _ hl) (fun _ h9 => h9) rfl (by decide +kernel) rfl rfl (Nat.le_of_ble_eq_true rfl) hdg (fun H1 locs1 hP1 _ hS1 => kk H1 locs1 (by rw [xs_RD_0] at hP1; exact hP1) hS1)
theorem xg_RD_1 (C0 : kC p s m c args cc nL own D cI cS) (hP : va_P D vwCl (xW cI cS a v ar) H) (hl : Cond.fieldLink own idx "HalfCuts$Readings" "about" "[I" ∈ lwG) (hdg : decode cc pc = .ok (.getfield idx, 3)) (kk : W p l e R s m args below meth c H locs cells slots Q (F0 m (pc + 3) ls (.ref (a (12+(11))) :: rest))) : W p l e R s m args below meth c H locs cells slots Q (F0 m pc ls (.ref (a 7) :: rest)) :=
  va_get (D := D) (ci := 3) (C := RX3) (T := TX3) (N := 3) C0.1.1 C0.1.2.1 C0.1.2.2.2.2 iX3 C0.1.2.2.2.1 C0.2.1 hP (7) (xo_RD) rfl 1 (by decide) (C0.1.2.2.2.2 _ hl) (fun _ h9 => h9) rfl hdg kk
theorem xg_RD_2 (C0 : kC p s m c args cc nL own D cI cS) (hP : va_P D vwCl (xW cI cS a v ar) H) (hl : Cond.fieldLink own idx "HalfCuts$Readings" "bits" "[I" ∈ lwG) (hdg : decode cc pc = .ok (.getfield idx, 3)) (kk : W p l e R s m args below meth c H locs cells slots Q (F0 m (pc + 3) ls (.ref (a (12+(12))) :: rest))) : W p l e R s m args below meth c H locs cells slots Q (F0 m pc ls (.ref (a 7) :: rest)) :=
  va_get (D := D) (ci := 3) (C := RX3) (T := TX3) (N := 3) C0.1.1 C0.1.2.1 C0.1.2.2.2.2 iX3 C0.1.2.2.2.1 C0.2.1 hP (7) (xo_RD) rfl 2 (by decide) (C0.1.2.2.2.2 _ hl) (fun _ h9 => h9) rfl hdg kk
theorem xo_S {q : Nat} (hq : q < 4) : (xW cI cS a v ar)[8+q]? = some (a (8+q), .inr (4, [.int (v (20+2*q)), .int (v (21+2*q)), .ref (a (12+(13+q)))])) := k4c (P := fun q => (xW cI cS a v ar)[8+q]? = some (a (8+q), .inr (4, [.int (v (20+2*q)), .int (v (21+2*q)), .ref (a (12+(13+q)))]))) hq rfl rfl rfl rfl
theorem xv_S {q : Nat} (hq : q < 4) (hK : kK D cI cS s) (hP : va_P D vwCl (xW cI cS a v ar) H) : ∃ cell : Cell, H[a (8+q)]? = some cell ∧ cell.vm.isStatics = false ∧ s.vm.findClass RX4 = some cell.cls := va_recv hK.1 hP (ci := 4) (q0 := 8+q) (q := (RX4, TX4, 3)) rfl (xo_S hq)
theorem xg_S_0 (C0 : kC p s m c args cc nL own D cI cS) {q : Nat} (hq : q < 4) (hP : va_P D vwCl (xW cI cS a v ar) H) (hl : Cond.fieldLink own idx "HalfCuts$Sheet" "lane" "I" ∈ lwG) (hdg : decode cc pc = .ok (.getfield idx, 3)) (kk : W p l e R s m args below meth c H locs cells slots Q (F0 m (pc + 3) ls (.int (v (20+2*q)) :: rest))) : W p l e R s m args below meth c H locs cells slots Q (F0 m pc ls (.ref (a (8+q)) :: rest)) :=
  va_get (D := D) (ci := 4) (C := RX4) (T := TX4) (N := 3) C0.1.1 C0.1.2.1 C0.1.2.2.2.2 iX4 C0.1.2.2.2.1 C0.2.1 hP (8+q) (xo_S hq) rfl 0 (by decide) (C0.1.2.2.2.2 _ hl) (fun _ h9 => h9) rfl hdg kk
theorem xs_S_0 {q : Nat} (hq : q < 4) {x : Int32} : (xW cI cS a v ar).set (8+q) (a (8+q), .inr (4, ([.int (v (20+2*q)), .int (v (21+2*q)), .ref (a (12+(13+q)))] : List Value).set 0 (.int x))) = xW cI cS a (upd v (20+2*q) x) ar := k4c (P := fun q => (xW cI cS a v ar).set (8+q) (a (8+q), .inr (4, ([.int (v (20+2*q)), .int (v (21+2*q)), .ref (a (12+(13+q)))] : List Value).set 0 (.int x))) = xW cI cS a (upd v (20+2*q) x) ar) hq rfl rfl rfl rfl
theorem xp_S_0 (C0 : kC p s m c args cc nL own D cI cS) (hap : kAp a 29) {q : Nat} (hq : q < 4) {x : Int32} (hP : va_P D vwCl (xW cI cS a v ar) H) (hS : va_S (kA a 29) s.heap H locs) (hl : Cond.fieldLink own idx "HalfCuts$Sheet" "lane" "I" ∈ lwG) (hdg : decode cc pc = .ok (.putfield idx, 3)) (kk : ∀ (H1 : Heap) (locs1 : List Loc), va_P D vwCl (xW cI cS a (upd v (20+2*q) x) ar) H1 → va_S (kA a 29) s.heap H1 locs1 → W p l e R s m args below meth c H1 locs1 cells slots Q (F0 m (pc + 3) ls rest)) : W p l e R s m args below meth c H locs cells slots Q (F0 m pc ls (.int x :: .ref (a (8+q)) :: rest)) :=
  va_put (D := D) (ci := 4) (C := RX4) (T := TX4) (N := 3) (ty := .int) C0.1.1 C0.1.2.1 C0.1.2.2.2.2 iX4 tyX4 tyX4_ok nmX4 C0.1.2.2.2.1 C0.2.1 hP (xD hap) hS (8+q) (xo_S hq) rfl 0 (by decide) (C0.1.2.2.2.2 _ hl) (fun _ h9 => h9) rfl (by decide +kernel) rfl rfl (Nat.le_of_ble_eq_true rfl) hdg (fun H1 locs1 hP1 _ hS1 => kk H1 locs1 (by rw [xs_S_0 hq] at hP1; exact hP1) hS1)
theorem xg_S_1 (C0 : kC p s m c args cc nL own D cI cS) {q : Nat} (hq : q < 4) (hP : va_P D vwCl (xW cI cS a v ar) H) (hl : Cond.fieldLink own idx "HalfCuts$Sheet" "size" "I" ∈ lwG) (hdg : decode cc pc = .ok (.getfield idx, 3)) (kk : W p l e R s m args below meth c H locs cells slots Q (F0 m (pc + 3) ls (.int (v (21+2*q)) :: rest))) : W p l e R s m args below meth c H locs cells slots Q (F0 m pc ls (.ref (a (8+q)) :: rest)) :=
  va_get (D := D) (ci := 4) (C := RX4) (T := TX4) (N := 3) C0.1.1 C0.1.2.1 C0.1.2.2.2.2 iX4 C0.1.2.2.2.1 C0.2.1 hP (8+q) (xo_S hq) rfl 1 (by decide) (C0.1.2.2.2.2 _ hl) (fun _ h9 => h9) rfl hdg kk
theorem xs_S_1 {q : Nat} (hq : q < 4) {x : Int32} : (xW cI cS a v ar).set (8+q) (a (8+q), .inr (4, ([.int (v (20+2*q)), .int (v (21+2*q)), .ref (a (12+(13+q)))] : List Value).set 1 (.int x))) = xW cI cS a (upd v (21+2*q) x) ar := k4c (P := fun q => (xW cI cS a v ar).set (8+q) (a (8+q), .inr (4, ([.int (v (20+2*q)), .int (v (21+2*q)), .ref (a (12+(13+q)))] : List Value).set 1 (.int x))) = xW cI cS a (upd v (21+2*q) x) ar) hq rfl rfl rfl rfl
theorem xp_S_1 (C0 : kC p s m c args cc nL own D cI cS) (hap : kAp a 29) {q : Nat} (hq : q < 4) {x : Int32} (hP : va_P D vwCl (xW cI cS a v ar) H) (hS : va_S (kA a 29) s.heap H locs) (hl : Cond.fieldLink own idx "HalfCuts$Sheet" "size" "I" ∈ lwG) (hdg : decode cc pc = .ok (.putfield idx, 3)) (kk : ∀ (H1 : Heap) (locs1 : List Loc), va_P D vwCl (xW cI cS a (upd v (21+2*q) x) ar) H1 → va_S (kA a 29) s.heap H1 locs1 → W p l e R s m args below meth c H1 locs1 cells slots Q (F0 m (pc + 3) ls rest)) : W p l e R s m args below meth c H locs cells slots Q (F0 m pc ls (.int x :: .ref (a (8+q)) :: rest)) :=
  va_put (D := D) (ci := 4) (C := RX4) (T := TX4) (N := 3) (ty := .int) C0.1.1 C0.1.2.1 C0.1.2.2.2.2 iX4 tyX4 tyX4_ok nmX4 C0.1.2.2.2.1 C0.2.1 hP (xD hap) hS (8+q) (xo_S hq) rfl 1 (by decide) (C0.1.2.2.2.2 _ hl) (fun _ h9 => h9) rfl (by decide +kernel) rfl rfl (Nat.le_of_ble_eq_true rfl) hdg (fun H1 locs1 hP1 _ hS1 => kk H1 locs1 (by rw [xs_S_1 hq] at hP1; exact hP1) hS1)
theorem xg_S_2 (C0 : kC p s m c args cc nL own D cI cS) {q : Nat} (hq : q < 4) (hP : va_P D vwCl (xW cI cS a v ar) H) (hl : Cond.fieldLink own idx "HalfCuts$Sheet" "row" "[I" ∈ lwG) (hdg : decode cc pc = .ok (.getfield idx, 3)) (kk : W p l e R s m args below meth c H locs cells slots Q (F0 m (pc + 3) ls (.ref (a (12+(13+q))) :: rest))) : W p l e R s m args below meth c H locs cells slots Q (F0 m pc ls (.ref (a (8+q)) :: rest)) :=
  va_get (D := D) (ci := 4) (C := RX4) (T := TX4) (N := 3) C0.1.1 C0.1.2.1 C0.1.2.2.2.2 iX4 C0.1.2.2.2.1 C0.2.1 hP (8+q) (xo_S hq) rfl 2 (by decide) (C0.1.2.2.2.2 _ hl) (fun _ h9 => h9) rfl hdg kk
theorem xo_M : (mW cI a v ar)[0]? = some (a 0, .inr (7, [.int (v (0)), .int (v (1)), .ref (a (1+0)), .ref (a (1+1)), .ref (a (1+2)), .int (v (5)), .int (v (6)), .int (v (7)), .int (v (8)), .int (v (9)), .int (v (10)), .int (v (11)), .ref (a (1+3)), .ref (a (1+4)), .ref (a (1+5)), .ref (a (1+6)), .int (v (16)), .int (v (17)), .int (v (18)), .int (v (19)), .int (v (20)), .ref (a (1+7)), .ref (a (1+8)), .ref (a (1+9)), .ref (a (1+10)), .int (v (25)), .int (v (26)), .int (v (27)), .ref (a (1+11)), .int (v (29)), .ref (a (1+12)), .ref (a (1+13))])) := rfl
theorem xv_M (hK : kK D cI cS s) (hP : va_P D vwCl (mW cI a v ar) H) : ∃ cell : Cell, H[a 0]? = some cell ∧ cell.vm.isStatics = false ∧ s.vm.findClass RX7 = some cell.cls := va_recv hK.1 hP (ci := 7) (q0 := 0) (q := (RX7, TX7, 32)) rfl (xo_M)
theorem xg_M_0 (C0 : kC p s m c args cc nL own D cI cS) (hP : va_P D vwCl (mW cI a v ar) H) (hl : Cond.fieldLink own idx "HalfCutsModel" "fault" "I" ∈ lwG) (hdg : decode cc pc = .ok (.getfield idx, 3)) (kk : W p l e R s m args below meth c H locs cells slots Q (F0 m (pc + 3) ls (.int (v (0)) :: rest))) : W p l e R s m args below meth c H locs cells slots Q (F0 m pc ls (.ref (a 0) :: rest)) :=
  va_get (D := D) (ci := 7) (C := RX7) (T := TX7) (N := 32) C0.1.1 C0.1.2.1 C0.1.2.2.2.2 iX7 C0.1.2.2.2.1 C0.2.1 hP (0) (xo_M) rfl 0 (by decide) (C0.1.2.2.2.2 _ hl) (fun _ h9 => h9) rfl hdg kk
theorem xs_M_0 {x : Int32} : (mW cI a v ar).set (0) (a 0, .inr (7, ([.int (v (0)), .int (v (1)), .ref (a (1+0)), .ref (a (1+1)), .ref (a (1+2)), .int (v (5)), .int (v (6)), .int (v (7)), .int (v (8)), .int (v (9)), .int (v (10)), .int (v (11)), .ref (a (1+3)), .ref (a (1+4)), .ref (a (1+5)), .ref (a (1+6)), .int (v (16)), .int (v (17)), .int (v (18)), .int (v (19)), .int (v (20)), .ref (a (1+7)), .ref (a (1+8)), .ref (a (1+9)), .ref (a (1+10)), .int (v (25)), .int (v (26)), .int (v (27)), .ref (a (1+11)), .int (v (29)), .ref (a (1+12)), .ref (a (1+13))] : List Value).set 0 (.int x))) = mW cI a (upd v (0) x) ar := rfl
theorem xp_M_0 (C0 : kC p s m c args cc nL own D cI cS) (hap : kAp a 15) {x : Int32} (hP : va_P D vwCl (mW cI a v ar) H) (hS : va_S (kA a 15) s.heap H locs) (hl : Cond.fieldLink own idx "HalfCutsModel" "fault" "I" ∈ lwG) (hdg : decode cc pc = .ok (.putfield idx, 3)) (kk : ∀ (H1 : Heap) (locs1 : List Loc), va_P D vwCl (mW cI a (upd v (0) x) ar) H1 → va_S (kA a 15) s.heap H1 locs1 → W p l e R s m args below meth c H1 locs1 cells slots Q (F0 m (pc + 3) ls rest)) : W p l e R s m args below meth c H locs cells slots Q (F0 m pc ls (.int x :: .ref (a 0) :: rest)) :=
  va_put (D := D) (ci := 7) (C := RX7) (T := TX7) (N := 32) (ty := .int) C0.1.1 C0.1.2.1 C0.1.2.2.2.2 iX7 tyX7 tyX7_ok nmX7 C0.1.2.2.2.1 C0.2.1 hP (mD hap) hS (0) (xo_M) rfl 0 (by decide) (C0.1.2.2.2.2 _ hl) (fun _ h9 => h9) rfl (by decide +kernel) rfl rfl (Nat.le_of_ble_eq_true rfl) hdg (fun H1 locs1 hP1 _ hS1 => kk H1 locs1 (by rw [xs_M_0] at hP1; exact hP1) hS1)
theorem xg_M_1 (C0 : kC p s m c args cc nL own D cI cS) (hP : va_P D vwCl (mW cI a v ar) H) (hl : Cond.fieldLink own idx "HalfCutsModel" "trace" "I" ∈ lwG) (hdg : decode cc pc = .ok (.getfield idx, 3)) (kk : W p l e R s m args below meth c H locs cells slots Q (F0 m (pc + 3) ls (.int (v (1)) :: rest))) : W p l e R s m args below meth c H locs cells slots Q (F0 m pc ls (.ref (a 0) :: rest)) :=
  va_get (D := D) (ci := 7) (C := RX7) (T := TX7) (N := 32) C0.1.1 C0.1.2.1 C0.1.2.2.2.2 iX7 C0.1.2.2.2.1 C0.2.1 hP (0) (xo_M) rfl 1 (by decide) (C0.1.2.2.2.2 _ hl) (fun _ h9 => h9) rfl hdg kk
theorem xs_M_1 {x : Int32} : (mW cI a v ar).set (0) (a 0, .inr (7, ([.int (v (0)), .int (v (1)), .ref (a (1+0)), .ref (a (1+1)), .ref (a (1+2)), .int (v (5)), .int (v (6)), .int (v (7)), .int (v (8)), .int (v (9)), .int (v (10)), .int (v (11)), .ref (a (1+3)), .ref (a (1+4)), .ref (a (1+5)), .ref (a (1+6)), .int (v (16)), .int (v (17)), .int (v (18)), .int (v (19)), .int (v (20)), .ref (a (1+7)), .ref (a (1+8)), .ref (a (1+9)), .ref (a (1+10)), .int (v (25)), .int (v (26)), .int (v (27)), .ref (a (1+11)), .int (v (29)), .ref (a (1+12)), .ref (a (1+13))] : List Value).set 1 (.int x))) = mW cI a (upd v (1) x) ar := rfl
theorem xp_M_1 (C0 : kC p s m c args cc nL own D cI cS) (hap : kAp a 15) {x : Int32} (hP : va_P D vwCl (mW cI a v ar) H) (hS : va_S (kA a 15) s.heap H locs) (hl : Cond.fieldLink own idx "HalfCutsModel" "trace" "I" ∈ lwG) (hdg : decode cc pc = .ok (.putfield idx, 3)) (kk : ∀ (H1 : Heap) (locs1 : List Loc), va_P D vwCl (mW cI a (upd v (1) x) ar) H1 → va_S (kA a 15) s.heap H1 locs1 → W p l e R s m args below meth c H1 locs1 cells slots Q (F0 m (pc + 3) ls rest)) : W p l e R s m args below meth c H locs cells slots Q (F0 m pc ls (.int x :: .ref (a 0) :: rest)) :=
  va_put (D := D) (ci := 7) (C := RX7) (T := TX7) (N := 32) (ty := .int) C0.1.1 C0.1.2.1 C0.1.2.2.2.2 iX7 tyX7 tyX7_ok nmX7 C0.1.2.2.2.1 C0.2.1 hP (mD hap) hS (0) (xo_M) rfl 1 (by decide) (C0.1.2.2.2.2 _ hl) (fun _ h9 => h9) rfl (by decide +kernel) rfl rfl (Nat.le_of_ble_eq_true rfl) hdg (fun H1 locs1 hP1 _ hS1 => kk H1 locs1 (by rw [xs_M_1] at hP1; exact hP1) hS1)
theorem xg_M_2 (C0 : kC p s m c args cc nL own D cI cS) (hP : va_P D vwCl (mW cI a v ar) H) (hl : Cond.fieldLink own idx "HalfCutsModel" "sorts" "[I" ∈ lwG) (hdg : decode cc pc = .ok (.getfield idx, 3)) (kk : W p l e R s m args below meth c H locs cells slots Q (F0 m (pc + 3) ls (.ref (a (1+0)) :: rest))) : W p l e R s m args below meth c H locs cells slots Q (F0 m pc ls (.ref (a 0) :: rest)) :=
  va_get (D := D) (ci := 7) (C := RX7) (T := TX7) (N := 32) C0.1.1 C0.1.2.1 C0.1.2.2.2.2 iX7 C0.1.2.2.2.1 C0.2.1 hP (0) (xo_M) rfl 2 (by decide) (C0.1.2.2.2.2 _ hl) (fun _ h9 => h9) rfl hdg kk
theorem xg_M_3 (C0 : kC p s m c args cc nL own D cI cS) (hP : va_P D vwCl (mW cI a v ar) H) (hl : Cond.fieldLink own idx "HalfCutsModel" "sheetLong" "[I" ∈ lwG) (hdg : decode cc pc = .ok (.getfield idx, 3)) (kk : W p l e R s m args below meth c H locs cells slots Q (F0 m (pc + 3) ls (.ref (a (1+1)) :: rest))) : W p l e R s m args below meth c H locs cells slots Q (F0 m pc ls (.ref (a 0) :: rest)) :=
  va_get (D := D) (ci := 7) (C := RX7) (T := TX7) (N := 32) C0.1.1 C0.1.2.1 C0.1.2.2.2.2 iX7 C0.1.2.2.2.1 C0.2.1 hP (0) (xo_M) rfl 3 (by decide) (C0.1.2.2.2.2 _ hl) (fun _ h9 => h9) rfl hdg kk
theorem xg_M_4 (C0 : kC p s m c args cc nL own D cI cS) (hP : va_P D vwCl (mW cI a v ar) H) (hl : Cond.fieldLink own idx "HalfCutsModel" "cells" "[I" ∈ lwG) (hdg : decode cc pc = .ok (.getfield idx, 3)) (kk : W p l e R s m args below meth c H locs cells slots Q (F0 m (pc + 3) ls (.ref (a (1+2)) :: rest))) : W p l e R s m args below meth c H locs cells slots Q (F0 m pc ls (.ref (a 0) :: rest)) :=
  va_get (D := D) (ci := 7) (C := RX7) (T := TX7) (N := 32) C0.1.1 C0.1.2.1 C0.1.2.2.2.2 iX7 C0.1.2.2.2.1 C0.2.1 hP (0) (xo_M) rfl 4 (by decide) (C0.1.2.2.2.2 _ hl) (fun _ h9 => h9) rfl hdg kk
theorem xg_M_5 (C0 : kC p s m c args cc nL own D cI cS) (hP : va_P D vwCl (mW cI a v ar) H) (hl : Cond.fieldLink own idx "HalfCutsModel" "many" "I" ∈ lwG) (hdg : decode cc pc = .ok (.getfield idx, 3)) (kk : W p l e R s m args below meth c H locs cells slots Q (F0 m (pc + 3) ls (.int (v (5)) :: rest))) : W p l e R s m args below meth c H locs cells slots Q (F0 m pc ls (.ref (a 0) :: rest)) :=
  va_get (D := D) (ci := 7) (C := RX7) (T := TX7) (N := 32) C0.1.1 C0.1.2.1 C0.1.2.2.2.2 iX7 C0.1.2.2.2.1 C0.2.1 hP (0) (xo_M) rfl 5 (by decide) (C0.1.2.2.2.2 _ hl) (fun _ h9 => h9) rfl hdg kk
theorem xs_M_5 {x : Int32} : (mW cI a v ar).set (0) (a 0, .inr (7, ([.int (v (0)), .int (v (1)), .ref (a (1+0)), .ref (a (1+1)), .ref (a (1+2)), .int (v (5)), .int (v (6)), .int (v (7)), .int (v (8)), .int (v (9)), .int (v (10)), .int (v (11)), .ref (a (1+3)), .ref (a (1+4)), .ref (a (1+5)), .ref (a (1+6)), .int (v (16)), .int (v (17)), .int (v (18)), .int (v (19)), .int (v (20)), .ref (a (1+7)), .ref (a (1+8)), .ref (a (1+9)), .ref (a (1+10)), .int (v (25)), .int (v (26)), .int (v (27)), .ref (a (1+11)), .int (v (29)), .ref (a (1+12)), .ref (a (1+13))] : List Value).set 5 (.int x))) = mW cI a (upd v (5) x) ar := rfl
theorem xp_M_5 (C0 : kC p s m c args cc nL own D cI cS) (hap : kAp a 15) {x : Int32} (hP : va_P D vwCl (mW cI a v ar) H) (hS : va_S (kA a 15) s.heap H locs) (hl : Cond.fieldLink own idx "HalfCutsModel" "many" "I" ∈ lwG) (hdg : decode cc pc = .ok (.putfield idx, 3)) (kk : ∀ (H1 : Heap) (locs1 : List Loc), va_P D vwCl (mW cI a (upd v (5) x) ar) H1 → va_S (kA a 15) s.heap H1 locs1 → W p l e R s m args below meth c H1 locs1 cells slots Q (F0 m (pc + 3) ls rest)) : W p l e R s m args below meth c H locs cells slots Q (F0 m pc ls (.int x :: .ref (a 0) :: rest)) :=
  va_put (D := D) (ci := 7) (C := RX7) (T := TX7) (N := 32) (ty := .int) C0.1.1 C0.1.2.1 C0.1.2.2.2.2 iX7 tyX7 tyX7_ok nmX7 C0.1.2.2.2.1 C0.2.1 hP (mD hap) hS (0) (xo_M) rfl 5 (by decide) (C0.1.2.2.2.2 _ hl) (fun _ h9 => h9) rfl (by decide +kernel) rfl rfl (Nat.le_of_ble_eq_true rfl) hdg (fun H1 locs1 hP1 _ hS1 => kk H1 locs1 (by rw [xs_M_5] at hP1; exact hP1) hS1)
theorem xg_M_6 (C0 : kC p s m c args cc nL own D cI cS) (hP : va_P D vwCl (mW cI a v ar) H) (hl : Cond.fieldLink own idx "HalfCutsModel" "nets" "I" ∈ lwG) (hdg : decode cc pc = .ok (.getfield idx, 3)) (kk : W p l e R s m args below meth c H locs cells slots Q (F0 m (pc + 3) ls (.int (v (6)) :: rest))) : W p l e R s m args below meth c H locs cells slots Q (F0 m pc ls (.ref (a 0) :: rest)) :=
  va_get (D := D) (ci := 7) (C := RX7) (T := TX7) (N := 32) C0.1.1 C0.1.2.1 C0.1.2.2.2.2 iX7 C0.1.2.2.2.1 C0.2.1 hP (0) (xo_M) rfl 6 (by decide) (C0.1.2.2.2.2 _ hl) (fun _ h9 => h9) rfl hdg kk
theorem xs_M_6 {x : Int32} : (mW cI a v ar).set (0) (a 0, .inr (7, ([.int (v (0)), .int (v (1)), .ref (a (1+0)), .ref (a (1+1)), .ref (a (1+2)), .int (v (5)), .int (v (6)), .int (v (7)), .int (v (8)), .int (v (9)), .int (v (10)), .int (v (11)), .ref (a (1+3)), .ref (a (1+4)), .ref (a (1+5)), .ref (a (1+6)), .int (v (16)), .int (v (17)), .int (v (18)), .int (v (19)), .int (v (20)), .ref (a (1+7)), .ref (a (1+8)), .ref (a (1+9)), .ref (a (1+10)), .int (v (25)), .int (v (26)), .int (v (27)), .ref (a (1+11)), .int (v (29)), .ref (a (1+12)), .ref (a (1+13))] : List Value).set 6 (.int x))) = mW cI a (upd v (6) x) ar := rfl
theorem xp_M_6 (C0 : kC p s m c args cc nL own D cI cS) (hap : kAp a 15) {x : Int32} (hP : va_P D vwCl (mW cI a v ar) H) (hS : va_S (kA a 15) s.heap H locs) (hl : Cond.fieldLink own idx "HalfCutsModel" "nets" "I" ∈ lwG) (hdg : decode cc pc = .ok (.putfield idx, 3)) (kk : ∀ (H1 : Heap) (locs1 : List Loc), va_P D vwCl (mW cI a (upd v (6) x) ar) H1 → va_S (kA a 15) s.heap H1 locs1 → W p l e R s m args below meth c H1 locs1 cells slots Q (F0 m (pc + 3) ls rest)) : W p l e R s m args below meth c H locs cells slots Q (F0 m pc ls (.int x :: .ref (a 0) :: rest)) :=
  va_put (D := D) (ci := 7) (C := RX7) (T := TX7) (N := 32) (ty := .int) C0.1.1 C0.1.2.1 C0.1.2.2.2.2 iX7 tyX7 tyX7_ok nmX7 C0.1.2.2.2.1 C0.2.1 hP (mD hap) hS (0) (xo_M) rfl 6 (by decide) (C0.1.2.2.2.2 _ hl) (fun _ h9 => h9) rfl (by decide +kernel) rfl rfl (Nat.le_of_ble_eq_true rfl) hdg (fun H1 locs1 hP1 _ hS1 => kk H1 locs1 (by rw [xs_M_6] at hP1; exact hP1) hS1)
theorem xg_M_7 (C0 : kC p s m c args cc nL own D cI cS) (hP : va_P D vwCl (mW cI a v ar) H) (hl : Cond.fieldLink own idx "HalfCutsModel" "right" "I" ∈ lwG) (hdg : decode cc pc = .ok (.getfield idx, 3)) (kk : W p l e R s m args below meth c H locs cells slots Q (F0 m (pc + 3) ls (.int (v (7)) :: rest))) : W p l e R s m args below meth c H locs cells slots Q (F0 m pc ls (.ref (a 0) :: rest)) :=
  va_get (D := D) (ci := 7) (C := RX7) (T := TX7) (N := 32) C0.1.1 C0.1.2.1 C0.1.2.2.2.2 iX7 C0.1.2.2.2.1 C0.2.1 hP (0) (xo_M) rfl 7 (by decide) (C0.1.2.2.2.2 _ hl) (fun _ h9 => h9) rfl hdg kk
theorem xs_M_7 {x : Int32} : (mW cI a v ar).set (0) (a 0, .inr (7, ([.int (v (0)), .int (v (1)), .ref (a (1+0)), .ref (a (1+1)), .ref (a (1+2)), .int (v (5)), .int (v (6)), .int (v (7)), .int (v (8)), .int (v (9)), .int (v (10)), .int (v (11)), .ref (a (1+3)), .ref (a (1+4)), .ref (a (1+5)), .ref (a (1+6)), .int (v (16)), .int (v (17)), .int (v (18)), .int (v (19)), .int (v (20)), .ref (a (1+7)), .ref (a (1+8)), .ref (a (1+9)), .ref (a (1+10)), .int (v (25)), .int (v (26)), .int (v (27)), .ref (a (1+11)), .int (v (29)), .ref (a (1+12)), .ref (a (1+13))] : List Value).set 7 (.int x))) = mW cI a (upd v (7) x) ar := rfl
theorem xp_M_7 (C0 : kC p s m c args cc nL own D cI cS) (hap : kAp a 15) {x : Int32} (hP : va_P D vwCl (mW cI a v ar) H) (hS : va_S (kA a 15) s.heap H locs) (hl : Cond.fieldLink own idx "HalfCutsModel" "right" "I" ∈ lwG) (hdg : decode cc pc = .ok (.putfield idx, 3)) (kk : ∀ (H1 : Heap) (locs1 : List Loc), va_P D vwCl (mW cI a (upd v (7) x) ar) H1 → va_S (kA a 15) s.heap H1 locs1 → W p l e R s m args below meth c H1 locs1 cells slots Q (F0 m (pc + 3) ls rest)) : W p l e R s m args below meth c H locs cells slots Q (F0 m pc ls (.int x :: .ref (a 0) :: rest)) :=
  va_put (D := D) (ci := 7) (C := RX7) (T := TX7) (N := 32) (ty := .int) C0.1.1 C0.1.2.1 C0.1.2.2.2.2 iX7 tyX7 tyX7_ok nmX7 C0.1.2.2.2.1 C0.2.1 hP (mD hap) hS (0) (xo_M) rfl 7 (by decide) (C0.1.2.2.2.2 _ hl) (fun _ h9 => h9) rfl (by decide +kernel) rfl rfl (Nat.le_of_ble_eq_true rfl) hdg (fun H1 locs1 hP1 _ hS1 => kk H1 locs1 (by rw [xs_M_7] at hP1; exact hP1) hS1)
theorem xg_M_8 (C0 : kC p s m c args cc nL own D cI cS) (hP : va_P D vwCl (mW cI a v ar) H) (hl : Cond.fieldLink own idx "HalfCutsModel" "fixed" "I" ∈ lwG) (hdg : decode cc pc = .ok (.getfield idx, 3)) (kk : W p l e R s m args below meth c H locs cells slots Q (F0 m (pc + 3) ls (.int (v (8)) :: rest))) : W p l e R s m args below meth c H locs cells slots Q (F0 m pc ls (.ref (a 0) :: rest)) :=
  va_get (D := D) (ci := 7) (C := RX7) (T := TX7) (N := 32) C0.1.1 C0.1.2.1 C0.1.2.2.2.2 iX7 C0.1.2.2.2.1 C0.2.1 hP (0) (xo_M) rfl 8 (by decide) (C0.1.2.2.2.2 _ hl) (fun _ h9 => h9) rfl hdg kk
theorem xs_M_8 {x : Int32} : (mW cI a v ar).set (0) (a 0, .inr (7, ([.int (v (0)), .int (v (1)), .ref (a (1+0)), .ref (a (1+1)), .ref (a (1+2)), .int (v (5)), .int (v (6)), .int (v (7)), .int (v (8)), .int (v (9)), .int (v (10)), .int (v (11)), .ref (a (1+3)), .ref (a (1+4)), .ref (a (1+5)), .ref (a (1+6)), .int (v (16)), .int (v (17)), .int (v (18)), .int (v (19)), .int (v (20)), .ref (a (1+7)), .ref (a (1+8)), .ref (a (1+9)), .ref (a (1+10)), .int (v (25)), .int (v (26)), .int (v (27)), .ref (a (1+11)), .int (v (29)), .ref (a (1+12)), .ref (a (1+13))] : List Value).set 8 (.int x))) = mW cI a (upd v (8) x) ar := rfl
theorem xp_M_8 (C0 : kC p s m c args cc nL own D cI cS) (hap : kAp a 15) {x : Int32} (hP : va_P D vwCl (mW cI a v ar) H) (hS : va_S (kA a 15) s.heap H locs) (hl : Cond.fieldLink own idx "HalfCutsModel" "fixed" "I" ∈ lwG) (hdg : decode cc pc = .ok (.putfield idx, 3)) (kk : ∀ (H1 : Heap) (locs1 : List Loc), va_P D vwCl (mW cI a (upd v (8) x) ar) H1 → va_S (kA a 15) s.heap H1 locs1 → W p l e R s m args below meth c H1 locs1 cells slots Q (F0 m (pc + 3) ls rest)) : W p l e R s m args below meth c H locs cells slots Q (F0 m pc ls (.int x :: .ref (a 0) :: rest)) :=
  va_put (D := D) (ci := 7) (C := RX7) (T := TX7) (N := 32) (ty := .int) C0.1.1 C0.1.2.1 C0.1.2.2.2.2 iX7 tyX7 tyX7_ok nmX7 C0.1.2.2.2.1 C0.2.1 hP (mD hap) hS (0) (xo_M) rfl 8 (by decide) (C0.1.2.2.2.2 _ hl) (fun _ h9 => h9) rfl (by decide +kernel) rfl rfl (Nat.le_of_ble_eq_true rfl) hdg (fun H1 locs1 hP1 _ hS1 => kk H1 locs1 (by rw [xs_M_8] at hP1; exact hP1) hS1)
theorem xg_M_9 (C0 : kC p s m c args cc nL own D cI cS) (hP : va_P D vwCl (mW cI a v ar) H) (hl : Cond.fieldLink own idx "HalfCutsModel" "bound" "I" ∈ lwG) (hdg : decode cc pc = .ok (.getfield idx, 3)) (kk : W p l e R s m args below meth c H locs cells slots Q (F0 m (pc + 3) ls (.int (v (9)) :: rest))) : W p l e R s m args below meth c H locs cells slots Q (F0 m pc ls (.ref (a 0) :: rest)) :=
  va_get (D := D) (ci := 7) (C := RX7) (T := TX7) (N := 32) C0.1.1 C0.1.2.1 C0.1.2.2.2.2 iX7 C0.1.2.2.2.1 C0.2.1 hP (0) (xo_M) rfl 9 (by decide) (C0.1.2.2.2.2 _ hl) (fun _ h9 => h9) rfl hdg kk
theorem xs_M_9 {x : Int32} : (mW cI a v ar).set (0) (a 0, .inr (7, ([.int (v (0)), .int (v (1)), .ref (a (1+0)), .ref (a (1+1)), .ref (a (1+2)), .int (v (5)), .int (v (6)), .int (v (7)), .int (v (8)), .int (v (9)), .int (v (10)), .int (v (11)), .ref (a (1+3)), .ref (a (1+4)), .ref (a (1+5)), .ref (a (1+6)), .int (v (16)), .int (v (17)), .int (v (18)), .int (v (19)), .int (v (20)), .ref (a (1+7)), .ref (a (1+8)), .ref (a (1+9)), .ref (a (1+10)), .int (v (25)), .int (v (26)), .int (v (27)), .ref (a (1+11)), .int (v (29)), .ref (a (1+12)), .ref (a (1+13))] : List Value).set 9 (.int x))) = mW cI a (upd v (9) x) ar := rfl
theorem xp_M_9 (C0 : kC p s m c args cc nL own D cI cS) (hap : kAp a 15) {x : Int32} (hP : va_P D vwCl (mW cI a v ar) H) (hS : va_S (kA a 15) s.heap H locs) (hl : Cond.fieldLink own idx "HalfCutsModel" "bound" "I" ∈ lwG) (hdg : decode cc pc = .ok (.putfield idx, 3)) (kk : ∀ (H1 : Heap) (locs1 : List Loc), va_P D vwCl (mW cI a (upd v (9) x) ar) H1 → va_S (kA a 15) s.heap H1 locs1 → W p l e R s m args below meth c H1 locs1 cells slots Q (F0 m (pc + 3) ls rest)) : W p l e R s m args below meth c H locs cells slots Q (F0 m pc ls (.int x :: .ref (a 0) :: rest)) :=
  va_put (D := D) (ci := 7) (C := RX7) (T := TX7) (N := 32) (ty := .int) C0.1.1 C0.1.2.1 C0.1.2.2.2.2 iX7 tyX7 tyX7_ok nmX7 C0.1.2.2.2.1 C0.2.1 hP (mD hap) hS (0) (xo_M) rfl 9 (by decide) (C0.1.2.2.2.2 _ hl) (fun _ h9 => h9) rfl (by decide +kernel) rfl rfl (Nat.le_of_ble_eq_true rfl) hdg (fun H1 locs1 hP1 _ hS1 => kk H1 locs1 (by rw [xs_M_9] at hP1; exact hP1) hS1)
theorem xg_M_10 (C0 : kC p s m c args cc nL own D cI cS) (hP : va_P D vwCl (mW cI a v ar) H) (hl : Cond.fieldLink own idx "HalfCutsModel" "rackKind" "I" ∈ lwG) (hdg : decode cc pc = .ok (.getfield idx, 3)) (kk : W p l e R s m args below meth c H locs cells slots Q (F0 m (pc + 3) ls (.int (v (10)) :: rest))) : W p l e R s m args below meth c H locs cells slots Q (F0 m pc ls (.ref (a 0) :: rest)) :=
  va_get (D := D) (ci := 7) (C := RX7) (T := TX7) (N := 32) C0.1.1 C0.1.2.1 C0.1.2.2.2.2 iX7 C0.1.2.2.2.1 C0.2.1 hP (0) (xo_M) rfl 10 (by decide) (C0.1.2.2.2.2 _ hl) (fun _ h9 => h9) rfl hdg kk
theorem xs_M_10 {x : Int32} : (mW cI a v ar).set (0) (a 0, .inr (7, ([.int (v (0)), .int (v (1)), .ref (a (1+0)), .ref (a (1+1)), .ref (a (1+2)), .int (v (5)), .int (v (6)), .int (v (7)), .int (v (8)), .int (v (9)), .int (v (10)), .int (v (11)), .ref (a (1+3)), .ref (a (1+4)), .ref (a (1+5)), .ref (a (1+6)), .int (v (16)), .int (v (17)), .int (v (18)), .int (v (19)), .int (v (20)), .ref (a (1+7)), .ref (a (1+8)), .ref (a (1+9)), .ref (a (1+10)), .int (v (25)), .int (v (26)), .int (v (27)), .ref (a (1+11)), .int (v (29)), .ref (a (1+12)), .ref (a (1+13))] : List Value).set 10 (.int x))) = mW cI a (upd v (10) x) ar := rfl
theorem xp_M_10 (C0 : kC p s m c args cc nL own D cI cS) (hap : kAp a 15) {x : Int32} (hP : va_P D vwCl (mW cI a v ar) H) (hS : va_S (kA a 15) s.heap H locs) (hl : Cond.fieldLink own idx "HalfCutsModel" "rackKind" "I" ∈ lwG) (hdg : decode cc pc = .ok (.putfield idx, 3)) (kk : ∀ (H1 : Heap) (locs1 : List Loc), va_P D vwCl (mW cI a (upd v (10) x) ar) H1 → va_S (kA a 15) s.heap H1 locs1 → W p l e R s m args below meth c H1 locs1 cells slots Q (F0 m (pc + 3) ls rest)) : W p l e R s m args below meth c H locs cells slots Q (F0 m pc ls (.int x :: .ref (a 0) :: rest)) :=
  va_put (D := D) (ci := 7) (C := RX7) (T := TX7) (N := 32) (ty := .int) C0.1.1 C0.1.2.1 C0.1.2.2.2.2 iX7 tyX7 tyX7_ok nmX7 C0.1.2.2.2.1 C0.2.1 hP (mD hap) hS (0) (xo_M) rfl 10 (by decide) (C0.1.2.2.2.2 _ hl) (fun _ h9 => h9) rfl (by decide +kernel) rfl rfl (Nat.le_of_ble_eq_true rfl) hdg (fun H1 locs1 hP1 _ hS1 => kk H1 locs1 (by rw [xs_M_10] at hP1; exact hP1) hS1)
theorem xg_M_11 (C0 : kC p s m c args cc nL own D cI cS) (hP : va_P D vwCl (mW cI a v ar) H) (hl : Cond.fieldLink own idx "HalfCutsModel" "rackLong" "I" ∈ lwG) (hdg : decode cc pc = .ok (.getfield idx, 3)) (kk : W p l e R s m args below meth c H locs cells slots Q (F0 m (pc + 3) ls (.int (v (11)) :: rest))) : W p l e R s m args below meth c H locs cells slots Q (F0 m pc ls (.ref (a 0) :: rest)) :=
  va_get (D := D) (ci := 7) (C := RX7) (T := TX7) (N := 32) C0.1.1 C0.1.2.1 C0.1.2.2.2.2 iX7 C0.1.2.2.2.1 C0.2.1 hP (0) (xo_M) rfl 11 (by decide) (C0.1.2.2.2.2 _ hl) (fun _ h9 => h9) rfl hdg kk
theorem xs_M_11 {x : Int32} : (mW cI a v ar).set (0) (a 0, .inr (7, ([.int (v (0)), .int (v (1)), .ref (a (1+0)), .ref (a (1+1)), .ref (a (1+2)), .int (v (5)), .int (v (6)), .int (v (7)), .int (v (8)), .int (v (9)), .int (v (10)), .int (v (11)), .ref (a (1+3)), .ref (a (1+4)), .ref (a (1+5)), .ref (a (1+6)), .int (v (16)), .int (v (17)), .int (v (18)), .int (v (19)), .int (v (20)), .ref (a (1+7)), .ref (a (1+8)), .ref (a (1+9)), .ref (a (1+10)), .int (v (25)), .int (v (26)), .int (v (27)), .ref (a (1+11)), .int (v (29)), .ref (a (1+12)), .ref (a (1+13))] : List Value).set 11 (.int x))) = mW cI a (upd v (11) x) ar := rfl
theorem xp_M_11 (C0 : kC p s m c args cc nL own D cI cS) (hap : kAp a 15) {x : Int32} (hP : va_P D vwCl (mW cI a v ar) H) (hS : va_S (kA a 15) s.heap H locs) (hl : Cond.fieldLink own idx "HalfCutsModel" "rackLong" "I" ∈ lwG) (hdg : decode cc pc = .ok (.putfield idx, 3)) (kk : ∀ (H1 : Heap) (locs1 : List Loc), va_P D vwCl (mW cI a (upd v (11) x) ar) H1 → va_S (kA a 15) s.heap H1 locs1 → W p l e R s m args below meth c H1 locs1 cells slots Q (F0 m (pc + 3) ls rest)) : W p l e R s m args below meth c H locs cells slots Q (F0 m pc ls (.int x :: .ref (a 0) :: rest)) :=
  va_put (D := D) (ci := 7) (C := RX7) (T := TX7) (N := 32) (ty := .int) C0.1.1 C0.1.2.1 C0.1.2.2.2.2 iX7 tyX7 tyX7_ok nmX7 C0.1.2.2.2.1 C0.2.1 hP (mD hap) hS (0) (xo_M) rfl 11 (by decide) (C0.1.2.2.2.2 _ hl) (fun _ h9 => h9) rfl (by decide +kernel) rfl rfl (Nat.le_of_ble_eq_true rfl) hdg (fun H1 locs1 hP1 _ hS1 => kk H1 locs1 (by rw [xs_M_11] at hP1; exact hP1) hS1)
theorem xg_M_12 (C0 : kC p s m c args cc nL own D cI cS) (hP : va_P D vwCl (mW cI a v ar) H) (hl : Cond.fieldLink own idx "HalfCutsModel" "rack" "[I" ∈ lwG) (hdg : decode cc pc = .ok (.getfield idx, 3)) (kk : W p l e R s m args below meth c H locs cells slots Q (F0 m (pc + 3) ls (.ref (a (1+3)) :: rest))) : W p l e R s m args below meth c H locs cells slots Q (F0 m pc ls (.ref (a 0) :: rest)) :=
  va_get (D := D) (ci := 7) (C := RX7) (T := TX7) (N := 32) C0.1.1 C0.1.2.1 C0.1.2.2.2.2 iX7 C0.1.2.2.2.1 C0.2.1 hP (0) (xo_M) rfl 12 (by decide) (C0.1.2.2.2.2 _ hl) (fun _ h9 => h9) rfl hdg kk
theorem xg_M_13 (C0 : kC p s m c args cc nL own D cI cS) (hP : va_P D vwCl (mW cI a v ar) H) (hl : Cond.fieldLink own idx "HalfCutsModel" "kind" "[I" ∈ lwG) (hdg : decode cc pc = .ok (.getfield idx, 3)) (kk : W p l e R s m args below meth c H locs cells slots Q (F0 m (pc + 3) ls (.ref (a (1+4)) :: rest))) : W p l e R s m args below meth c H locs cells slots Q (F0 m pc ls (.ref (a 0) :: rest)) :=
  va_get (D := D) (ci := 7) (C := RX7) (T := TX7) (N := 32) C0.1.1 C0.1.2.1 C0.1.2.2.2.2 iX7 C0.1.2.2.2.1 C0.2.1 hP (0) (xo_M) rfl 13 (by decide) (C0.1.2.2.2.2 _ hl) (fun _ h9 => h9) rfl hdg kk
theorem xg_M_14 (C0 : kC p s m c args cc nL own D cI cS) (hP : va_P D vwCl (mW cI a v ar) H) (hl : Cond.fieldLink own idx "HalfCutsModel" "bulk" "[I" ∈ lwG) (hdg : decode cc pc = .ok (.getfield idx, 3)) (kk : W p l e R s m args below meth c H locs cells slots Q (F0 m (pc + 3) ls (.ref (a (1+5)) :: rest))) : W p l e R s m args below meth c H locs cells slots Q (F0 m pc ls (.ref (a 0) :: rest)) :=
  va_get (D := D) (ci := 7) (C := RX7) (T := TX7) (N := 32) C0.1.1 C0.1.2.1 C0.1.2.2.2.2 iX7 C0.1.2.2.2.1 C0.2.1 hP (0) (xo_M) rfl 14 (by decide) (C0.1.2.2.2.2 _ hl) (fun _ h9 => h9) rfl hdg kk
theorem xg_M_15 (C0 : kC p s m c args cc nL own D cI cS) (hP : va_P D vwCl (mW cI a v ar) H) (hl : Cond.fieldLink own idx "HalfCutsModel" "net" "[I" ∈ lwG) (hdg : decode cc pc = .ok (.getfield idx, 3)) (kk : W p l e R s m args below meth c H locs cells slots Q (F0 m (pc + 3) ls (.ref (a (1+6)) :: rest))) : W p l e R s m args below meth c H locs cells slots Q (F0 m pc ls (.ref (a 0) :: rest)) :=
  va_get (D := D) (ci := 7) (C := RX7) (T := TX7) (N := 32) C0.1.1 C0.1.2.1 C0.1.2.2.2.2 iX7 C0.1.2.2.2.1 C0.2.1 hP (0) (xo_M) rfl 15 (by decide) (C0.1.2.2.2.2 _ hl) (fun _ h9 => h9) rfl hdg kk
theorem xg_M_16 (C0 : kC p s m c args cc nL own D cI cS) (hP : va_P D vwCl (mW cI a v ar) H) (hl : Cond.fieldLink own idx "HalfCutsModel" "at" "I" ∈ lwG) (hdg : decode cc pc = .ok (.getfield idx, 3)) (kk : W p l e R s m args below meth c H locs cells slots Q (F0 m (pc + 3) ls (.int (v (16)) :: rest))) : W p l e R s m args below meth c H locs cells slots Q (F0 m pc ls (.ref (a 0) :: rest)) :=
  va_get (D := D) (ci := 7) (C := RX7) (T := TX7) (N := 32) C0.1.1 C0.1.2.1 C0.1.2.2.2.2 iX7 C0.1.2.2.2.1 C0.2.1 hP (0) (xo_M) rfl 16 (by decide) (C0.1.2.2.2.2 _ hl) (fun _ h9 => h9) rfl hdg kk
theorem xs_M_16 {x : Int32} : (mW cI a v ar).set (0) (a 0, .inr (7, ([.int (v (0)), .int (v (1)), .ref (a (1+0)), .ref (a (1+1)), .ref (a (1+2)), .int (v (5)), .int (v (6)), .int (v (7)), .int (v (8)), .int (v (9)), .int (v (10)), .int (v (11)), .ref (a (1+3)), .ref (a (1+4)), .ref (a (1+5)), .ref (a (1+6)), .int (v (16)), .int (v (17)), .int (v (18)), .int (v (19)), .int (v (20)), .ref (a (1+7)), .ref (a (1+8)), .ref (a (1+9)), .ref (a (1+10)), .int (v (25)), .int (v (26)), .int (v (27)), .ref (a (1+11)), .int (v (29)), .ref (a (1+12)), .ref (a (1+13))] : List Value).set 16 (.int x))) = mW cI a (upd v (16) x) ar := rfl
theorem xp_M_16 (C0 : kC p s m c args cc nL own D cI cS) (hap : kAp a 15) {x : Int32} (hP : va_P D vwCl (mW cI a v ar) H) (hS : va_S (kA a 15) s.heap H locs) (hl : Cond.fieldLink own idx "HalfCutsModel" "at" "I" ∈ lwG) (hdg : decode cc pc = .ok (.putfield idx, 3)) (kk : ∀ (H1 : Heap) (locs1 : List Loc), va_P D vwCl (mW cI a (upd v (16) x) ar) H1 → va_S (kA a 15) s.heap H1 locs1 → W p l e R s m args below meth c H1 locs1 cells slots Q (F0 m (pc + 3) ls rest)) : W p l e R s m args below meth c H locs cells slots Q (F0 m pc ls (.int x :: .ref (a 0) :: rest)) :=
  va_put (D := D) (ci := 7) (C := RX7) (T := TX7) (N := 32) (ty := .int) C0.1.1 C0.1.2.1 C0.1.2.2.2.2 iX7 tyX7 tyX7_ok nmX7 C0.1.2.2.2.1 C0.2.1 hP (mD hap) hS (0) (xo_M) rfl 16 (by decide) (C0.1.2.2.2.2 _ hl) (fun _ h9 => h9) rfl (by decide +kernel) rfl rfl (Nat.le_of_ble_eq_true rfl) hdg (fun H1 locs1 hP1 _ hS1 => kk H1 locs1 (by rw [xs_M_16] at hP1; exact hP1) hS1)
theorem xg_M_17 (C0 : kC p s m c args cc nL own D cI cS) (hP : va_P D vwCl (mW cI a v ar) H) (hl : Cond.fieldLink own idx "HalfCutsModel" "readMany" "I" ∈ lwG) (hdg : decode cc pc = .ok (.getfield idx, 3)) (kk : W p l e R s m args below meth c H locs cells slots Q (F0 m (pc + 3) ls (.int (v (17)) :: rest))) : W p l e R s m args below meth c H locs cells slots Q (F0 m pc ls (.ref (a 0) :: rest)) :=
  va_get (D := D) (ci := 7) (C := RX7) (T := TX7) (N := 32) C0.1.1 C0.1.2.1 C0.1.2.2.2.2 iX7 C0.1.2.2.2.1 C0.2.1 hP (0) (xo_M) rfl 17 (by decide) (C0.1.2.2.2.2 _ hl) (fun _ h9 => h9) rfl hdg kk
theorem xs_M_17 {x : Int32} : (mW cI a v ar).set (0) (a 0, .inr (7, ([.int (v (0)), .int (v (1)), .ref (a (1+0)), .ref (a (1+1)), .ref (a (1+2)), .int (v (5)), .int (v (6)), .int (v (7)), .int (v (8)), .int (v (9)), .int (v (10)), .int (v (11)), .ref (a (1+3)), .ref (a (1+4)), .ref (a (1+5)), .ref (a (1+6)), .int (v (16)), .int (v (17)), .int (v (18)), .int (v (19)), .int (v (20)), .ref (a (1+7)), .ref (a (1+8)), .ref (a (1+9)), .ref (a (1+10)), .int (v (25)), .int (v (26)), .int (v (27)), .ref (a (1+11)), .int (v (29)), .ref (a (1+12)), .ref (a (1+13))] : List Value).set 17 (.int x))) = mW cI a (upd v (17) x) ar := rfl
theorem xp_M_17 (C0 : kC p s m c args cc nL own D cI cS) (hap : kAp a 15) {x : Int32} (hP : va_P D vwCl (mW cI a v ar) H) (hS : va_S (kA a 15) s.heap H locs) (hl : Cond.fieldLink own idx "HalfCutsModel" "readMany" "I" ∈ lwG) (hdg : decode cc pc = .ok (.putfield idx, 3)) (kk : ∀ (H1 : Heap) (locs1 : List Loc), va_P D vwCl (mW cI a (upd v (17) x) ar) H1 → va_S (kA a 15) s.heap H1 locs1 → W p l e R s m args below meth c H1 locs1 cells slots Q (F0 m (pc + 3) ls rest)) : W p l e R s m args below meth c H locs cells slots Q (F0 m pc ls (.int x :: .ref (a 0) :: rest)) :=
  va_put (D := D) (ci := 7) (C := RX7) (T := TX7) (N := 32) (ty := .int) C0.1.1 C0.1.2.1 C0.1.2.2.2.2 iX7 tyX7 tyX7_ok nmX7 C0.1.2.2.2.1 C0.2.1 hP (mD hap) hS (0) (xo_M) rfl 17 (by decide) (C0.1.2.2.2.2 _ hl) (fun _ h9 => h9) rfl (by decide +kernel) rfl rfl (Nat.le_of_ble_eq_true rfl) hdg (fun H1 locs1 hP1 _ hS1 => kk H1 locs1 (by rw [xs_M_17] at hP1; exact hP1) hS1)
theorem xg_M_18 (C0 : kC p s m c args cc nL own D cI cS) (hP : va_P D vwCl (mW cI a v ar) H) (hl : Cond.fieldLink own idx "HalfCutsModel" "readNets" "I" ∈ lwG) (hdg : decode cc pc = .ok (.getfield idx, 3)) (kk : W p l e R s m args below meth c H locs cells slots Q (F0 m (pc + 3) ls (.int (v (18)) :: rest))) : W p l e R s m args below meth c H locs cells slots Q (F0 m pc ls (.ref (a 0) :: rest)) :=
  va_get (D := D) (ci := 7) (C := RX7) (T := TX7) (N := 32) C0.1.1 C0.1.2.1 C0.1.2.2.2.2 iX7 C0.1.2.2.2.1 C0.2.1 hP (0) (xo_M) rfl 18 (by decide) (C0.1.2.2.2.2 _ hl) (fun _ h9 => h9) rfl hdg kk
theorem xs_M_18 {x : Int32} : (mW cI a v ar).set (0) (a 0, .inr (7, ([.int (v (0)), .int (v (1)), .ref (a (1+0)), .ref (a (1+1)), .ref (a (1+2)), .int (v (5)), .int (v (6)), .int (v (7)), .int (v (8)), .int (v (9)), .int (v (10)), .int (v (11)), .ref (a (1+3)), .ref (a (1+4)), .ref (a (1+5)), .ref (a (1+6)), .int (v (16)), .int (v (17)), .int (v (18)), .int (v (19)), .int (v (20)), .ref (a (1+7)), .ref (a (1+8)), .ref (a (1+9)), .ref (a (1+10)), .int (v (25)), .int (v (26)), .int (v (27)), .ref (a (1+11)), .int (v (29)), .ref (a (1+12)), .ref (a (1+13))] : List Value).set 18 (.int x))) = mW cI a (upd v (18) x) ar := rfl
theorem xp_M_18 (C0 : kC p s m c args cc nL own D cI cS) (hap : kAp a 15) {x : Int32} (hP : va_P D vwCl (mW cI a v ar) H) (hS : va_S (kA a 15) s.heap H locs) (hl : Cond.fieldLink own idx "HalfCutsModel" "readNets" "I" ∈ lwG) (hdg : decode cc pc = .ok (.putfield idx, 3)) (kk : ∀ (H1 : Heap) (locs1 : List Loc), va_P D vwCl (mW cI a (upd v (18) x) ar) H1 → va_S (kA a 15) s.heap H1 locs1 → W p l e R s m args below meth c H1 locs1 cells slots Q (F0 m (pc + 3) ls rest)) : W p l e R s m args below meth c H locs cells slots Q (F0 m pc ls (.int x :: .ref (a 0) :: rest)) :=
  va_put (D := D) (ci := 7) (C := RX7) (T := TX7) (N := 32) (ty := .int) C0.1.1 C0.1.2.1 C0.1.2.2.2.2 iX7 tyX7 tyX7_ok nmX7 C0.1.2.2.2.1 C0.2.1 hP (mD hap) hS (0) (xo_M) rfl 18 (by decide) (C0.1.2.2.2.2 _ hl) (fun _ h9 => h9) rfl (by decide +kernel) rfl rfl (Nat.le_of_ble_eq_true rfl) hdg (fun H1 locs1 hP1 _ hS1 => kk H1 locs1 (by rw [xs_M_18] at hP1; exact hP1) hS1)
theorem xg_M_19 (C0 : kC p s m c args cc nL own D cI cS) (hP : va_P D vwCl (mW cI a v ar) H) (hl : Cond.fieldLink own idx "HalfCutsModel" "readRight" "I" ∈ lwG) (hdg : decode cc pc = .ok (.getfield idx, 3)) (kk : W p l e R s m args below meth c H locs cells slots Q (F0 m (pc + 3) ls (.int (v (19)) :: rest))) : W p l e R s m args below meth c H locs cells slots Q (F0 m pc ls (.ref (a 0) :: rest)) :=
  va_get (D := D) (ci := 7) (C := RX7) (T := TX7) (N := 32) C0.1.1 C0.1.2.1 C0.1.2.2.2.2 iX7 C0.1.2.2.2.1 C0.2.1 hP (0) (xo_M) rfl 19 (by decide) (C0.1.2.2.2.2 _ hl) (fun _ h9 => h9) rfl hdg kk
theorem xs_M_19 {x : Int32} : (mW cI a v ar).set (0) (a 0, .inr (7, ([.int (v (0)), .int (v (1)), .ref (a (1+0)), .ref (a (1+1)), .ref (a (1+2)), .int (v (5)), .int (v (6)), .int (v (7)), .int (v (8)), .int (v (9)), .int (v (10)), .int (v (11)), .ref (a (1+3)), .ref (a (1+4)), .ref (a (1+5)), .ref (a (1+6)), .int (v (16)), .int (v (17)), .int (v (18)), .int (v (19)), .int (v (20)), .ref (a (1+7)), .ref (a (1+8)), .ref (a (1+9)), .ref (a (1+10)), .int (v (25)), .int (v (26)), .int (v (27)), .ref (a (1+11)), .int (v (29)), .ref (a (1+12)), .ref (a (1+13))] : List Value).set 19 (.int x))) = mW cI a (upd v (19) x) ar := rfl
theorem xp_M_19 (C0 : kC p s m c args cc nL own D cI cS) (hap : kAp a 15) {x : Int32} (hP : va_P D vwCl (mW cI a v ar) H) (hS : va_S (kA a 15) s.heap H locs) (hl : Cond.fieldLink own idx "HalfCutsModel" "readRight" "I" ∈ lwG) (hdg : decode cc pc = .ok (.putfield idx, 3)) (kk : ∀ (H1 : Heap) (locs1 : List Loc), va_P D vwCl (mW cI a (upd v (19) x) ar) H1 → va_S (kA a 15) s.heap H1 locs1 → W p l e R s m args below meth c H1 locs1 cells slots Q (F0 m (pc + 3) ls rest)) : W p l e R s m args below meth c H locs cells slots Q (F0 m pc ls (.int x :: .ref (a 0) :: rest)) :=
  va_put (D := D) (ci := 7) (C := RX7) (T := TX7) (N := 32) (ty := .int) C0.1.1 C0.1.2.1 C0.1.2.2.2.2 iX7 tyX7 tyX7_ok nmX7 C0.1.2.2.2.1 C0.2.1 hP (mD hap) hS (0) (xo_M) rfl 19 (by decide) (C0.1.2.2.2.2 _ hl) (fun _ h9 => h9) rfl (by decide +kernel) rfl rfl (Nat.le_of_ble_eq_true rfl) hdg (fun H1 locs1 hP1 _ hS1 => kk H1 locs1 (by rw [xs_M_19] at hP1; exact hP1) hS1)
theorem xg_M_20 (C0 : kC p s m c args cc nL own D cI cS) (hP : va_P D vwCl (mW cI a v ar) H) (hl : Cond.fieldLink own idx "HalfCutsModel" "readFixed" "I" ∈ lwG) (hdg : decode cc pc = .ok (.getfield idx, 3)) (kk : W p l e R s m args below meth c H locs cells slots Q (F0 m (pc + 3) ls (.int (v (20)) :: rest))) : W p l e R s m args below meth c H locs cells slots Q (F0 m pc ls (.ref (a 0) :: rest)) :=
  va_get (D := D) (ci := 7) (C := RX7) (T := TX7) (N := 32) C0.1.1 C0.1.2.1 C0.1.2.2.2.2 iX7 C0.1.2.2.2.1 C0.2.1 hP (0) (xo_M) rfl 20 (by decide) (C0.1.2.2.2.2 _ hl) (fun _ h9 => h9) rfl hdg kk
theorem xs_M_20 {x : Int32} : (mW cI a v ar).set (0) (a 0, .inr (7, ([.int (v (0)), .int (v (1)), .ref (a (1+0)), .ref (a (1+1)), .ref (a (1+2)), .int (v (5)), .int (v (6)), .int (v (7)), .int (v (8)), .int (v (9)), .int (v (10)), .int (v (11)), .ref (a (1+3)), .ref (a (1+4)), .ref (a (1+5)), .ref (a (1+6)), .int (v (16)), .int (v (17)), .int (v (18)), .int (v (19)), .int (v (20)), .ref (a (1+7)), .ref (a (1+8)), .ref (a (1+9)), .ref (a (1+10)), .int (v (25)), .int (v (26)), .int (v (27)), .ref (a (1+11)), .int (v (29)), .ref (a (1+12)), .ref (a (1+13))] : List Value).set 20 (.int x))) = mW cI a (upd v (20) x) ar := rfl
theorem xp_M_20 (C0 : kC p s m c args cc nL own D cI cS) (hap : kAp a 15) {x : Int32} (hP : va_P D vwCl (mW cI a v ar) H) (hS : va_S (kA a 15) s.heap H locs) (hl : Cond.fieldLink own idx "HalfCutsModel" "readFixed" "I" ∈ lwG) (hdg : decode cc pc = .ok (.putfield idx, 3)) (kk : ∀ (H1 : Heap) (locs1 : List Loc), va_P D vwCl (mW cI a (upd v (20) x) ar) H1 → va_S (kA a 15) s.heap H1 locs1 → W p l e R s m args below meth c H1 locs1 cells slots Q (F0 m (pc + 3) ls rest)) : W p l e R s m args below meth c H locs cells slots Q (F0 m pc ls (.int x :: .ref (a 0) :: rest)) :=
  va_put (D := D) (ci := 7) (C := RX7) (T := TX7) (N := 32) (ty := .int) C0.1.1 C0.1.2.1 C0.1.2.2.2.2 iX7 tyX7 tyX7_ok nmX7 C0.1.2.2.2.1 C0.2.1 hP (mD hap) hS (0) (xo_M) rfl 20 (by decide) (C0.1.2.2.2.2 _ hl) (fun _ h9 => h9) rfl (by decide +kernel) rfl rfl (Nat.le_of_ble_eq_true rfl) hdg (fun H1 locs1 hP1 _ hS1 => kk H1 locs1 (by rw [xs_M_20] at hP1; exact hP1) hS1)
theorem xg_M_21 (C0 : kC p s m c args cc nL own D cI cS) (hP : va_P D vwCl (mW cI a v ar) H) (hl : Cond.fieldLink own idx "HalfCutsModel" "readKind" "[I" ∈ lwG) (hdg : decode cc pc = .ok (.getfield idx, 3)) (kk : W p l e R s m args below meth c H locs cells slots Q (F0 m (pc + 3) ls (.ref (a (1+7)) :: rest))) : W p l e R s m args below meth c H locs cells slots Q (F0 m pc ls (.ref (a 0) :: rest)) :=
  va_get (D := D) (ci := 7) (C := RX7) (T := TX7) (N := 32) C0.1.1 C0.1.2.1 C0.1.2.2.2.2 iX7 C0.1.2.2.2.1 C0.2.1 hP (0) (xo_M) rfl 21 (by decide) (C0.1.2.2.2.2 _ hl) (fun _ h9 => h9) rfl hdg kk
theorem xg_M_22 (C0 : kC p s m c args cc nL own D cI cS) (hP : va_P D vwCl (mW cI a v ar) H) (hl : Cond.fieldLink own idx "HalfCutsModel" "readBulk" "[I" ∈ lwG) (hdg : decode cc pc = .ok (.getfield idx, 3)) (kk : W p l e R s m args below meth c H locs cells slots Q (F0 m (pc + 3) ls (.ref (a (1+8)) :: rest))) : W p l e R s m args below meth c H locs cells slots Q (F0 m pc ls (.ref (a 0) :: rest)) :=
  va_get (D := D) (ci := 7) (C := RX7) (T := TX7) (N := 32) C0.1.1 C0.1.2.1 C0.1.2.2.2.2 iX7 C0.1.2.2.2.1 C0.2.1 hP (0) (xo_M) rfl 22 (by decide) (C0.1.2.2.2.2 _ hl) (fun _ h9 => h9) rfl hdg kk
theorem xg_M_23 (C0 : kC p s m c args cc nL own D cI cS) (hP : va_P D vwCl (mW cI a v ar) H) (hl : Cond.fieldLink own idx "HalfCutsModel" "readNet" "[I" ∈ lwG) (hdg : decode cc pc = .ok (.getfield idx, 3)) (kk : W p l e R s m args below meth c H locs cells slots Q (F0 m (pc + 3) ls (.ref (a (1+9)) :: rest))) : W p l e R s m args below meth c H locs cells slots Q (F0 m pc ls (.ref (a 0) :: rest)) :=
  va_get (D := D) (ci := 7) (C := RX7) (T := TX7) (N := 32) C0.1.1 C0.1.2.1 C0.1.2.2.2.2 iX7 C0.1.2.2.2.1 C0.2.1 hP (0) (xo_M) rfl 23 (by decide) (C0.1.2.2.2.2 _ hl) (fun _ h9 => h9) rfl hdg kk
theorem xg_M_24 (C0 : kC p s m c args cc nL own D cI cS) (hP : va_P D vwCl (mW cI a v ar) H) (hl : Cond.fieldLink own idx "HalfCutsModel" "moved" "[I" ∈ lwG) (hdg : decode cc pc = .ok (.getfield idx, 3)) (kk : W p l e R s m args below meth c H locs cells slots Q (F0 m (pc + 3) ls (.ref (a (1+10)) :: rest))) : W p l e R s m args below meth c H locs cells slots Q (F0 m pc ls (.ref (a 0) :: rest)) :=
  va_get (D := D) (ci := 7) (C := RX7) (T := TX7) (N := 32) C0.1.1 C0.1.2.1 C0.1.2.2.2.2 iX7 C0.1.2.2.2.1 C0.2.1 hP (0) (xo_M) rfl 24 (by decide) (C0.1.2.2.2.2 _ hl) (fun _ h9 => h9) rfl hdg kk
theorem xg_M_25 (C0 : kC p s m c args cc nL own D cI cS) (hP : va_P D vwCl (mW cI a v ar) H) (hl : Cond.fieldLink own idx "HalfCutsModel" "moves" "I" ∈ lwG) (hdg : decode cc pc = .ok (.getfield idx, 3)) (kk : W p l e R s m args below meth c H locs cells slots Q (F0 m (pc + 3) ls (.int (v (25)) :: rest))) : W p l e R s m args below meth c H locs cells slots Q (F0 m pc ls (.ref (a 0) :: rest)) :=
  va_get (D := D) (ci := 7) (C := RX7) (T := TX7) (N := 32) C0.1.1 C0.1.2.1 C0.1.2.2.2.2 iX7 C0.1.2.2.2.1 C0.2.1 hP (0) (xo_M) rfl 25 (by decide) (C0.1.2.2.2.2 _ hl) (fun _ h9 => h9) rfl hdg kk
theorem xs_M_25 {x : Int32} : (mW cI a v ar).set (0) (a 0, .inr (7, ([.int (v (0)), .int (v (1)), .ref (a (1+0)), .ref (a (1+1)), .ref (a (1+2)), .int (v (5)), .int (v (6)), .int (v (7)), .int (v (8)), .int (v (9)), .int (v (10)), .int (v (11)), .ref (a (1+3)), .ref (a (1+4)), .ref (a (1+5)), .ref (a (1+6)), .int (v (16)), .int (v (17)), .int (v (18)), .int (v (19)), .int (v (20)), .ref (a (1+7)), .ref (a (1+8)), .ref (a (1+9)), .ref (a (1+10)), .int (v (25)), .int (v (26)), .int (v (27)), .ref (a (1+11)), .int (v (29)), .ref (a (1+12)), .ref (a (1+13))] : List Value).set 25 (.int x))) = mW cI a (upd v (25) x) ar := rfl
theorem xp_M_25 (C0 : kC p s m c args cc nL own D cI cS) (hap : kAp a 15) {x : Int32} (hP : va_P D vwCl (mW cI a v ar) H) (hS : va_S (kA a 15) s.heap H locs) (hl : Cond.fieldLink own idx "HalfCutsModel" "moves" "I" ∈ lwG) (hdg : decode cc pc = .ok (.putfield idx, 3)) (kk : ∀ (H1 : Heap) (locs1 : List Loc), va_P D vwCl (mW cI a (upd v (25) x) ar) H1 → va_S (kA a 15) s.heap H1 locs1 → W p l e R s m args below meth c H1 locs1 cells slots Q (F0 m (pc + 3) ls rest)) : W p l e R s m args below meth c H locs cells slots Q (F0 m pc ls (.int x :: .ref (a 0) :: rest)) :=
  va_put (D := D) (ci := 7) (C := RX7) (T := TX7) (N := 32) (ty := .int) C0.1.1 C0.1.2.1 C0.1.2.2.2.2 iX7 tyX7 tyX7_ok nmX7 C0.1.2.2.2.1 C0.2.1 hP (mD hap) hS (0) (xo_M) rfl 25 (by decide) (C0.1.2.2.2.2 _ hl) (fun _ h9 => h9) rfl (by decide +kernel) rfl rfl (Nat.le_of_ble_eq_true rfl) hdg (fun H1 locs1 hP1 _ hS1 => kk H1 locs1 (by rw [xs_M_25] at hP1; exact hP1) hS1)
theorem xg_M_26 (C0 : kC p s m c args cc nL own D cI cS) (hP : va_P D vwCl (mW cI a v ar) H) (hl : Cond.fieldLink own idx "HalfCutsModel" "stay" "I" ∈ lwG) (hdg : decode cc pc = .ok (.getfield idx, 3)) (kk : W p l e R s m args below meth c H locs cells slots Q (F0 m (pc + 3) ls (.int (v (26)) :: rest))) : W p l e R s m args below meth c H locs cells slots Q (F0 m pc ls (.ref (a 0) :: rest)) :=
  va_get (D := D) (ci := 7) (C := RX7) (T := TX7) (N := 32) C0.1.1 C0.1.2.1 C0.1.2.2.2.2 iX7 C0.1.2.2.2.1 C0.2.1 hP (0) (xo_M) rfl 26 (by decide) (C0.1.2.2.2.2 _ hl) (fun _ h9 => h9) rfl hdg kk
theorem xs_M_26 {x : Int32} : (mW cI a v ar).set (0) (a 0, .inr (7, ([.int (v (0)), .int (v (1)), .ref (a (1+0)), .ref (a (1+1)), .ref (a (1+2)), .int (v (5)), .int (v (6)), .int (v (7)), .int (v (8)), .int (v (9)), .int (v (10)), .int (v (11)), .ref (a (1+3)), .ref (a (1+4)), .ref (a (1+5)), .ref (a (1+6)), .int (v (16)), .int (v (17)), .int (v (18)), .int (v (19)), .int (v (20)), .ref (a (1+7)), .ref (a (1+8)), .ref (a (1+9)), .ref (a (1+10)), .int (v (25)), .int (v (26)), .int (v (27)), .ref (a (1+11)), .int (v (29)), .ref (a (1+12)), .ref (a (1+13))] : List Value).set 26 (.int x))) = mW cI a (upd v (26) x) ar := rfl
theorem xp_M_26 (C0 : kC p s m c args cc nL own D cI cS) (hap : kAp a 15) {x : Int32} (hP : va_P D vwCl (mW cI a v ar) H) (hS : va_S (kA a 15) s.heap H locs) (hl : Cond.fieldLink own idx "HalfCutsModel" "stay" "I" ∈ lwG) (hdg : decode cc pc = .ok (.putfield idx, 3)) (kk : ∀ (H1 : Heap) (locs1 : List Loc), va_P D vwCl (mW cI a (upd v (26) x) ar) H1 → va_S (kA a 15) s.heap H1 locs1 → W p l e R s m args below meth c H1 locs1 cells slots Q (F0 m (pc + 3) ls rest)) : W p l e R s m args below meth c H locs cells slots Q (F0 m pc ls (.int x :: .ref (a 0) :: rest)) :=
  va_put (D := D) (ci := 7) (C := RX7) (T := TX7) (N := 32) (ty := .int) C0.1.1 C0.1.2.1 C0.1.2.2.2.2 iX7 tyX7 tyX7_ok nmX7 C0.1.2.2.2.1 C0.2.1 hP (mD hap) hS (0) (xo_M) rfl 26 (by decide) (C0.1.2.2.2.2 _ hl) (fun _ h9 => h9) rfl (by decide +kernel) rfl rfl (Nat.le_of_ble_eq_true rfl) hdg (fun H1 locs1 hP1 _ hS1 => kk H1 locs1 (by rw [xs_M_26] at hP1; exact hP1) hS1)
theorem xg_M_27 (C0 : kC p s m c args cc nL own D cI cS) (hP : va_P D vwCl (mW cI a v ar) H) (hl : Cond.fieldLink own idx "HalfCutsModel" "rightStays" "I" ∈ lwG) (hdg : decode cc pc = .ok (.getfield idx, 3)) (kk : W p l e R s m args below meth c H locs cells slots Q (F0 m (pc + 3) ls (.int (v (27)) :: rest))) : W p l e R s m args below meth c H locs cells slots Q (F0 m pc ls (.ref (a 0) :: rest)) :=
  va_get (D := D) (ci := 7) (C := RX7) (T := TX7) (N := 32) C0.1.1 C0.1.2.1 C0.1.2.2.2.2 iX7 C0.1.2.2.2.1 C0.2.1 hP (0) (xo_M) rfl 27 (by decide) (C0.1.2.2.2.2 _ hl) (fun _ h9 => h9) rfl hdg kk
theorem xs_M_27 {x : Int32} : (mW cI a v ar).set (0) (a 0, .inr (7, ([.int (v (0)), .int (v (1)), .ref (a (1+0)), .ref (a (1+1)), .ref (a (1+2)), .int (v (5)), .int (v (6)), .int (v (7)), .int (v (8)), .int (v (9)), .int (v (10)), .int (v (11)), .ref (a (1+3)), .ref (a (1+4)), .ref (a (1+5)), .ref (a (1+6)), .int (v (16)), .int (v (17)), .int (v (18)), .int (v (19)), .int (v (20)), .ref (a (1+7)), .ref (a (1+8)), .ref (a (1+9)), .ref (a (1+10)), .int (v (25)), .int (v (26)), .int (v (27)), .ref (a (1+11)), .int (v (29)), .ref (a (1+12)), .ref (a (1+13))] : List Value).set 27 (.int x))) = mW cI a (upd v (27) x) ar := rfl
theorem xp_M_27 (C0 : kC p s m c args cc nL own D cI cS) (hap : kAp a 15) {x : Int32} (hP : va_P D vwCl (mW cI a v ar) H) (hS : va_S (kA a 15) s.heap H locs) (hl : Cond.fieldLink own idx "HalfCutsModel" "rightStays" "I" ∈ lwG) (hdg : decode cc pc = .ok (.putfield idx, 3)) (kk : ∀ (H1 : Heap) (locs1 : List Loc), va_P D vwCl (mW cI a (upd v (27) x) ar) H1 → va_S (kA a 15) s.heap H1 locs1 → W p l e R s m args below meth c H1 locs1 cells slots Q (F0 m (pc + 3) ls rest)) : W p l e R s m args below meth c H locs cells slots Q (F0 m pc ls (.int x :: .ref (a 0) :: rest)) :=
  va_put (D := D) (ci := 7) (C := RX7) (T := TX7) (N := 32) (ty := .int) C0.1.1 C0.1.2.1 C0.1.2.2.2.2 iX7 tyX7 tyX7_ok nmX7 C0.1.2.2.2.1 C0.2.1 hP (mD hap) hS (0) (xo_M) rfl 27 (by decide) (C0.1.2.2.2.2 _ hl) (fun _ h9 => h9) rfl (by decide +kernel) rfl rfl (Nat.le_of_ble_eq_true rfl) hdg (fun H1 locs1 hP1 _ hS1 => kk H1 locs1 (by rw [xs_M_27] at hP1; exact hP1) hS1)
theorem xg_M_28 (C0 : kC p s m c args cc nL own D cI cS) (hP : va_P D vwCl (mW cI a v ar) H) (hl : Cond.fieldLink own idx "HalfCutsModel" "keptBulk" "[I" ∈ lwG) (hdg : decode cc pc = .ok (.getfield idx, 3)) (kk : W p l e R s m args below meth c H locs cells slots Q (F0 m (pc + 3) ls (.ref (a (1+11)) :: rest))) : W p l e R s m args below meth c H locs cells slots Q (F0 m pc ls (.ref (a 0) :: rest)) :=
  va_get (D := D) (ci := 7) (C := RX7) (T := TX7) (N := 32) C0.1.1 C0.1.2.1 C0.1.2.2.2.2 iX7 C0.1.2.2.2.1 C0.2.1 hP (0) (xo_M) rfl 28 (by decide) (C0.1.2.2.2.2 _ hl) (fun _ h9 => h9) rfl hdg kk
theorem xg_M_29 (C0 : kC p s m c args cc nL own D cI cS) (hP : va_P D vwCl (mW cI a v ar) H) (hl : Cond.fieldLink own idx "HalfCutsModel" "readings" "I" ∈ lwG) (hdg : decode cc pc = .ok (.getfield idx, 3)) (kk : W p l e R s m args below meth c H locs cells slots Q (F0 m (pc + 3) ls (.int (v (29)) :: rest))) : W p l e R s m args below meth c H locs cells slots Q (F0 m pc ls (.ref (a 0) :: rest)) :=
  va_get (D := D) (ci := 7) (C := RX7) (T := TX7) (N := 32) C0.1.1 C0.1.2.1 C0.1.2.2.2.2 iX7 C0.1.2.2.2.1 C0.2.1 hP (0) (xo_M) rfl 29 (by decide) (C0.1.2.2.2.2 _ hl) (fun _ h9 => h9) rfl hdg kk
theorem xs_M_29 {x : Int32} : (mW cI a v ar).set (0) (a 0, .inr (7, ([.int (v (0)), .int (v (1)), .ref (a (1+0)), .ref (a (1+1)), .ref (a (1+2)), .int (v (5)), .int (v (6)), .int (v (7)), .int (v (8)), .int (v (9)), .int (v (10)), .int (v (11)), .ref (a (1+3)), .ref (a (1+4)), .ref (a (1+5)), .ref (a (1+6)), .int (v (16)), .int (v (17)), .int (v (18)), .int (v (19)), .int (v (20)), .ref (a (1+7)), .ref (a (1+8)), .ref (a (1+9)), .ref (a (1+10)), .int (v (25)), .int (v (26)), .int (v (27)), .ref (a (1+11)), .int (v (29)), .ref (a (1+12)), .ref (a (1+13))] : List Value).set 29 (.int x))) = mW cI a (upd v (29) x) ar := rfl
theorem xp_M_29 (C0 : kC p s m c args cc nL own D cI cS) (hap : kAp a 15) {x : Int32} (hP : va_P D vwCl (mW cI a v ar) H) (hS : va_S (kA a 15) s.heap H locs) (hl : Cond.fieldLink own idx "HalfCutsModel" "readings" "I" ∈ lwG) (hdg : decode cc pc = .ok (.putfield idx, 3)) (kk : ∀ (H1 : Heap) (locs1 : List Loc), va_P D vwCl (mW cI a (upd v (29) x) ar) H1 → va_S (kA a 15) s.heap H1 locs1 → W p l e R s m args below meth c H1 locs1 cells slots Q (F0 m (pc + 3) ls rest)) : W p l e R s m args below meth c H locs cells slots Q (F0 m pc ls (.int x :: .ref (a 0) :: rest)) :=
  va_put (D := D) (ci := 7) (C := RX7) (T := TX7) (N := 32) (ty := .int) C0.1.1 C0.1.2.1 C0.1.2.2.2.2 iX7 tyX7 tyX7_ok nmX7 C0.1.2.2.2.1 C0.2.1 hP (mD hap) hS (0) (xo_M) rfl 29 (by decide) (C0.1.2.2.2.2 _ hl) (fun _ h9 => h9) rfl (by decide +kernel) rfl rfl (Nat.le_of_ble_eq_true rfl) hdg (fun H1 locs1 hP1 _ hS1 => kk H1 locs1 (by rw [xs_M_29] at hP1; exact hP1) hS1)
theorem xg_M_30 (C0 : kC p s m c args cc nL own D cI cS) (hP : va_P D vwCl (mW cI a v ar) H) (hl : Cond.fieldLink own idx "HalfCutsModel" "readOf" "[I" ∈ lwG) (hdg : decode cc pc = .ok (.getfield idx, 3)) (kk : W p l e R s m args below meth c H locs cells slots Q (F0 m (pc + 3) ls (.ref (a (1+12)) :: rest))) : W p l e R s m args below meth c H locs cells slots Q (F0 m pc ls (.ref (a 0) :: rest)) :=
  va_get (D := D) (ci := 7) (C := RX7) (T := TX7) (N := 32) C0.1.1 C0.1.2.1 C0.1.2.2.2.2 iX7 C0.1.2.2.2.1 C0.2.1 hP (0) (xo_M) rfl 30 (by decide) (C0.1.2.2.2.2 _ hl) (fun _ h9 => h9) rfl hdg kk
theorem xg_M_31 (C0 : kC p s m c args cc nL own D cI cS) (hP : va_P D vwCl (mW cI a v ar) H) (hl : Cond.fieldLink own idx "HalfCutsModel" "readBits" "[I" ∈ lwG) (hdg : decode cc pc = .ok (.getfield idx, 3)) (kk : W p l e R s m args below meth c H locs cells slots Q (F0 m (pc + 3) ls (.ref (a (1+13)) :: rest))) : W p l e R s m args below meth c H locs cells slots Q (F0 m pc ls (.ref (a 0) :: rest)) :=
  va_get (D := D) (ci := 7) (C := RX7) (T := TX7) (N := 32) C0.1.1 C0.1.2.1 C0.1.2.2.2.2 iX7 C0.1.2.2.2.1 C0.2.1 hP (0) (xo_M) rfl 31 (by decide) (C0.1.2.2.2.2 _ hl) (fun _ h9 => h9) rfl hdg kk
theorem xa_kind {h : Nat} (hh : h < 2) : (xW cI cS a v ar)[12+(4*h+0)]? = some (a (12+(4*h+0)), .inl (cI, 7, .inl (ar (4*h+0)))) := k2c (P := fun h => (xW cI cS a v ar)[12+(4*h+0)]? = some (a (12+(4*h+0)), .inl (cI, 7, .inl (ar (4*h+0))))) hh rfl rfl
theorem xz_kind {h : Nat} (hh : h < 2) (g : Nat → Int32) : (xW cI cS a v ar).set (12+(4*h+0)) (a (12+(4*h+0)), .inl (cI, 7, .inl g)) = xW cI cS a v (va_up ar (4*h+0) g) := k2c (P := fun h => (xW cI cS a v ar).set (12+(4*h+0)) (a (12+(4*h+0)), .inl (cI, 7, .inl g)) = xW cI cS a v (va_up ar (4*h+0) g)) hh rfl rfl
theorem xl_kind (C0 : kC p s m c args cc nL own D cI cS) {h : Nat} (hh : h < 2) (hP : va_P D vwCl (xW cI cS a v ar) H) {i : Int32} (hin : ¬ (i < 0 ∨ 7 ≤ i.toNatClampNeg)) (hdg : decode cc pc = .ok (.iaload, 1)) (kk : W p l e R s m args below meth c H locs cells slots Q (F0 m (pc + 1) ls (.int (ar (4*h+0) i.toNatClampNeg) :: rest))) : W p l e R s m args below meth c H locs cells slots Q (F0 m pc ls (.int i :: .ref (a (12+(4*h+0))) :: rest)) :=
  va_iald C0.1.1 C0.1.2.1 C0.2.1 hP (12+(4*h+0)) 0 (xa_kind hh) rfl hin hdg kk
theorem xt_kind (C0 : kC p s m c args cc nL own D cI cS) (hap : kAp a 29) {h : Nat} (hh : h < 2) (hP : va_P D vwCl (xW cI cS a v ar) H) (hS : va_S (kA a 29) s.heap H locs) {i x : Int32} (hin : ¬ (i < 0 ∨ 7 ≤ i.toNatClampNeg)) (hdg : decode cc pc = .ok (.iastore, 1)) (kk : ∀ (H1 : Heap) (locs1 : List Loc), va_P D vwCl (xW cI cS a v (va_up ar (4*h+0) (upd (ar (4*h+0)) i.toNatClampNeg x))) H1 → va_S (kA a 29) s.heap H1 locs1 → W p l e R s m args below meth c H1 locs1 cells slots Q (F0 m (pc + 1) ls rest)) : W p l e R s m args below meth c H locs cells slots Q (F0 m pc ls (.int x :: .int i :: .ref (a (12+(4*h+0))) :: rest)) :=
  va_iast C0.1.1 C0.1.2.1 C0.2.1 hP (xD hap) hS (12+(4*h+0)) 0 (xa_kind hh) rfl hin hdg (fun H1 locs1 hP1 _ hS1 => kk H1 locs1 (by rw [xz_kind hh] at hP1; exact hP1) hS1)
theorem xa_bulk {h : Nat} (hh : h < 2) : (xW cI cS a v ar)[12+(4*h+1)]? = some (a (12+(4*h+1)), .inl (cI, 7, .inl (ar (4*h+1)))) := k2c (P := fun h => (xW cI cS a v ar)[12+(4*h+1)]? = some (a (12+(4*h+1)), .inl (cI, 7, .inl (ar (4*h+1))))) hh rfl rfl
theorem xz_bulk {h : Nat} (hh : h < 2) (g : Nat → Int32) : (xW cI cS a v ar).set (12+(4*h+1)) (a (12+(4*h+1)), .inl (cI, 7, .inl g)) = xW cI cS a v (va_up ar (4*h+1) g) := k2c (P := fun h => (xW cI cS a v ar).set (12+(4*h+1)) (a (12+(4*h+1)), .inl (cI, 7, .inl g)) = xW cI cS a v (va_up ar (4*h+1) g)) hh rfl rfl
theorem xl_bulk (C0 : kC p s m c args cc nL own D cI cS) {h : Nat} (hh : h < 2) (hP : va_P D vwCl (xW cI cS a v ar) H) {i : Int32} (hin : ¬ (i < 0 ∨ 7 ≤ i.toNatClampNeg)) (hdg : decode cc pc = .ok (.iaload, 1)) (kk : W p l e R s m args below meth c H locs cells slots Q (F0 m (pc + 1) ls (.int (ar (4*h+1) i.toNatClampNeg) :: rest))) : W p l e R s m args below meth c H locs cells slots Q (F0 m pc ls (.int i :: .ref (a (12+(4*h+1))) :: rest)) :=
  va_iald C0.1.1 C0.1.2.1 C0.2.1 hP (12+(4*h+1)) 0 (xa_bulk hh) rfl hin hdg kk
theorem xt_bulk (C0 : kC p s m c args cc nL own D cI cS) (hap : kAp a 29) {h : Nat} (hh : h < 2) (hP : va_P D vwCl (xW cI cS a v ar) H) (hS : va_S (kA a 29) s.heap H locs) {i x : Int32} (hin : ¬ (i < 0 ∨ 7 ≤ i.toNatClampNeg)) (hdg : decode cc pc = .ok (.iastore, 1)) (kk : ∀ (H1 : Heap) (locs1 : List Loc), va_P D vwCl (xW cI cS a v (va_up ar (4*h+1) (upd (ar (4*h+1)) i.toNatClampNeg x))) H1 → va_S (kA a 29) s.heap H1 locs1 → W p l e R s m args below meth c H1 locs1 cells slots Q (F0 m (pc + 1) ls rest)) : W p l e R s m args below meth c H locs cells slots Q (F0 m pc ls (.int x :: .int i :: .ref (a (12+(4*h+1))) :: rest)) :=
  va_iast C0.1.1 C0.1.2.1 C0.2.1 hP (xD hap) hS (12+(4*h+1)) 0 (xa_bulk hh) rfl hin hdg (fun H1 locs1 hP1 _ hS1 => kk H1 locs1 (by rw [xz_bulk hh] at hP1; exact hP1) hS1)
theorem xa_weight {h : Nat} (hh : h < 2) : (xW cI cS a v ar)[12+(4*h+2)]? = some (a (12+(4*h+2)), .inl (cI, 7, .inl (ar (4*h+2)))) := k2c (P := fun h => (xW cI cS a v ar)[12+(4*h+2)]? = some (a (12+(4*h+2)), .inl (cI, 7, .inl (ar (4*h+2))))) hh rfl rfl
theorem xz_weight {h : Nat} (hh : h < 2) (g : Nat → Int32) : (xW cI cS a v ar).set (12+(4*h+2)) (a (12+(4*h+2)), .inl (cI, 7, .inl g)) = xW cI cS a v (va_up ar (4*h+2) g) := k2c (P := fun h => (xW cI cS a v ar).set (12+(4*h+2)) (a (12+(4*h+2)), .inl (cI, 7, .inl g)) = xW cI cS a v (va_up ar (4*h+2) g)) hh rfl rfl
theorem xl_weight (C0 : kC p s m c args cc nL own D cI cS) {h : Nat} (hh : h < 2) (hP : va_P D vwCl (xW cI cS a v ar) H) {i : Int32} (hin : ¬ (i < 0 ∨ 7 ≤ i.toNatClampNeg)) (hdg : decode cc pc = .ok (.iaload, 1)) (kk : W p l e R s m args below meth c H locs cells slots Q (F0 m (pc + 1) ls (.int (ar (4*h+2) i.toNatClampNeg) :: rest))) : W p l e R s m args below meth c H locs cells slots Q (F0 m pc ls (.int i :: .ref (a (12+(4*h+2))) :: rest)) :=
  va_iald C0.1.1 C0.1.2.1 C0.2.1 hP (12+(4*h+2)) 0 (xa_weight hh) rfl hin hdg kk
theorem xt_weight (C0 : kC p s m c args cc nL own D cI cS) (hap : kAp a 29) {h : Nat} (hh : h < 2) (hP : va_P D vwCl (xW cI cS a v ar) H) (hS : va_S (kA a 29) s.heap H locs) {i x : Int32} (hin : ¬ (i < 0 ∨ 7 ≤ i.toNatClampNeg)) (hdg : decode cc pc = .ok (.iastore, 1)) (kk : ∀ (H1 : Heap) (locs1 : List Loc), va_P D vwCl (xW cI cS a v (va_up ar (4*h+2) (upd (ar (4*h+2)) i.toNatClampNeg x))) H1 → va_S (kA a 29) s.heap H1 locs1 → W p l e R s m args below meth c H1 locs1 cells slots Q (F0 m (pc + 1) ls rest)) : W p l e R s m args below meth c H locs cells slots Q (F0 m pc ls (.int x :: .int i :: .ref (a (12+(4*h+2))) :: rest)) :=
  va_iast C0.1.1 C0.1.2.1 C0.2.1 hP (xD hap) hS (12+(4*h+2)) 0 (xa_weight hh) rfl hin hdg (fun H1 locs1 hP1 _ hS1 => kk H1 locs1 (by rw [xz_weight hh] at hP1; exact hP1) hS1)
theorem xa_net {h : Nat} (hh : h < 2) : (xW cI cS a v ar)[12+(4*h+3)]? = some (a (12+(4*h+3)), .inl (cI, 6, .inl (ar (4*h+3)))) := k2c (P := fun h => (xW cI cS a v ar)[12+(4*h+3)]? = some (a (12+(4*h+3)), .inl (cI, 6, .inl (ar (4*h+3))))) hh rfl rfl
theorem xz_net {h : Nat} (hh : h < 2) (g : Nat → Int32) : (xW cI cS a v ar).set (12+(4*h+3)) (a (12+(4*h+3)), .inl (cI, 6, .inl g)) = xW cI cS a v (va_up ar (4*h+3) g) := k2c (P := fun h => (xW cI cS a v ar).set (12+(4*h+3)) (a (12+(4*h+3)), .inl (cI, 6, .inl g)) = xW cI cS a v (va_up ar (4*h+3) g)) hh rfl rfl
theorem xl_net (C0 : kC p s m c args cc nL own D cI cS) {h : Nat} (hh : h < 2) (hP : va_P D vwCl (xW cI cS a v ar) H) {i : Int32} (hin : ¬ (i < 0 ∨ 6 ≤ i.toNatClampNeg)) (hdg : decode cc pc = .ok (.iaload, 1)) (kk : W p l e R s m args below meth c H locs cells slots Q (F0 m (pc + 1) ls (.int (ar (4*h+3) i.toNatClampNeg) :: rest))) : W p l e R s m args below meth c H locs cells slots Q (F0 m pc ls (.int i :: .ref (a (12+(4*h+3))) :: rest)) :=
  va_iald C0.1.1 C0.1.2.1 C0.2.1 hP (12+(4*h+3)) 0 (xa_net hh) rfl hin hdg kk
theorem xt_net (C0 : kC p s m c args cc nL own D cI cS) (hap : kAp a 29) {h : Nat} (hh : h < 2) (hP : va_P D vwCl (xW cI cS a v ar) H) (hS : va_S (kA a 29) s.heap H locs) {i x : Int32} (hin : ¬ (i < 0 ∨ 6 ≤ i.toNatClampNeg)) (hdg : decode cc pc = .ok (.iastore, 1)) (kk : ∀ (H1 : Heap) (locs1 : List Loc), va_P D vwCl (xW cI cS a v (va_up ar (4*h+3) (upd (ar (4*h+3)) i.toNatClampNeg x))) H1 → va_S (kA a 29) s.heap H1 locs1 → W p l e R s m args below meth c H1 locs1 cells slots Q (F0 m (pc + 1) ls rest)) : W p l e R s m args below meth c H locs cells slots Q (F0 m pc ls (.int x :: .int i :: .ref (a (12+(4*h+3))) :: rest)) :=
  va_iast C0.1.1 C0.1.2.1 C0.2.1 hP (xD hap) hS (12+(4*h+3)) 0 (xa_net hh) rfl hin hdg (fun H1 locs1 hP1 _ hS1 => kk H1 locs1 (by rw [xz_net hh] at hP1; exact hP1) hS1)
theorem xa_codes : (xW cI cS a v ar)[12+(8)]? = some (a (12+(8)), .inl (cI, 60, .inl (ar (8)))) := rfl
theorem xz_codes (g : Nat → Int32) : (xW cI cS a v ar).set (12+(8)) (a (12+(8)), .inl (cI, 60, .inl g)) = xW cI cS a v (va_up ar (8) g) := rfl
theorem xl_codes (C0 : kC p s m c args cc nL own D cI cS) (hP : va_P D vwCl (xW cI cS a v ar) H) {i : Int32} (hin : ¬ (i < 0 ∨ 60 ≤ i.toNatClampNeg)) (hdg : decode cc pc = .ok (.iaload, 1)) (kk : W p l e R s m args below meth c H locs cells slots Q (F0 m (pc + 1) ls (.int (ar (8) i.toNatClampNeg) :: rest))) : W p l e R s m args below meth c H locs cells slots Q (F0 m pc ls (.int i :: .ref (a (12+(8))) :: rest)) :=
  va_iald C0.1.1 C0.1.2.1 C0.2.1 hP (12+(8)) 0 (xa_codes) rfl hin hdg kk
theorem xt_codes (C0 : kC p s m c args cc nL own D cI cS) (hap : kAp a 29) (hP : va_P D vwCl (xW cI cS a v ar) H) (hS : va_S (kA a 29) s.heap H locs) {i x : Int32} (hin : ¬ (i < 0 ∨ 60 ≤ i.toNatClampNeg)) (hdg : decode cc pc = .ok (.iastore, 1)) (kk : ∀ (H1 : Heap) (locs1 : List Loc), va_P D vwCl (xW cI cS a v (va_up ar (8) (upd (ar (8)) i.toNatClampNeg x))) H1 → va_S (kA a 29) s.heap H1 locs1 → W p l e R s m args below meth c H1 locs1 cells slots Q (F0 m (pc + 1) ls rest)) : W p l e R s m args below meth c H locs cells slots Q (F0 m pc ls (.int x :: .int i :: .ref (a (12+(8))) :: rest)) :=
  va_iast C0.1.1 C0.1.2.1 C0.2.1 hP (xD hap) hS (12+(8)) 0 (xa_codes) rfl hin hdg (fun H1 locs1 hP1 _ hS1 => kk H1 locs1 (by rw [xz_codes] at hP1; exact hP1) hS1)
theorem xa_moved : (xW cI cS a v ar)[12+(9)]? = some (a (12+(9)), .inl (cI, 7, .inl (ar (9)))) := rfl
theorem xz_moved (g : Nat → Int32) : (xW cI cS a v ar).set (12+(9)) (a (12+(9)), .inl (cI, 7, .inl g)) = xW cI cS a v (va_up ar (9) g) := rfl
theorem xl_moved (C0 : kC p s m c args cc nL own D cI cS) (hP : va_P D vwCl (xW cI cS a v ar) H) {i : Int32} (hin : ¬ (i < 0 ∨ 7 ≤ i.toNatClampNeg)) (hdg : decode cc pc = .ok (.iaload, 1)) (kk : W p l e R s m args below meth c H locs cells slots Q (F0 m (pc + 1) ls (.int (ar (9) i.toNatClampNeg) :: rest))) : W p l e R s m args below meth c H locs cells slots Q (F0 m pc ls (.int i :: .ref (a (12+(9))) :: rest)) :=
  va_iald C0.1.1 C0.1.2.1 C0.2.1 hP (12+(9)) 0 (xa_moved) rfl hin hdg kk
theorem xt_moved (C0 : kC p s m c args cc nL own D cI cS) (hap : kAp a 29) (hP : va_P D vwCl (xW cI cS a v ar) H) (hS : va_S (kA a 29) s.heap H locs) {i x : Int32} (hin : ¬ (i < 0 ∨ 7 ≤ i.toNatClampNeg)) (hdg : decode cc pc = .ok (.iastore, 1)) (kk : ∀ (H1 : Heap) (locs1 : List Loc), va_P D vwCl (xW cI cS a v (va_up ar (9) (upd (ar (9)) i.toNatClampNeg x))) H1 → va_S (kA a 29) s.heap H1 locs1 → W p l e R s m args below meth c H1 locs1 cells slots Q (F0 m (pc + 1) ls rest)) : W p l e R s m args below meth c H locs cells slots Q (F0 m pc ls (.int x :: .int i :: .ref (a (12+(9))) :: rest)) :=
  va_iast C0.1.1 C0.1.2.1 C0.2.1 hP (xD hap) hS (12+(9)) 0 (xa_moved) rfl hin hdg (fun H1 locs1 hP1 _ hS1 => kk H1 locs1 (by rw [xz_moved] at hP1; exact hP1) hS1)
theorem xa_held : (xW cI cS a v ar)[12+(10)]? = some (a (12+(10)), .inl (cI, 9, .inl (ar (10)))) := rfl
theorem xz_held (g : Nat → Int32) : (xW cI cS a v ar).set (12+(10)) (a (12+(10)), .inl (cI, 9, .inl g)) = xW cI cS a v (va_up ar (10) g) := rfl
theorem xl_held (C0 : kC p s m c args cc nL own D cI cS) (hP : va_P D vwCl (xW cI cS a v ar) H) {i : Int32} (hin : ¬ (i < 0 ∨ 9 ≤ i.toNatClampNeg)) (hdg : decode cc pc = .ok (.iaload, 1)) (kk : W p l e R s m args below meth c H locs cells slots Q (F0 m (pc + 1) ls (.int (ar (10) i.toNatClampNeg) :: rest))) : W p l e R s m args below meth c H locs cells slots Q (F0 m pc ls (.int i :: .ref (a (12+(10))) :: rest)) :=
  va_iald C0.1.1 C0.1.2.1 C0.2.1 hP (12+(10)) 0 (xa_held) rfl hin hdg kk
theorem xt_held (C0 : kC p s m c args cc nL own D cI cS) (hap : kAp a 29) (hP : va_P D vwCl (xW cI cS a v ar) H) (hS : va_S (kA a 29) s.heap H locs) {i x : Int32} (hin : ¬ (i < 0 ∨ 9 ≤ i.toNatClampNeg)) (hdg : decode cc pc = .ok (.iastore, 1)) (kk : ∀ (H1 : Heap) (locs1 : List Loc), va_P D vwCl (xW cI cS a v (va_up ar (10) (upd (ar (10)) i.toNatClampNeg x))) H1 → va_S (kA a 29) s.heap H1 locs1 → W p l e R s m args below meth c H1 locs1 cells slots Q (F0 m (pc + 1) ls rest)) : W p l e R s m args below meth c H locs cells slots Q (F0 m pc ls (.int x :: .int i :: .ref (a (12+(10))) :: rest)) :=
  va_iast C0.1.1 C0.1.2.1 C0.2.1 hP (xD hap) hS (12+(10)) 0 (xa_held) rfl hin hdg (fun H1 locs1 hP1 _ hS1 => kk H1 locs1 (by rw [xz_held] at hP1; exact hP1) hS1)
theorem xa_about : (xW cI cS a v ar)[12+(11)]? = some (a (12+(11)), .inl (cI, 8, .inl (ar (11)))) := rfl
theorem xz_about (g : Nat → Int32) : (xW cI cS a v ar).set (12+(11)) (a (12+(11)), .inl (cI, 8, .inl g)) = xW cI cS a v (va_up ar (11) g) := rfl
theorem xl_about (C0 : kC p s m c args cc nL own D cI cS) (hP : va_P D vwCl (xW cI cS a v ar) H) {i : Int32} (hin : ¬ (i < 0 ∨ 8 ≤ i.toNatClampNeg)) (hdg : decode cc pc = .ok (.iaload, 1)) (kk : W p l e R s m args below meth c H locs cells slots Q (F0 m (pc + 1) ls (.int (ar (11) i.toNatClampNeg) :: rest))) : W p l e R s m args below meth c H locs cells slots Q (F0 m pc ls (.int i :: .ref (a (12+(11))) :: rest)) :=
  va_iald C0.1.1 C0.1.2.1 C0.2.1 hP (12+(11)) 0 (xa_about) rfl hin hdg kk
theorem xt_about (C0 : kC p s m c args cc nL own D cI cS) (hap : kAp a 29) (hP : va_P D vwCl (xW cI cS a v ar) H) (hS : va_S (kA a 29) s.heap H locs) {i x : Int32} (hin : ¬ (i < 0 ∨ 8 ≤ i.toNatClampNeg)) (hdg : decode cc pc = .ok (.iastore, 1)) (kk : ∀ (H1 : Heap) (locs1 : List Loc), va_P D vwCl (xW cI cS a v (va_up ar (11) (upd (ar (11)) i.toNatClampNeg x))) H1 → va_S (kA a 29) s.heap H1 locs1 → W p l e R s m args below meth c H1 locs1 cells slots Q (F0 m (pc + 1) ls rest)) : W p l e R s m args below meth c H locs cells slots Q (F0 m pc ls (.int x :: .int i :: .ref (a (12+(11))) :: rest)) :=
  va_iast C0.1.1 C0.1.2.1 C0.2.1 hP (xD hap) hS (12+(11)) 0 (xa_about) rfl hin hdg (fun H1 locs1 hP1 _ hS1 => kk H1 locs1 (by rw [xz_about] at hP1; exact hP1) hS1)
theorem xa_bits : (xW cI cS a v ar)[12+(12)]? = some (a (12+(12)), .inl (cI, 8, .inl (ar (12)))) := rfl
theorem xz_bits (g : Nat → Int32) : (xW cI cS a v ar).set (12+(12)) (a (12+(12)), .inl (cI, 8, .inl g)) = xW cI cS a v (va_up ar (12) g) := rfl
theorem xl_bits (C0 : kC p s m c args cc nL own D cI cS) (hP : va_P D vwCl (xW cI cS a v ar) H) {i : Int32} (hin : ¬ (i < 0 ∨ 8 ≤ i.toNatClampNeg)) (hdg : decode cc pc = .ok (.iaload, 1)) (kk : W p l e R s m args below meth c H locs cells slots Q (F0 m (pc + 1) ls (.int (ar (12) i.toNatClampNeg) :: rest))) : W p l e R s m args below meth c H locs cells slots Q (F0 m pc ls (.int i :: .ref (a (12+(12))) :: rest)) :=
  va_iald C0.1.1 C0.1.2.1 C0.2.1 hP (12+(12)) 0 (xa_bits) rfl hin hdg kk
theorem xt_bits (C0 : kC p s m c args cc nL own D cI cS) (hap : kAp a 29) (hP : va_P D vwCl (xW cI cS a v ar) H) (hS : va_S (kA a 29) s.heap H locs) {i x : Int32} (hin : ¬ (i < 0 ∨ 8 ≤ i.toNatClampNeg)) (hdg : decode cc pc = .ok (.iastore, 1)) (kk : ∀ (H1 : Heap) (locs1 : List Loc), va_P D vwCl (xW cI cS a v (va_up ar (12) (upd (ar (12)) i.toNatClampNeg x))) H1 → va_S (kA a 29) s.heap H1 locs1 → W p l e R s m args below meth c H1 locs1 cells slots Q (F0 m (pc + 1) ls rest)) : W p l e R s m args below meth c H locs cells slots Q (F0 m pc ls (.int x :: .int i :: .ref (a (12+(12))) :: rest)) :=
  va_iast C0.1.1 C0.1.2.1 C0.2.1 hP (xD hap) hS (12+(12)) 0 (xa_bits) rfl hin hdg (fun H1 locs1 hP1 _ hS1 => kk H1 locs1 (by rw [xz_bits] at hP1; exact hP1) hS1)
theorem xa_row {q : Nat} (hq : q < 4) : (xW cI cS a v ar)[12+(13+q)]? = some (a (12+(13+q)), .inl (cI, 60, .inl (ar (13+q)))) := k4c (P := fun q => (xW cI cS a v ar)[12+(13+q)]? = some (a (12+(13+q)), .inl (cI, 60, .inl (ar (13+q))))) hq rfl rfl rfl rfl
theorem xz_row {q : Nat} (hq : q < 4) (g : Nat → Int32) : (xW cI cS a v ar).set (12+(13+q)) (a (12+(13+q)), .inl (cI, 60, .inl g)) = xW cI cS a v (va_up ar (13+q) g) := k4c (P := fun q => (xW cI cS a v ar).set (12+(13+q)) (a (12+(13+q)), .inl (cI, 60, .inl g)) = xW cI cS a v (va_up ar (13+q) g)) hq rfl rfl rfl rfl
theorem xl_row (C0 : kC p s m c args cc nL own D cI cS) {q : Nat} (hq : q < 4) (hP : va_P D vwCl (xW cI cS a v ar) H) {i : Int32} (hin : ¬ (i < 0 ∨ 60 ≤ i.toNatClampNeg)) (hdg : decode cc pc = .ok (.iaload, 1)) (kk : W p l e R s m args below meth c H locs cells slots Q (F0 m (pc + 1) ls (.int (ar (13+q) i.toNatClampNeg) :: rest))) : W p l e R s m args below meth c H locs cells slots Q (F0 m pc ls (.int i :: .ref (a (12+(13+q))) :: rest)) :=
  va_iald C0.1.1 C0.1.2.1 C0.2.1 hP (12+(13+q)) 0 (xa_row hq) rfl hin hdg kk
theorem xt_row (C0 : kC p s m c args cc nL own D cI cS) (hap : kAp a 29) {q : Nat} (hq : q < 4) (hP : va_P D vwCl (xW cI cS a v ar) H) (hS : va_S (kA a 29) s.heap H locs) {i x : Int32} (hin : ¬ (i < 0 ∨ 60 ≤ i.toNatClampNeg)) (hdg : decode cc pc = .ok (.iastore, 1)) (kk : ∀ (H1 : Heap) (locs1 : List Loc), va_P D vwCl (xW cI cS a v (va_up ar (13+q) (upd (ar (13+q)) i.toNatClampNeg x))) H1 → va_S (kA a 29) s.heap H1 locs1 → W p l e R s m args below meth c H1 locs1 cells slots Q (F0 m (pc + 1) ls rest)) : W p l e R s m args below meth c H locs cells slots Q (F0 m pc ls (.int x :: .int i :: .ref (a (12+(13+q))) :: rest)) :=
  va_iast C0.1.1 C0.1.2.1 C0.2.1 hP (xD hap) hS (12+(13+q)) 0 (xa_row hq) rfl hin hdg (fun H1 locs1 hP1 _ hS1 => kk H1 locs1 (by rw [xz_row hq] at hP1; exact hP1) hS1)
theorem ma_sorts : (mW cI a v ar)[1+0]? = some (a (1+0), .inl (cI, 4, .inl (ar (0)))) := rfl
theorem mz_sorts (g : Nat → Int32) : (mW cI a v ar).set (1+0) (a (1+0), .inl (cI, 4, .inl g)) = mW cI a v (va_up ar (0) g) := rfl
theorem ml_sorts (C0 : kC p s m c args cc nL own D cI cS) (hP : va_P D vwCl (mW cI a v ar) H) {i : Int32} (hin : ¬ (i < 0 ∨ 4 ≤ i.toNatClampNeg)) (hdg : decode cc pc = .ok (.iaload, 1)) (kk : W p l e R s m args below meth c H locs cells slots Q (F0 m (pc + 1) ls (.int (ar (0) i.toNatClampNeg) :: rest))) : W p l e R s m args below meth c H locs cells slots Q (F0 m pc ls (.int i :: .ref (a (1+0)) :: rest)) :=
  va_iald C0.1.1 C0.1.2.1 C0.2.1 hP (1+0) 0 (ma_sorts) rfl hin hdg kk
theorem mt_sorts (C0 : kC p s m c args cc nL own D cI cS) (hap : kAp a 15) (hP : va_P D vwCl (mW cI a v ar) H) (hS : va_S (kA a 15) s.heap H locs) {i x : Int32} (hin : ¬ (i < 0 ∨ 4 ≤ i.toNatClampNeg)) (hdg : decode cc pc = .ok (.iastore, 1)) (kk : ∀ (H1 : Heap) (locs1 : List Loc), va_P D vwCl (mW cI a v (va_up ar (0) (upd (ar (0)) i.toNatClampNeg x))) H1 → va_S (kA a 15) s.heap H1 locs1 → W p l e R s m args below meth c H1 locs1 cells slots Q (F0 m (pc + 1) ls rest)) : W p l e R s m args below meth c H locs cells slots Q (F0 m pc ls (.int x :: .int i :: .ref (a (1+0)) :: rest)) :=
  va_iast C0.1.1 C0.1.2.1 C0.2.1 hP (mD hap) hS (1+0) 0 (ma_sorts) rfl hin hdg (fun H1 locs1 hP1 _ hS1 => kk H1 locs1 (by rw [mz_sorts] at hP1; exact hP1) hS1)
theorem ma_sheetLong : (mW cI a v ar)[1+1]? = some (a (1+1), .inl (cI, 4, .inl (ar (1)))) := rfl
theorem mz_sheetLong (g : Nat → Int32) : (mW cI a v ar).set (1+1) (a (1+1), .inl (cI, 4, .inl g)) = mW cI a v (va_up ar (1) g) := rfl
theorem ml_sheetLong (C0 : kC p s m c args cc nL own D cI cS) (hP : va_P D vwCl (mW cI a v ar) H) {i : Int32} (hin : ¬ (i < 0 ∨ 4 ≤ i.toNatClampNeg)) (hdg : decode cc pc = .ok (.iaload, 1)) (kk : W p l e R s m args below meth c H locs cells slots Q (F0 m (pc + 1) ls (.int (ar (1) i.toNatClampNeg) :: rest))) : W p l e R s m args below meth c H locs cells slots Q (F0 m pc ls (.int i :: .ref (a (1+1)) :: rest)) :=
  va_iald C0.1.1 C0.1.2.1 C0.2.1 hP (1+1) 0 (ma_sheetLong) rfl hin hdg kk
theorem mt_sheetLong (C0 : kC p s m c args cc nL own D cI cS) (hap : kAp a 15) (hP : va_P D vwCl (mW cI a v ar) H) (hS : va_S (kA a 15) s.heap H locs) {i x : Int32} (hin : ¬ (i < 0 ∨ 4 ≤ i.toNatClampNeg)) (hdg : decode cc pc = .ok (.iastore, 1)) (kk : ∀ (H1 : Heap) (locs1 : List Loc), va_P D vwCl (mW cI a v (va_up ar (1) (upd (ar (1)) i.toNatClampNeg x))) H1 → va_S (kA a 15) s.heap H1 locs1 → W p l e R s m args below meth c H1 locs1 cells slots Q (F0 m (pc + 1) ls rest)) : W p l e R s m args below meth c H locs cells slots Q (F0 m pc ls (.int x :: .int i :: .ref (a (1+1)) :: rest)) :=
  va_iast C0.1.1 C0.1.2.1 C0.2.1 hP (mD hap) hS (1+1) 0 (ma_sheetLong) rfl hin hdg (fun H1 locs1 hP1 _ hS1 => kk H1 locs1 (by rw [mz_sheetLong] at hP1; exact hP1) hS1)
theorem ma_cells : (mW cI a v ar)[1+2]? = some (a (1+2), .inl (cI, 240, .inl (ar (2)))) := rfl
theorem mz_cells (g : Nat → Int32) : (mW cI a v ar).set (1+2) (a (1+2), .inl (cI, 240, .inl g)) = mW cI a v (va_up ar (2) g) := rfl
theorem ml_cells (C0 : kC p s m c args cc nL own D cI cS) (hP : va_P D vwCl (mW cI a v ar) H) {i : Int32} (hin : ¬ (i < 0 ∨ 240 ≤ i.toNatClampNeg)) (hdg : decode cc pc = .ok (.iaload, 1)) (kk : W p l e R s m args below meth c H locs cells slots Q (F0 m (pc + 1) ls (.int (ar (2) i.toNatClampNeg) :: rest))) : W p l e R s m args below meth c H locs cells slots Q (F0 m pc ls (.int i :: .ref (a (1+2)) :: rest)) :=
  va_iald C0.1.1 C0.1.2.1 C0.2.1 hP (1+2) 0 (ma_cells) rfl hin hdg kk
theorem mt_cells (C0 : kC p s m c args cc nL own D cI cS) (hap : kAp a 15) (hP : va_P D vwCl (mW cI a v ar) H) (hS : va_S (kA a 15) s.heap H locs) {i x : Int32} (hin : ¬ (i < 0 ∨ 240 ≤ i.toNatClampNeg)) (hdg : decode cc pc = .ok (.iastore, 1)) (kk : ∀ (H1 : Heap) (locs1 : List Loc), va_P D vwCl (mW cI a v (va_up ar (2) (upd (ar (2)) i.toNatClampNeg x))) H1 → va_S (kA a 15) s.heap H1 locs1 → W p l e R s m args below meth c H1 locs1 cells slots Q (F0 m (pc + 1) ls rest)) : W p l e R s m args below meth c H locs cells slots Q (F0 m pc ls (.int x :: .int i :: .ref (a (1+2)) :: rest)) :=
  va_iast C0.1.1 C0.1.2.1 C0.2.1 hP (mD hap) hS (1+2) 0 (ma_cells) rfl hin hdg (fun H1 locs1 hP1 _ hS1 => kk H1 locs1 (by rw [mz_cells] at hP1; exact hP1) hS1)
theorem ma_rack : (mW cI a v ar)[1+3]? = some (a (1+3), .inl (cI, 9, .inl (ar (3)))) := rfl
theorem mz_rack (g : Nat → Int32) : (mW cI a v ar).set (1+3) (a (1+3), .inl (cI, 9, .inl g)) = mW cI a v (va_up ar (3) g) := rfl
theorem ml_rack (C0 : kC p s m c args cc nL own D cI cS) (hP : va_P D vwCl (mW cI a v ar) H) {i : Int32} (hin : ¬ (i < 0 ∨ 9 ≤ i.toNatClampNeg)) (hdg : decode cc pc = .ok (.iaload, 1)) (kk : W p l e R s m args below meth c H locs cells slots Q (F0 m (pc + 1) ls (.int (ar (3) i.toNatClampNeg) :: rest))) : W p l e R s m args below meth c H locs cells slots Q (F0 m pc ls (.int i :: .ref (a (1+3)) :: rest)) :=
  va_iald C0.1.1 C0.1.2.1 C0.2.1 hP (1+3) 0 (ma_rack) rfl hin hdg kk
theorem mt_rack (C0 : kC p s m c args cc nL own D cI cS) (hap : kAp a 15) (hP : va_P D vwCl (mW cI a v ar) H) (hS : va_S (kA a 15) s.heap H locs) {i x : Int32} (hin : ¬ (i < 0 ∨ 9 ≤ i.toNatClampNeg)) (hdg : decode cc pc = .ok (.iastore, 1)) (kk : ∀ (H1 : Heap) (locs1 : List Loc), va_P D vwCl (mW cI a v (va_up ar (3) (upd (ar (3)) i.toNatClampNeg x))) H1 → va_S (kA a 15) s.heap H1 locs1 → W p l e R s m args below meth c H1 locs1 cells slots Q (F0 m (pc + 1) ls rest)) : W p l e R s m args below meth c H locs cells slots Q (F0 m pc ls (.int x :: .int i :: .ref (a (1+3)) :: rest)) :=
  va_iast C0.1.1 C0.1.2.1 C0.2.1 hP (mD hap) hS (1+3) 0 (ma_rack) rfl hin hdg (fun H1 locs1 hP1 _ hS1 => kk H1 locs1 (by rw [mz_rack] at hP1; exact hP1) hS1)
theorem ma_kind : (mW cI a v ar)[1+4]? = some (a (1+4), .inl (cI, 7, .inl (ar (4)))) := rfl
theorem mz_kind (g : Nat → Int32) : (mW cI a v ar).set (1+4) (a (1+4), .inl (cI, 7, .inl g)) = mW cI a v (va_up ar (4) g) := rfl
theorem ml_kind (C0 : kC p s m c args cc nL own D cI cS) (hP : va_P D vwCl (mW cI a v ar) H) {i : Int32} (hin : ¬ (i < 0 ∨ 7 ≤ i.toNatClampNeg)) (hdg : decode cc pc = .ok (.iaload, 1)) (kk : W p l e R s m args below meth c H locs cells slots Q (F0 m (pc + 1) ls (.int (ar (4) i.toNatClampNeg) :: rest))) : W p l e R s m args below meth c H locs cells slots Q (F0 m pc ls (.int i :: .ref (a (1+4)) :: rest)) :=
  va_iald C0.1.1 C0.1.2.1 C0.2.1 hP (1+4) 0 (ma_kind) rfl hin hdg kk
theorem mt_kind (C0 : kC p s m c args cc nL own D cI cS) (hap : kAp a 15) (hP : va_P D vwCl (mW cI a v ar) H) (hS : va_S (kA a 15) s.heap H locs) {i x : Int32} (hin : ¬ (i < 0 ∨ 7 ≤ i.toNatClampNeg)) (hdg : decode cc pc = .ok (.iastore, 1)) (kk : ∀ (H1 : Heap) (locs1 : List Loc), va_P D vwCl (mW cI a v (va_up ar (4) (upd (ar (4)) i.toNatClampNeg x))) H1 → va_S (kA a 15) s.heap H1 locs1 → W p l e R s m args below meth c H1 locs1 cells slots Q (F0 m (pc + 1) ls rest)) : W p l e R s m args below meth c H locs cells slots Q (F0 m pc ls (.int x :: .int i :: .ref (a (1+4)) :: rest)) :=
  va_iast C0.1.1 C0.1.2.1 C0.2.1 hP (mD hap) hS (1+4) 0 (ma_kind) rfl hin hdg (fun H1 locs1 hP1 _ hS1 => kk H1 locs1 (by rw [mz_kind] at hP1; exact hP1) hS1)
theorem ma_bulk : (mW cI a v ar)[1+5]? = some (a (1+5), .inl (cI, 7, .inl (ar (5)))) := rfl
theorem mz_bulk (g : Nat → Int32) : (mW cI a v ar).set (1+5) (a (1+5), .inl (cI, 7, .inl g)) = mW cI a v (va_up ar (5) g) := rfl
theorem ml_bulk (C0 : kC p s m c args cc nL own D cI cS) (hP : va_P D vwCl (mW cI a v ar) H) {i : Int32} (hin : ¬ (i < 0 ∨ 7 ≤ i.toNatClampNeg)) (hdg : decode cc pc = .ok (.iaload, 1)) (kk : W p l e R s m args below meth c H locs cells slots Q (F0 m (pc + 1) ls (.int (ar (5) i.toNatClampNeg) :: rest))) : W p l e R s m args below meth c H locs cells slots Q (F0 m pc ls (.int i :: .ref (a (1+5)) :: rest)) :=
  va_iald C0.1.1 C0.1.2.1 C0.2.1 hP (1+5) 0 (ma_bulk) rfl hin hdg kk
theorem mt_bulk (C0 : kC p s m c args cc nL own D cI cS) (hap : kAp a 15) (hP : va_P D vwCl (mW cI a v ar) H) (hS : va_S (kA a 15) s.heap H locs) {i x : Int32} (hin : ¬ (i < 0 ∨ 7 ≤ i.toNatClampNeg)) (hdg : decode cc pc = .ok (.iastore, 1)) (kk : ∀ (H1 : Heap) (locs1 : List Loc), va_P D vwCl (mW cI a v (va_up ar (5) (upd (ar (5)) i.toNatClampNeg x))) H1 → va_S (kA a 15) s.heap H1 locs1 → W p l e R s m args below meth c H1 locs1 cells slots Q (F0 m (pc + 1) ls rest)) : W p l e R s m args below meth c H locs cells slots Q (F0 m pc ls (.int x :: .int i :: .ref (a (1+5)) :: rest)) :=
  va_iast C0.1.1 C0.1.2.1 C0.2.1 hP (mD hap) hS (1+5) 0 (ma_bulk) rfl hin hdg (fun H1 locs1 hP1 _ hS1 => kk H1 locs1 (by rw [mz_bulk] at hP1; exact hP1) hS1)
theorem ma_net : (mW cI a v ar)[1+6]? = some (a (1+6), .inl (cI, 6, .inl (ar (6)))) := rfl
theorem mz_net (g : Nat → Int32) : (mW cI a v ar).set (1+6) (a (1+6), .inl (cI, 6, .inl g)) = mW cI a v (va_up ar (6) g) := rfl
theorem ml_net (C0 : kC p s m c args cc nL own D cI cS) (hP : va_P D vwCl (mW cI a v ar) H) {i : Int32} (hin : ¬ (i < 0 ∨ 6 ≤ i.toNatClampNeg)) (hdg : decode cc pc = .ok (.iaload, 1)) (kk : W p l e R s m args below meth c H locs cells slots Q (F0 m (pc + 1) ls (.int (ar (6) i.toNatClampNeg) :: rest))) : W p l e R s m args below meth c H locs cells slots Q (F0 m pc ls (.int i :: .ref (a (1+6)) :: rest)) :=
  va_iald C0.1.1 C0.1.2.1 C0.2.1 hP (1+6) 0 (ma_net) rfl hin hdg kk
theorem mt_net (C0 : kC p s m c args cc nL own D cI cS) (hap : kAp a 15) (hP : va_P D vwCl (mW cI a v ar) H) (hS : va_S (kA a 15) s.heap H locs) {i x : Int32} (hin : ¬ (i < 0 ∨ 6 ≤ i.toNatClampNeg)) (hdg : decode cc pc = .ok (.iastore, 1)) (kk : ∀ (H1 : Heap) (locs1 : List Loc), va_P D vwCl (mW cI a v (va_up ar (6) (upd (ar (6)) i.toNatClampNeg x))) H1 → va_S (kA a 15) s.heap H1 locs1 → W p l e R s m args below meth c H1 locs1 cells slots Q (F0 m (pc + 1) ls rest)) : W p l e R s m args below meth c H locs cells slots Q (F0 m pc ls (.int x :: .int i :: .ref (a (1+6)) :: rest)) :=
  va_iast C0.1.1 C0.1.2.1 C0.2.1 hP (mD hap) hS (1+6) 0 (ma_net) rfl hin hdg (fun H1 locs1 hP1 _ hS1 => kk H1 locs1 (by rw [mz_net] at hP1; exact hP1) hS1)
theorem ma_readKind : (mW cI a v ar)[1+7]? = some (a (1+7), .inl (cI, 7, .inl (ar (7)))) := rfl
theorem mz_readKind (g : Nat → Int32) : (mW cI a v ar).set (1+7) (a (1+7), .inl (cI, 7, .inl g)) = mW cI a v (va_up ar (7) g) := rfl
theorem ml_readKind (C0 : kC p s m c args cc nL own D cI cS) (hP : va_P D vwCl (mW cI a v ar) H) {i : Int32} (hin : ¬ (i < 0 ∨ 7 ≤ i.toNatClampNeg)) (hdg : decode cc pc = .ok (.iaload, 1)) (kk : W p l e R s m args below meth c H locs cells slots Q (F0 m (pc + 1) ls (.int (ar (7) i.toNatClampNeg) :: rest))) : W p l e R s m args below meth c H locs cells slots Q (F0 m pc ls (.int i :: .ref (a (1+7)) :: rest)) :=
  va_iald C0.1.1 C0.1.2.1 C0.2.1 hP (1+7) 0 (ma_readKind) rfl hin hdg kk
theorem mt_readKind (C0 : kC p s m c args cc nL own D cI cS) (hap : kAp a 15) (hP : va_P D vwCl (mW cI a v ar) H) (hS : va_S (kA a 15) s.heap H locs) {i x : Int32} (hin : ¬ (i < 0 ∨ 7 ≤ i.toNatClampNeg)) (hdg : decode cc pc = .ok (.iastore, 1)) (kk : ∀ (H1 : Heap) (locs1 : List Loc), va_P D vwCl (mW cI a v (va_up ar (7) (upd (ar (7)) i.toNatClampNeg x))) H1 → va_S (kA a 15) s.heap H1 locs1 → W p l e R s m args below meth c H1 locs1 cells slots Q (F0 m (pc + 1) ls rest)) : W p l e R s m args below meth c H locs cells slots Q (F0 m pc ls (.int x :: .int i :: .ref (a (1+7)) :: rest)) :=
  va_iast C0.1.1 C0.1.2.1 C0.2.1 hP (mD hap) hS (1+7) 0 (ma_readKind) rfl hin hdg (fun H1 locs1 hP1 _ hS1 => kk H1 locs1 (by rw [mz_readKind] at hP1; exact hP1) hS1)
theorem ma_readBulk : (mW cI a v ar)[1+8]? = some (a (1+8), .inl (cI, 7, .inl (ar (8)))) := rfl
theorem mz_readBulk (g : Nat → Int32) : (mW cI a v ar).set (1+8) (a (1+8), .inl (cI, 7, .inl g)) = mW cI a v (va_up ar (8) g) := rfl
theorem ml_readBulk (C0 : kC p s m c args cc nL own D cI cS) (hP : va_P D vwCl (mW cI a v ar) H) {i : Int32} (hin : ¬ (i < 0 ∨ 7 ≤ i.toNatClampNeg)) (hdg : decode cc pc = .ok (.iaload, 1)) (kk : W p l e R s m args below meth c H locs cells slots Q (F0 m (pc + 1) ls (.int (ar (8) i.toNatClampNeg) :: rest))) : W p l e R s m args below meth c H locs cells slots Q (F0 m pc ls (.int i :: .ref (a (1+8)) :: rest)) :=
  va_iald C0.1.1 C0.1.2.1 C0.2.1 hP (1+8) 0 (ma_readBulk) rfl hin hdg kk
theorem mt_readBulk (C0 : kC p s m c args cc nL own D cI cS) (hap : kAp a 15) (hP : va_P D vwCl (mW cI a v ar) H) (hS : va_S (kA a 15) s.heap H locs) {i x : Int32} (hin : ¬ (i < 0 ∨ 7 ≤ i.toNatClampNeg)) (hdg : decode cc pc = .ok (.iastore, 1)) (kk : ∀ (H1 : Heap) (locs1 : List Loc), va_P D vwCl (mW cI a v (va_up ar (8) (upd (ar (8)) i.toNatClampNeg x))) H1 → va_S (kA a 15) s.heap H1 locs1 → W p l e R s m args below meth c H1 locs1 cells slots Q (F0 m (pc + 1) ls rest)) : W p l e R s m args below meth c H locs cells slots Q (F0 m pc ls (.int x :: .int i :: .ref (a (1+8)) :: rest)) :=
  va_iast C0.1.1 C0.1.2.1 C0.2.1 hP (mD hap) hS (1+8) 0 (ma_readBulk) rfl hin hdg (fun H1 locs1 hP1 _ hS1 => kk H1 locs1 (by rw [mz_readBulk] at hP1; exact hP1) hS1)
theorem ma_readNet : (mW cI a v ar)[1+9]? = some (a (1+9), .inl (cI, 6, .inl (ar (9)))) := rfl
theorem mz_readNet (g : Nat → Int32) : (mW cI a v ar).set (1+9) (a (1+9), .inl (cI, 6, .inl g)) = mW cI a v (va_up ar (9) g) := rfl
theorem ml_readNet (C0 : kC p s m c args cc nL own D cI cS) (hP : va_P D vwCl (mW cI a v ar) H) {i : Int32} (hin : ¬ (i < 0 ∨ 6 ≤ i.toNatClampNeg)) (hdg : decode cc pc = .ok (.iaload, 1)) (kk : W p l e R s m args below meth c H locs cells slots Q (F0 m (pc + 1) ls (.int (ar (9) i.toNatClampNeg) :: rest))) : W p l e R s m args below meth c H locs cells slots Q (F0 m pc ls (.int i :: .ref (a (1+9)) :: rest)) :=
  va_iald C0.1.1 C0.1.2.1 C0.2.1 hP (1+9) 0 (ma_readNet) rfl hin hdg kk
theorem mt_readNet (C0 : kC p s m c args cc nL own D cI cS) (hap : kAp a 15) (hP : va_P D vwCl (mW cI a v ar) H) (hS : va_S (kA a 15) s.heap H locs) {i x : Int32} (hin : ¬ (i < 0 ∨ 6 ≤ i.toNatClampNeg)) (hdg : decode cc pc = .ok (.iastore, 1)) (kk : ∀ (H1 : Heap) (locs1 : List Loc), va_P D vwCl (mW cI a v (va_up ar (9) (upd (ar (9)) i.toNatClampNeg x))) H1 → va_S (kA a 15) s.heap H1 locs1 → W p l e R s m args below meth c H1 locs1 cells slots Q (F0 m (pc + 1) ls rest)) : W p l e R s m args below meth c H locs cells slots Q (F0 m pc ls (.int x :: .int i :: .ref (a (1+9)) :: rest)) :=
  va_iast C0.1.1 C0.1.2.1 C0.2.1 hP (mD hap) hS (1+9) 0 (ma_readNet) rfl hin hdg (fun H1 locs1 hP1 _ hS1 => kk H1 locs1 (by rw [mz_readNet] at hP1; exact hP1) hS1)
theorem ma_moved : (mW cI a v ar)[1+10]? = some (a (1+10), .inl (cI, 7, .inl (ar (10)))) := rfl
theorem mz_moved (g : Nat → Int32) : (mW cI a v ar).set (1+10) (a (1+10), .inl (cI, 7, .inl g)) = mW cI a v (va_up ar (10) g) := rfl
theorem ml_moved (C0 : kC p s m c args cc nL own D cI cS) (hP : va_P D vwCl (mW cI a v ar) H) {i : Int32} (hin : ¬ (i < 0 ∨ 7 ≤ i.toNatClampNeg)) (hdg : decode cc pc = .ok (.iaload, 1)) (kk : W p l e R s m args below meth c H locs cells slots Q (F0 m (pc + 1) ls (.int (ar (10) i.toNatClampNeg) :: rest))) : W p l e R s m args below meth c H locs cells slots Q (F0 m pc ls (.int i :: .ref (a (1+10)) :: rest)) :=
  va_iald C0.1.1 C0.1.2.1 C0.2.1 hP (1+10) 0 (ma_moved) rfl hin hdg kk
theorem mt_moved (C0 : kC p s m c args cc nL own D cI cS) (hap : kAp a 15) (hP : va_P D vwCl (mW cI a v ar) H) (hS : va_S (kA a 15) s.heap H locs) {i x : Int32} (hin : ¬ (i < 0 ∨ 7 ≤ i.toNatClampNeg)) (hdg : decode cc pc = .ok (.iastore, 1)) (kk : ∀ (H1 : Heap) (locs1 : List Loc), va_P D vwCl (mW cI a v (va_up ar (10) (upd (ar (10)) i.toNatClampNeg x))) H1 → va_S (kA a 15) s.heap H1 locs1 → W p l e R s m args below meth c H1 locs1 cells slots Q (F0 m (pc + 1) ls rest)) : W p l e R s m args below meth c H locs cells slots Q (F0 m pc ls (.int x :: .int i :: .ref (a (1+10)) :: rest)) :=
  va_iast C0.1.1 C0.1.2.1 C0.2.1 hP (mD hap) hS (1+10) 0 (ma_moved) rfl hin hdg (fun H1 locs1 hP1 _ hS1 => kk H1 locs1 (by rw [mz_moved] at hP1; exact hP1) hS1)
theorem ma_keptBulk : (mW cI a v ar)[1+11]? = some (a (1+11), .inl (cI, 7, .inl (ar (11)))) := rfl
theorem mz_keptBulk (g : Nat → Int32) : (mW cI a v ar).set (1+11) (a (1+11), .inl (cI, 7, .inl g)) = mW cI a v (va_up ar (11) g) := rfl
theorem ml_keptBulk (C0 : kC p s m c args cc nL own D cI cS) (hP : va_P D vwCl (mW cI a v ar) H) {i : Int32} (hin : ¬ (i < 0 ∨ 7 ≤ i.toNatClampNeg)) (hdg : decode cc pc = .ok (.iaload, 1)) (kk : W p l e R s m args below meth c H locs cells slots Q (F0 m (pc + 1) ls (.int (ar (11) i.toNatClampNeg) :: rest))) : W p l e R s m args below meth c H locs cells slots Q (F0 m pc ls (.int i :: .ref (a (1+11)) :: rest)) :=
  va_iald C0.1.1 C0.1.2.1 C0.2.1 hP (1+11) 0 (ma_keptBulk) rfl hin hdg kk
theorem mt_keptBulk (C0 : kC p s m c args cc nL own D cI cS) (hap : kAp a 15) (hP : va_P D vwCl (mW cI a v ar) H) (hS : va_S (kA a 15) s.heap H locs) {i x : Int32} (hin : ¬ (i < 0 ∨ 7 ≤ i.toNatClampNeg)) (hdg : decode cc pc = .ok (.iastore, 1)) (kk : ∀ (H1 : Heap) (locs1 : List Loc), va_P D vwCl (mW cI a v (va_up ar (11) (upd (ar (11)) i.toNatClampNeg x))) H1 → va_S (kA a 15) s.heap H1 locs1 → W p l e R s m args below meth c H1 locs1 cells slots Q (F0 m (pc + 1) ls rest)) : W p l e R s m args below meth c H locs cells slots Q (F0 m pc ls (.int x :: .int i :: .ref (a (1+11)) :: rest)) :=
  va_iast C0.1.1 C0.1.2.1 C0.2.1 hP (mD hap) hS (1+11) 0 (ma_keptBulk) rfl hin hdg (fun H1 locs1 hP1 _ hS1 => kk H1 locs1 (by rw [mz_keptBulk] at hP1; exact hP1) hS1)
theorem ma_readOf : (mW cI a v ar)[1+12]? = some (a (1+12), .inl (cI, 8, .inl (ar (12)))) := rfl
theorem mz_readOf (g : Nat → Int32) : (mW cI a v ar).set (1+12) (a (1+12), .inl (cI, 8, .inl g)) = mW cI a v (va_up ar (12) g) := rfl
theorem ml_readOf (C0 : kC p s m c args cc nL own D cI cS) (hP : va_P D vwCl (mW cI a v ar) H) {i : Int32} (hin : ¬ (i < 0 ∨ 8 ≤ i.toNatClampNeg)) (hdg : decode cc pc = .ok (.iaload, 1)) (kk : W p l e R s m args below meth c H locs cells slots Q (F0 m (pc + 1) ls (.int (ar (12) i.toNatClampNeg) :: rest))) : W p l e R s m args below meth c H locs cells slots Q (F0 m pc ls (.int i :: .ref (a (1+12)) :: rest)) :=
  va_iald C0.1.1 C0.1.2.1 C0.2.1 hP (1+12) 0 (ma_readOf) rfl hin hdg kk
theorem mt_readOf (C0 : kC p s m c args cc nL own D cI cS) (hap : kAp a 15) (hP : va_P D vwCl (mW cI a v ar) H) (hS : va_S (kA a 15) s.heap H locs) {i x : Int32} (hin : ¬ (i < 0 ∨ 8 ≤ i.toNatClampNeg)) (hdg : decode cc pc = .ok (.iastore, 1)) (kk : ∀ (H1 : Heap) (locs1 : List Loc), va_P D vwCl (mW cI a v (va_up ar (12) (upd (ar (12)) i.toNatClampNeg x))) H1 → va_S (kA a 15) s.heap H1 locs1 → W p l e R s m args below meth c H1 locs1 cells slots Q (F0 m (pc + 1) ls rest)) : W p l e R s m args below meth c H locs cells slots Q (F0 m pc ls (.int x :: .int i :: .ref (a (1+12)) :: rest)) :=
  va_iast C0.1.1 C0.1.2.1 C0.2.1 hP (mD hap) hS (1+12) 0 (ma_readOf) rfl hin hdg (fun H1 locs1 hP1 _ hS1 => kk H1 locs1 (by rw [mz_readOf] at hP1; exact hP1) hS1)
theorem ma_readBits : (mW cI a v ar)[1+13]? = some (a (1+13), .inl (cI, 8, .inl (ar (13)))) := rfl
theorem mz_readBits (g : Nat → Int32) : (mW cI a v ar).set (1+13) (a (1+13), .inl (cI, 8, .inl g)) = mW cI a v (va_up ar (13) g) := rfl
theorem ml_readBits (C0 : kC p s m c args cc nL own D cI cS) (hP : va_P D vwCl (mW cI a v ar) H) {i : Int32} (hin : ¬ (i < 0 ∨ 8 ≤ i.toNatClampNeg)) (hdg : decode cc pc = .ok (.iaload, 1)) (kk : W p l e R s m args below meth c H locs cells slots Q (F0 m (pc + 1) ls (.int (ar (13) i.toNatClampNeg) :: rest))) : W p l e R s m args below meth c H locs cells slots Q (F0 m pc ls (.int i :: .ref (a (1+13)) :: rest)) :=
  va_iald C0.1.1 C0.1.2.1 C0.2.1 hP (1+13) 0 (ma_readBits) rfl hin hdg kk
theorem mt_readBits (C0 : kC p s m c args cc nL own D cI cS) (hap : kAp a 15) (hP : va_P D vwCl (mW cI a v ar) H) (hS : va_S (kA a 15) s.heap H locs) {i x : Int32} (hin : ¬ (i < 0 ∨ 8 ≤ i.toNatClampNeg)) (hdg : decode cc pc = .ok (.iastore, 1)) (kk : ∀ (H1 : Heap) (locs1 : List Loc), va_P D vwCl (mW cI a v (va_up ar (13) (upd (ar (13)) i.toNatClampNeg x))) H1 → va_S (kA a 15) s.heap H1 locs1 → W p l e R s m args below meth c H1 locs1 cells slots Q (F0 m (pc + 1) ls rest)) : W p l e R s m args below meth c H locs cells slots Q (F0 m pc ls (.int x :: .int i :: .ref (a (1+13)) :: rest)) :=
  va_iast C0.1.1 C0.1.2.1 C0.2.1 hP (mD hap) hS (1+13) 0 (ma_readBits) rfl hin hdg (fun H1 locs1 hP1 _ hS1 => kk H1 locs1 (by rw [mz_readBits] at hP1; exact hP1) hS1)
theorem k17c {P : Nat → Prop} {k : Nat} (hk : k < 17) (h0 : P 0) (h1 : P 1) (h2 : P 2) (h3 : P 3) (h4 : P 4) (h5 : P 5) (h6 : P 6) (h7 : P 7) (h8 : P 8) (h9 : P 9) (h10 : P 10) (h11 : P 11) (h12 : P 12) (h13 : P 13) (h14 : P 14) (h15 : P 15) (h16 : P 16) : P k := by
  rcases (show k = 0 ∨ k = 1 ∨ k = 2 ∨ k = 3 ∨ k = 4 ∨ k = 5 ∨ k = 6 ∨ k = 7 ∨ k = 8 ∨ k = 9 ∨ k = 10 ∨ k = 11 ∨ k = 12 ∨ k = 13 ∨ k = 14 ∨ k = 15 ∨ k = 16 by omega) with rfl | rfl | rfl | rfl | rfl | rfl | rfl | rfl | rfl | rfl | rfl | rfl | rfl | rfl | rfl | rfl | rfl <;> assumption
theorem xa_any {k : Nat} (hk : k < 17) : (xW cI cS a v ar)[12+(k)]? = some (a (12+(k)), .inl (cI, xLen k, .inl (ar (k)))) := k17c (P := fun k => (xW cI cS a v ar)[12+(k)]? = some (a (12+(k)), .inl (cI, xLen k, .inl (ar (k))))) hk rfl rfl rfl rfl rfl rfl rfl rfl rfl rfl rfl rfl rfl rfl rfl rfl rfl
theorem xz_any {k : Nat} (hk : k < 17) (g : Nat → Int32) : (xW cI cS a v ar).set (12+(k)) (a (12+(k)), .inl (cI, xLen k, .inl g)) = xW cI cS a v (va_up ar (k) g) := k17c (P := fun k => (xW cI cS a v ar).set (12+(k)) (a (12+(k)), .inl (cI, xLen k, .inl g)) = xW cI cS a v (va_up ar (k) g)) hk rfl rfl rfl rfl rfl rfl rfl rfl rfl rfl rfl rfl rfl rfl rfl rfl rfl
theorem xn_any (C0 : kC p s m c args cc nL own D cI cS) {k : Nat} (hk : k < 17) (hP : va_P D vwCl (xW cI cS a v ar) H) (hdg : decode cc pc = .ok (.arraylength, 1)) (kk : W p l e R s m args below meth c H locs cells slots Q (F0 m (pc + 1) ls (.int (Int32.ofNat (xLen k)) :: rest))) : W p l e R s m args below meth c H locs cells slots Q (F0 m pc ls (.ref (a (12+(k))) :: rest)) :=
  va_alen C0.1.1 C0.1.2.1 C0.2.1 hP (12+(k)) 0 (xa_any hk) rfl rfl hdg kk
theorem xt_any (C0 : kC p s m c args cc nL own D cI cS) (hap : kAp a 29) {k : Nat} (hk : k < 17) (hP : va_P D vwCl (xW cI cS a v ar) H) (hS : va_S (kA a 29) s.heap H locs) {i x : Int32} (hin : ¬ (i < 0 ∨ xLen k ≤ i.toNatClampNeg)) (hdg : decode cc pc = .ok (.iastore, 1)) (kk : ∀ (H1 : Heap) (locs1 : List Loc), va_P D vwCl (xW cI cS a v (va_up ar (k) (upd (ar (k)) i.toNatClampNeg x))) H1 → va_S (kA a 29) s.heap H1 locs1 → W p l e R s m args below meth c H1 locs1 cells slots Q (F0 m (pc + 1) ls rest)) : W p l e R s m args below meth c H locs cells slots Q (F0 m pc ls (.int x :: .int i :: .ref (a (12+(k))) :: rest)) :=
  va_iast C0.1.1 C0.1.2.1 C0.2.1 hP (xD hap) hS (12+(k)) 0 (xa_any hk) rfl hin hdg (fun H1 locs1 hP1 _ hS1 => kk H1 locs1 (by rw [xz_any hk] at hP1; exact hP1) hS1)
theorem xl_SA (C0 : kC p s m c args cc nL own D cI cS) (hP : va_P D vwCl (xW cI cS a v ar) H) {i : Int32} (hin : ¬ (i < 0 ∨ 4 ≤ i.toNatClampNeg)) (hdg : decode cc pc = .ok (.aaload, 1)) (kk : W p l e R s m args below meth c H locs cells slots Q (F0 m (pc + 1) ls (.ref (a (8+i.toNatClampNeg)) :: rest))) : W p l e R s m args below meth c H locs cells slots Q (F0 m pc ls (.int i :: .ref (a 1) :: rest)) :=
  va_aldq C0.1.1 C0.1.2.1 C0.2.1 hP 1 1 (C := "HalfCuts$Sheet") (cA := cS) (n := 4) (f := fun k => some (a (8+k))) rfl rfl hin hdg kk
theorem xcopy (C0 : kC p s m c args cc nL own D cI cS) (hap : kAp a 29) (hls : ls.size = nL) {k0 k1 n0 n1 : Nat} (ha0 : (xW cI cS a v ar)[12+(k0)]? = some (a (12+(k0)), .inl (cI, n0, .inl (ar (k0))))) (ha1 : (xW cI cS a v ar)[12+(k1)]? = some (a (12+(k1)), .inl (cI, n1, .inl (ar (k1))))) (hz : ∀ g : Nat → Int32, (xW cI cS a v ar).set (12+(k1)) (a (12+(k1)), .inl (cI, n1, .inl g)) = xW cI cS a v (va_up ar (k1) g)) (hl : Cond.methodLink own idx arraycopyName ∈ lwG) (hP : va_P D vwCl (xW cI cS a v ar) H) (hS : va_S (kA a 29) s.heap H locs) {sp dp n : Int32} (hin : ¬ (sp < 0 ∨ dp < 0 ∨ n < 0 ∨ n0 < sp.toNatClampNeg + n.toNatClampNeg ∨ n1 < dp.toNatClampNeg + n.toNatClampNeg)) (hfr : 1 ≤ R.frames) (hlo : (rest.map fun v => v.category).sum + 18 ≤ R.locals) (hdg : decode cc pc = .ok (.invokestatic idx, 3)) (kk : ∀ (H1 : Heap) (locs1 : List Loc), va_P D vwCl (xW cI cS a v (va_up ar (k1) (va_cpy (ar (k0)) (ar (k1)) sp.toNatClampNeg dp.toNatClampNeg n.toNatClampNeg))) H1 → va_S (kA a 29) s.heap H1 locs1 → W p l e R s m args below meth c H1 locs1 cells slots Q (F0 m (pc + 3) ls rest)) : W p l e R s m args below meth c H locs cells slots Q (F0 m pc ls (.int n :: .int dp :: .ref (a (12+(k1))) :: .int sp :: .ref (a (12+(k0))) :: rest)) := by
  obtain ⟨g1, g⟩ := not_or.mp hin
  obtain ⟨g2, g⟩ := not_or.mp g
  obtain ⟨g3, g⟩ := not_or.mp g
  obtain ⟨g4, g5⟩ := not_or.mp g
  exact va_copyi (ty := .int) C0.1.1 C0.1.2.1 (C0.1.2.2.1.trans hls.symm) C0.1.2.2.2.1 (C0.1.2.2.2.2 _ hl) (C0.1.2.2.2.2 _ q_native) (C0.1.2.2.2.2 _ q_cpstat) (C0.1.2.2.2.2 _ q_cpini) C0.2.1 hP (xD hap) hS (12+(k0)) (12+(k1)) 0 0 ha0 ha1 rfl rfl rfl g1 g2 g3 (by omega) (by omega) (fun _ _ => rfl) hfr hlo hdg (fun H1 locs1 hP1 _ hS1 => kk H1 locs1 (by rw [hz] at hP1; exact hP1) hS1)
end KR
end
