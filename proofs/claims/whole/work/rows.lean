section
-- ===== PART A: goes FIRST, ahead of the names: the tables' words, and 'selects' of the private methods out of them =====
/-- a private method of a class that the tables say can be made, by its rows of tables_1 -/
def lw_okq (q : MethodName × Nat) : Prop := (q.1.cls ≠ "java/lang/invoke/MethodHandle" ∧ q.1.cls ≠ "java/lang/invoke/VarHandle") ∧ Cond.instantiable q.1.cls q.2 ∈ tables_1 ∧ Cond.privateMethod q.1 ∈ tables_1 ∧ Cond.instanceMethod q.1 ∈ tables_1
theorem lw_p0 : lw_okq (⟨"CornerFronts$Tape", "readToken", "()V"⟩, 6) := ⟨⟨by decide +kernel, by decide +kernel⟩, List.mem_of_getElem? (i := 26) (by decide +kernel), List.mem_of_getElem? (i := 278) (by decide +kernel), List.mem_of_getElem? (i := 279) (by decide +kernel)⟩
theorem lw_p1 : lw_okq (⟨"CornerFronts$Tape", "isFigure", "(I)Z"⟩, 6) := ⟨⟨by decide +kernel, by decide +kernel⟩, List.mem_of_getElem? (i := 26) (by decide +kernel), List.mem_of_getElem? (i := 282) (by decide +kernel), List.mem_of_getElem? (i := 283) (by decide +kernel)⟩
theorem lw_p2 : lw_okq (⟨"CornerFronts$Tape", "readNumber", "()V"⟩, 6) := ⟨⟨by decide +kernel, by decide +kernel⟩, List.mem_of_getElem? (i := 26) (by decide +kernel), List.mem_of_getElem? (i := 286) (by decide +kernel), List.mem_of_getElem? (i := 287) (by decide +kernel)⟩
theorem lw_p3 : lw_okq (⟨"CornerFronts$Tape", "readLetter", "()V"⟩, 6) := ⟨⟨by decide +kernel, by decide +kernel⟩, List.mem_of_getElem? (i := 26) (by decide +kernel), List.mem_of_getElem? (i := 290) (by decide +kernel), List.mem_of_getElem? (i := 291) (by decide +kernel)⟩
theorem lw_p4 : lw_okq (⟨"CornerFronts$Tape", "tellEvent", "(LCornerFronts$Front;)I"⟩, 6) := ⟨⟨by decide +kernel, by decide +kernel⟩, List.mem_of_getElem? (i := 26) (by decide +kernel), List.mem_of_getElem? (i := 385) (by decide +kernel), List.mem_of_getElem? (i := 386) (by decide +kernel)⟩
theorem lw_p5 : lw_okq (⟨"CornerFronts$Tape", "misplaced", "()I"⟩, 6) := ⟨⟨by decide +kernel, by decide +kernel⟩, List.mem_of_getElem? (i := 26) (by decide +kernel), List.mem_of_getElem? (i := 389) (by decide +kernel), List.mem_of_getElem? (i := 390) (by decide +kernel)⟩
theorem lw_p6 : lw_okq (⟨"CornerFronts", "keepDraft", "()I"⟩, 9) := ⟨⟨by decide +kernel, by decide +kernel⟩, List.mem_of_getElem? (i := 18) (by decide +kernel), List.mem_of_getElem? (i := 409) (by decide +kernel), List.mem_of_getElem? (i := 410) (by decide +kernel)⟩
theorem lw_p7 : lw_okq (⟨"CornerFronts$Sheet", "narrowed", "(I)I"⟩, 3) := ⟨⟨by decide +kernel, by decide +kernel⟩, List.mem_of_getElem? (i := 208) (by decide +kernel), List.mem_of_getElem? (i := 446) (by decide +kernel), List.mem_of_getElem? (i := 447) (by decide +kernel)⟩
theorem lw_p8 : lw_okq (⟨"CornerFronts", "isFront", "(I)Z"⟩, 9) := ⟨⟨by decide +kernel, by decide +kernel⟩, List.mem_of_getElem? (i := 18) (by decide +kernel), List.mem_of_getElem? (i := 465) (by decide +kernel), List.mem_of_getElem? (i := 466) (by decide +kernel)⟩
theorem lw_p9 : lw_okq (⟨"CornerFronts", "isEvent", "(II)Z"⟩, 9) := ⟨⟨by decide +kernel, by decide +kernel⟩, List.mem_of_getElem? (i := 18) (by decide +kernel), List.mem_of_getElem? (i := 477) (by decide +kernel), List.mem_of_getElem? (i := 478) (by decide +kernel)⟩
theorem lw_p10 : lw_okq (⟨"CornerFronts", "traced", "(I)LCornerFronts$Ways;"⟩, 9) := ⟨⟨by decide +kernel, by decide +kernel⟩, List.mem_of_getElem? (i := 18) (by decide +kernel), List.mem_of_getElem? (i := 485) (by decide +kernel), List.mem_of_getElem? (i := 486) (by decide +kernel)⟩
theorem lw_p11 : lw_okq (⟨"CornerFronts$Ways", "layArcs", "()V"⟩, 13) := ⟨⟨by decide +kernel, by decide +kernel⟩, List.mem_of_getElem? (i := 120) (by decide +kernel), List.mem_of_getElem? (i := 493) (by decide +kernel), List.mem_of_getElem? (i := 494) (by decide +kernel)⟩
theorem lw_p12 : lw_okq (⟨"CornerFronts$Ways", "beginArcs", "(I[II)V"⟩, 13) := ⟨⟨by decide +kernel, by decide +kernel⟩, List.mem_of_getElem? (i := 120) (by decide +kernel), List.mem_of_getElem? (i := 498) (by decide +kernel), List.mem_of_getElem? (i := 499) (by decide +kernel)⟩
theorem lw_p13 : lw_okq (⟨"CornerFronts$Ways", "endArcs", "(II)V"⟩, 13) := ⟨⟨by decide +kernel, by decide +kernel⟩, List.mem_of_getElem? (i := 120) (by decide +kernel), List.mem_of_getElem? (i := 502) (by decide +kernel), List.mem_of_getElem? (i := 503) (by decide +kernel)⟩
theorem lw_p14 : lw_okq (⟨"CornerFronts$Ways", "walk", "(I)V"⟩, 13) := ⟨⟨by decide +kernel, by decide +kernel⟩, List.mem_of_getElem? (i := 120) (by decide +kernel), List.mem_of_getElem? (i := 506) (by decide +kernel), List.mem_of_getElem? (i := 507) (by decide +kernel)⟩
theorem lw_p15 : lw_okq (⟨"CornerFronts$Ways", "mark", "(IIZI)V"⟩, 13) := ⟨⟨by decide +kernel, by decide +kernel⟩, List.mem_of_getElem? (i := 120) (by decide +kernel), List.mem_of_getElem? (i := 510) (by decide +kernel), List.mem_of_getElem? (i := 511) (by decide +kernel)⟩
def lw_privs_1 : List (MethodName × Nat) := [(⟨"CornerFronts$Tape", "readToken", "()V"⟩, 6), (⟨"CornerFronts$Tape", "isFigure", "(I)Z"⟩, 6), (⟨"CornerFronts$Tape", "readNumber", "()V"⟩, 6), (⟨"CornerFronts$Tape", "readLetter", "()V"⟩, 6), (⟨"CornerFronts$Tape", "tellEvent", "(LCornerFronts$Front;)I"⟩, 6), (⟨"CornerFronts$Tape", "misplaced", "()I"⟩, 6), (⟨"CornerFronts", "keepDraft", "()I"⟩, 9), (⟨"CornerFronts$Sheet", "narrowed", "(I)I"⟩, 3), (⟨"CornerFronts", "isFront", "(I)Z"⟩, 9), (⟨"CornerFronts", "isEvent", "(II)Z"⟩, 9), (⟨"CornerFronts", "traced", "(I)LCornerFronts$Ways;"⟩, 9), (⟨"CornerFronts$Ways", "layArcs", "()V"⟩, 13), (⟨"CornerFronts$Ways", "beginArcs", "(I[II)V"⟩, 13), (⟨"CornerFronts$Ways", "endArcs", "(II)V"⟩, 13), (⟨"CornerFronts$Ways", "walk", "(I)V"⟩, 13), (⟨"CornerFronts$Ways", "mark", "(IIZI)V"⟩, 13)]
theorem lw_r1 : ∀ q ∈ lw_privs_1, lw_okq q := List.forall_mem_cons.mpr ⟨lw_p0, List.forall_mem_cons.mpr ⟨lw_p1, List.forall_mem_cons.mpr ⟨lw_p2, List.forall_mem_cons.mpr ⟨lw_p3, List.forall_mem_cons.mpr ⟨lw_p4, List.forall_mem_cons.mpr ⟨lw_p5, List.forall_mem_cons.mpr ⟨lw_p6, List.forall_mem_cons.mpr ⟨lw_p7, List.forall_mem_cons.mpr ⟨lw_p8, List.forall_mem_cons.mpr ⟨lw_p9, List.forall_mem_cons.mpr ⟨lw_p10, List.forall_mem_cons.mpr ⟨lw_p11, List.forall_mem_cons.mpr ⟨lw_p12, List.forall_mem_cons.mpr ⟨lw_p13, List.forall_mem_cons.mpr ⟨lw_p14, List.forall_mem_cons.mpr ⟨lw_p15, fun _ h => absurd h List.not_mem_nil⟩⟩⟩⟩⟩⟩⟩⟩⟩⟩⟩⟩⟩⟩⟩⟩
theorem lw_p16 : lw_okq (⟨"CornerFronts$Ways", "turnCorner", "(IZ)I"⟩, 13) := ⟨⟨by decide +kernel, by decide +kernel⟩, List.mem_of_getElem? (i := 120) (by decide +kernel), List.mem_of_getElem? (i := 514) (by decide +kernel), List.mem_of_getElem? (i := 515) (by decide +kernel)⟩
theorem lw_p17 : lw_okq (⟨"CornerFronts$Ways", "lowerArc", "(I)I"⟩, 13) := ⟨⟨by decide +kernel, by decide +kernel⟩, List.mem_of_getElem? (i := 120) (by decide +kernel), List.mem_of_getElem? (i := 531) (by decide +kernel), List.mem_of_getElem? (i := 532) (by decide +kernel)⟩
theorem lw_p18 : lw_okq (⟨"CornerFronts$Ways", "upperArc", "(I)I"⟩, 13) := ⟨⟨by decide +kernel, by decide +kernel⟩, List.mem_of_getElem? (i := 120) (by decide +kernel), List.mem_of_getElem? (i := 535) (by decide +kernel), List.mem_of_getElem? (i := 536) (by decide +kernel)⟩
theorem lw_p19 : lw_okq (⟨"CornerFronts$Ways", "signSum", "(II)I"⟩, 13) := ⟨⟨by decide +kernel, by decide +kernel⟩, List.mem_of_getElem? (i := 120) (by decide +kernel), List.mem_of_getElem? (i := 559) (by decide +kernel), List.mem_of_getElem? (i := 560) (by decide +kernel)⟩
theorem lw_p20 : lw_okq (⟨"CornerFronts", "isCross", "(II)Z"⟩, 9) := ⟨⟨by decide +kernel, by decide +kernel⟩, List.mem_of_getElem? (i := 18) (by decide +kernel), List.mem_of_getElem? (i := 583) (by decide +kernel), List.mem_of_getElem? (i := 584) (by decide +kernel)⟩
theorem lw_p21 : lw_okq (⟨"CornerFronts", "hasSort", "(II)Z"⟩, 9) := ⟨⟨by decide +kernel, by decide +kernel⟩, List.mem_of_getElem? (i := 18) (by decide +kernel), List.mem_of_getElem? (i := 610) (by decide +kernel), List.mem_of_getElem? (i := 611) (by decide +kernel)⟩
theorem lw_p22 : lw_okq (⟨"CornerFronts$Switching", "begin", "(LCornerFronts$Ways;IZ)V"⟩, 7) := ⟨⟨by decide +kernel, by decide +kernel⟩, List.mem_of_getElem? (i := 176) (by decide +kernel), List.mem_of_getElem? (i := 618) (by decide +kernel), List.mem_of_getElem? (i := 619) (by decide +kernel)⟩
theorem lw_p23 : lw_okq (⟨"CornerFronts$Switching", "search", "(III)V"⟩, 7) := ⟨⟨by decide +kernel, by decide +kernel⟩, List.mem_of_getElem? (i := 176) (by decide +kernel), List.mem_of_getElem? (i := 627) (by decide +kernel), List.mem_of_getElem? (i := 628) (by decide +kernel)⟩
theorem lw_p24 : lw_okq (⟨"CornerFronts$Switching", "note", "(I)V"⟩, 7) := ⟨⟨by decide +kernel, by decide +kernel⟩, List.mem_of_getElem? (i := 176) (by decide +kernel), List.mem_of_getElem? (i := 631) (by decide +kernel), List.mem_of_getElem? (i := 632) (by decide +kernel)⟩
theorem lw_p25 : lw_okq (⟨"CornerFronts$Switching", "pairNew", "(II)V"⟩, 7) := ⟨⟨by decide +kernel, by decide +kernel⟩, List.mem_of_getElem? (i := 176) (by decide +kernel), List.mem_of_getElem? (i := 641) (by decide +kernel), List.mem_of_getElem? (i := 642) (by decide +kernel)⟩
theorem lw_p26 : lw_okq (⟨"CornerFronts$Switching", "searchPaired", "(III)V"⟩, 7) := ⟨⟨by decide +kernel, by decide +kernel⟩, List.mem_of_getElem? (i := 176) (by decide +kernel), List.mem_of_getElem? (i := 645) (by decide +kernel), List.mem_of_getElem? (i := 646) (by decide +kernel)⟩
theorem lw_p27 : lw_okq (⟨"CornerFronts$Switching", "dropPair", "(II)V"⟩, 7) := ⟨⟨by decide +kernel, by decide +kernel⟩, List.mem_of_getElem? (i := 176) (by decide +kernel), List.mem_of_getElem? (i := 649) (by decide +kernel), List.mem_of_getElem? (i := 650) (by decide +kernel)⟩
theorem lw_p28 : lw_okq (⟨"CornerFronts$Switching", "searchCross", "(III)V"⟩, 7) := ⟨⟨by decide +kernel, by decide +kernel⟩, List.mem_of_getElem? (i := 176) (by decide +kernel), List.mem_of_getElem? (i := 653) (by decide +kernel), List.mem_of_getElem? (i := 654) (by decide +kernel)⟩
theorem lw_p29 : lw_okq (⟨"CornerFronts$Switching", "changePlaces", "(II)V"⟩, 7) := ⟨⟨by decide +kernel, by decide +kernel⟩, List.mem_of_getElem? (i := 176) (by decide +kernel), List.mem_of_getElem? (i := 657) (by decide +kernel), List.mem_of_getElem? (i := 658) (by decide +kernel)⟩
theorem lw_p30 : lw_okq (⟨"CornerFronts$Switching", "interlocked", "(II)Z"⟩, 7) := ⟨⟨by decide +kernel, by decide +kernel⟩, List.mem_of_getElem? (i := 176) (by decide +kernel), List.mem_of_getElem? (i := 662) (by decide +kernel), List.mem_of_getElem? (i := 663) (by decide +kernel)⟩
theorem lw_p31 : lw_okq (⟨"CornerFronts$Patch", "planSwap", "(LCornerFronts$Front;I)Z"⟩, 4) := ⟨⟨by decide +kernel, by decide +kernel⟩, List.mem_of_getElem? (i := 97) (by decide +kernel), List.mem_of_getElem? (i := 688) (by decide +kernel), List.mem_of_getElem? (i := 689) (by decide +kernel)⟩
def lw_privs_2 : List (MethodName × Nat) := [(⟨"CornerFronts$Ways", "turnCorner", "(IZ)I"⟩, 13), (⟨"CornerFronts$Ways", "lowerArc", "(I)I"⟩, 13), (⟨"CornerFronts$Ways", "upperArc", "(I)I"⟩, 13), (⟨"CornerFronts$Ways", "signSum", "(II)I"⟩, 13), (⟨"CornerFronts", "isCross", "(II)Z"⟩, 9), (⟨"CornerFronts", "hasSort", "(II)Z"⟩, 9), (⟨"CornerFronts$Switching", "begin", "(LCornerFronts$Ways;IZ)V"⟩, 7), (⟨"CornerFronts$Switching", "search", "(III)V"⟩, 7), (⟨"CornerFronts$Switching", "note", "(I)V"⟩, 7), (⟨"CornerFronts$Switching", "pairNew", "(II)V"⟩, 7), (⟨"CornerFronts$Switching", "searchPaired", "(III)V"⟩, 7), (⟨"CornerFronts$Switching", "dropPair", "(II)V"⟩, 7), (⟨"CornerFronts$Switching", "searchCross", "(III)V"⟩, 7), (⟨"CornerFronts$Switching", "changePlaces", "(II)V"⟩, 7), (⟨"CornerFronts$Switching", "interlocked", "(II)Z"⟩, 7), (⟨"CornerFronts$Patch", "planSwap", "(LCornerFronts$Front;I)Z"⟩, 4)]
theorem lw_r2 : ∀ q ∈ lw_privs_2, lw_okq q := List.forall_mem_cons.mpr ⟨lw_p16, List.forall_mem_cons.mpr ⟨lw_p17, List.forall_mem_cons.mpr ⟨lw_p18, List.forall_mem_cons.mpr ⟨lw_p19, List.forall_mem_cons.mpr ⟨lw_p20, List.forall_mem_cons.mpr ⟨lw_p21, List.forall_mem_cons.mpr ⟨lw_p22, List.forall_mem_cons.mpr ⟨lw_p23, List.forall_mem_cons.mpr ⟨lw_p24, List.forall_mem_cons.mpr ⟨lw_p25, List.forall_mem_cons.mpr ⟨lw_p26, List.forall_mem_cons.mpr ⟨lw_p27, List.forall_mem_cons.mpr ⟨lw_p28, List.forall_mem_cons.mpr ⟨lw_p29, List.forall_mem_cons.mpr ⟨lw_p30, List.forall_mem_cons.mpr ⟨lw_p31, fun _ h => absurd h List.not_mem_nil⟩⟩⟩⟩⟩⟩⟩⟩⟩⟩⟩⟩⟩⟩⟩⟩
theorem lw_p32 : lw_okq (⟨"CornerFronts$Patch", "begin", "(I)V"⟩, 4) := ⟨⟨by decide +kernel, by decide +kernel⟩, List.mem_of_getElem? (i := 97) (by decide +kernel), List.mem_of_getElem? (i := 692) (by decide +kernel), List.mem_of_getElem? (i := 693) (by decide +kernel)⟩
theorem lw_p33 : lw_okq (⟨"CornerFronts$Patch", "put", "(II)V"⟩, 4) := ⟨⟨by decide +kernel, by decide +kernel⟩, List.mem_of_getElem? (i := 97) (by decide +kernel), List.mem_of_getElem? (i := 697) (by decide +kernel), List.mem_of_getElem? (i := 698) (by decide +kernel)⟩
theorem lw_p34 : lw_okq (⟨"CornerFronts$Patch", "planSlide", "(LCornerFronts$Front;I)Z"⟩, 4) := ⟨⟨by decide +kernel, by decide +kernel⟩, List.mem_of_getElem? (i := 97) (by decide +kernel), List.mem_of_getElem? (i := 701) (by decide +kernel), List.mem_of_getElem? (i := 702) (by decide +kernel)⟩
theorem lw_p35 : lw_okq (⟨"CornerFronts$Patch", "putThree", "(IIIIII)V"⟩, 4) := ⟨⟨by decide +kernel, by decide +kernel⟩, List.mem_of_getElem? (i := 97) (by decide +kernel), List.mem_of_getElem? (i := 712) (by decide +kernel), List.mem_of_getElem? (i := 713) (by decide +kernel)⟩
theorem lw_p36 : lw_okq (⟨"CornerFronts$Patch", "planUncurl", "(LCornerFronts$Front;I)Z"⟩, 4) := ⟨⟨by decide +kernel, by decide +kernel⟩, List.mem_of_getElem? (i := 97) (by decide +kernel), List.mem_of_getElem? (i := 716) (by decide +kernel), List.mem_of_getElem? (i := 717) (by decide +kernel)⟩
theorem lw_p37 : lw_okq (⟨"CornerFronts$Patch", "planPull", "(LCornerFronts$Front;I)Z"⟩, 4) := ⟨⟨by decide +kernel, by decide +kernel⟩, List.mem_of_getElem? (i := 97) (by decide +kernel), List.mem_of_getElem? (i := 720) (by decide +kernel), List.mem_of_getElem? (i := 721) (by decide +kernel)⟩
theorem lw_p38 : lw_okq (⟨"CornerFronts$Patch", "planStraighten", "(LCornerFronts$Front;I)Z"⟩, 4) := ⟨⟨by decide +kernel, by decide +kernel⟩, List.mem_of_getElem? (i := 97) (by decide +kernel), List.mem_of_getElem? (i := 724) (by decide +kernel), List.mem_of_getElem? (i := 725) (by decide +kernel)⟩
theorem lw_p39 : lw_okq (⟨"CornerFronts", "applyPatch", "(II)I"⟩, 9) := ⟨⟨by decide +kernel, by decide +kernel⟩, List.mem_of_getElem? (i := 18) (by decide +kernel), List.mem_of_getElem? (i := 728) (by decide +kernel), List.mem_of_getElem? (i := 729) (by decide +kernel)⟩
theorem lw_p40 : lw_okq (⟨"CornerFronts$Patch", "planBirthPush", "(III)Z"⟩, 4) := ⟨⟨by decide +kernel, by decide +kernel⟩, List.mem_of_getElem? (i := 97) (by decide +kernel), List.mem_of_getElem? (i := 758) (by decide +kernel), List.mem_of_getElem? (i := 759) (by decide +kernel)⟩
theorem lw_p41 : lw_okq (⟨"CornerFronts$Patch", "planDeathPush", "(III)Z"⟩, 4) := ⟨⟨by decide +kernel, by decide +kernel⟩, List.mem_of_getElem? (i := 97) (by decide +kernel), List.mem_of_getElem? (i := 762) (by decide +kernel), List.mem_of_getElem? (i := 763) (by decide +kernel)⟩
theorem lw_p42 : lw_okq (⟨"CornerFrontsModel", "begin", "()V"⟩, 30) := ⟨⟨by decide +kernel, by decide +kernel⟩, List.mem_of_getElem? (i := 783) (by decide +kernel), List.mem_of_getElem? (i := 895) (by decide +kernel), List.mem_of_getElem? (i := 896) (by decide +kernel)⟩
theorem lw_p43 : lw_okq (⟨"CornerFrontsModel", "next", "()V"⟩, 30) := ⟨⟨by decide +kernel, by decide +kernel⟩, List.mem_of_getElem? (i := 783) (by decide +kernel), List.mem_of_getElem? (i := 899) (by decide +kernel), List.mem_of_getElem? (i := 900) (by decide +kernel)⟩
theorem lw_p44 : lw_okq (⟨"CornerFrontsModel", "byteAt", "(I)I"⟩, 30) := ⟨⟨by decide +kernel, by decide +kernel⟩, List.mem_of_getElem? (i := 783) (by decide +kernel), List.mem_of_getElem? (i := 903) (by decide +kernel), List.mem_of_getElem? (i := 904) (by decide +kernel)⟩
theorem lw_p45 : lw_okq (⟨"CornerFrontsModel", "fails", "(I)V"⟩, 30) := ⟨⟨by decide +kernel, by decide +kernel⟩, List.mem_of_getElem? (i := 783) (by decide +kernel), List.mem_of_getElem? (i := 909) (by decide +kernel), List.mem_of_getElem? (i := 910) (by decide +kernel)⟩
theorem lw_p46 : lw_okq (⟨"CornerFrontsModel", "isTooMuch", "(I)Z"⟩, 30) := ⟨⟨by decide +kernel, by decide +kernel⟩, List.mem_of_getElem? (i := 783) (by decide +kernel), List.mem_of_getElem? (i := 913) (by decide +kernel), List.mem_of_getElem? (i := 914) (by decide +kernel)⟩
theorem lw_p47 : lw_okq (⟨"CornerFrontsModel", "hasPlace", "(II)Z"⟩, 30) := ⟨⟨by decide +kernel, by decide +kernel⟩, List.mem_of_getElem? (i := 783) (by decide +kernel), List.mem_of_getElem? (i := 917) (by decide +kernel), List.mem_of_getElem? (i := 918) (by decide +kernel)⟩
def lw_privs_3 : List (MethodName × Nat) := [(⟨"CornerFronts$Patch", "begin", "(I)V"⟩, 4), (⟨"CornerFronts$Patch", "put", "(II)V"⟩, 4), (⟨"CornerFronts$Patch", "planSlide", "(LCornerFronts$Front;I)Z"⟩, 4), (⟨"CornerFronts$Patch", "putThree", "(IIIIII)V"⟩, 4), (⟨"CornerFronts$Patch", "planUncurl", "(LCornerFronts$Front;I)Z"⟩, 4), (⟨"CornerFronts$Patch", "planPull", "(LCornerFronts$Front;I)Z"⟩, 4), (⟨"CornerFronts$Patch", "planStraighten", "(LCornerFronts$Front;I)Z"⟩, 4), (⟨"CornerFronts", "applyPatch", "(II)I"⟩, 9), (⟨"CornerFronts$Patch", "planBirthPush", "(III)Z"⟩, 4), (⟨"CornerFronts$Patch", "planDeathPush", "(III)Z"⟩, 4), (⟨"CornerFrontsModel", "begin", "()V"⟩, 30), (⟨"CornerFrontsModel", "next", "()V"⟩, 30), (⟨"CornerFrontsModel", "byteAt", "(I)I"⟩, 30), (⟨"CornerFrontsModel", "fails", "(I)V"⟩, 30), (⟨"CornerFrontsModel", "isTooMuch", "(I)Z"⟩, 30), (⟨"CornerFrontsModel", "hasPlace", "(II)Z"⟩, 30)]
theorem lw_r3 : ∀ q ∈ lw_privs_3, lw_okq q := List.forall_mem_cons.mpr ⟨lw_p32, List.forall_mem_cons.mpr ⟨lw_p33, List.forall_mem_cons.mpr ⟨lw_p34, List.forall_mem_cons.mpr ⟨lw_p35, List.forall_mem_cons.mpr ⟨lw_p36, List.forall_mem_cons.mpr ⟨lw_p37, List.forall_mem_cons.mpr ⟨lw_p38, List.forall_mem_cons.mpr ⟨lw_p39, List.forall_mem_cons.mpr ⟨lw_p40, List.forall_mem_cons.mpr ⟨lw_p41, List.forall_mem_cons.mpr ⟨lw_p42, List.forall_mem_cons.mpr ⟨lw_p43, List.forall_mem_cons.mpr ⟨lw_p44, List.forall_mem_cons.mpr ⟨lw_p45, List.forall_mem_cons.mpr ⟨lw_p46, List.forall_mem_cons.mpr ⟨lw_p47, fun _ h => absurd h List.not_mem_nil⟩⟩⟩⟩⟩⟩⟩⟩⟩⟩⟩⟩⟩⟩⟩⟩
theorem lw_p48 : lw_okq (⟨"CornerFrontsModel", "comes", "(II)V"⟩, 30) := ⟨⟨by decide +kernel, by decide +kernel⟩, List.mem_of_getElem? (i := 783) (by decide +kernel), List.mem_of_getElem? (i := 921) (by decide +kernel), List.mem_of_getElem? (i := 922) (by decide +kernel)⟩
theorem lw_p49 : lw_okq (⟨"CornerFrontsModel", "put", "(II)V"⟩, 30) := ⟨⟨by decide +kernel, by decide +kernel⟩, List.mem_of_getElem? (i := 783) (by decide +kernel), List.mem_of_getElem? (i := 925) (by decide +kernel), List.mem_of_getElem? (i := 926) (by decide +kernel)⟩
theorem lw_p50 : lw_okq (⟨"CornerFrontsModel", "added", "()I"⟩, 30) := ⟨⟨by decide +kernel, by decide +kernel⟩, List.mem_of_getElem? (i := 783) (by decide +kernel), List.mem_of_getElem? (i := 932) (by decide +kernel), List.mem_of_getElem? (i := 933) (by decide +kernel)⟩
theorem lw_p51 : lw_okq (⟨"CornerFrontsModel", "store", "(I)V"⟩, 30) := ⟨⟨by decide +kernel, by decide +kernel⟩, List.mem_of_getElem? (i := 783) (by decide +kernel), List.mem_of_getElem? (i := 936) (by decide +kernel), List.mem_of_getElem? (i := 937) (by decide +kernel)⟩
theorem lw_p52 : lw_okq (⟨"CornerFrontsModel", "is", "(I)Z"⟩, 30) := ⟨⟨by decide +kernel, by decide +kernel⟩, List.mem_of_getElem? (i := 783) (by decide +kernel), List.mem_of_getElem? (i := 963) (by decide +kernel), List.mem_of_getElem? (i := 964) (by decide +kernel)⟩
theorem lw_p53 : lw_okq (⟨"CornerFrontsModel", "putOf", "(III)V"⟩, 30) := ⟨⟨by decide +kernel, by decide +kernel⟩, List.mem_of_getElem? (i := 783) (by decide +kernel), List.mem_of_getElem? (i := 967) (by decide +kernel), List.mem_of_getElem? (i := 968) (by decide +kernel)⟩
theorem lw_p54 : lw_okq (⟨"CornerFrontsModel", "isEvent", "(II)Z"⟩, 30) := ⟨⟨by decide +kernel, by decide +kernel⟩, List.mem_of_getElem? (i := 783) (by decide +kernel), List.mem_of_getElem? (i := 979) (by decide +kernel), List.mem_of_getElem? (i := 980) (by decide +kernel)⟩
theorem lw_p55 : lw_okq (⟨"CornerFrontsModel", "ahead", "(II)I"⟩, 30) := ⟨⟨by decide +kernel, by decide +kernel⟩, List.mem_of_getElem? (i := 783) (by decide +kernel), List.mem_of_getElem? (i := 983) (by decide +kernel), List.mem_of_getElem? (i := 984) (by decide +kernel)⟩
theorem lw_p56 : lw_okq (⟨"CornerFrontsModel", "goAlong", "(I)V"⟩, 30) := ⟨⟨by decide +kernel, by decide +kernel⟩, List.mem_of_getElem? (i := 783) (by decide +kernel), List.mem_of_getElem? (i := 992) (by decide +kernel), List.mem_of_getElem? (i := 993) (by decide +kernel)⟩
theorem lw_p57 : lw_okq (⟨"CornerFrontsModel", "goOne", "(III)V"⟩, 30) := ⟨⟨by decide +kernel, by decide +kernel⟩, List.mem_of_getElem? (i := 783) (by decide +kernel), List.mem_of_getElem? (i := 996) (by decide +kernel), List.mem_of_getElem? (i := 997) (by decide +kernel)⟩
theorem lw_p58 : lw_okq (⟨"CornerFrontsModel", "isPlus", "(II)Z"⟩, 30) := ⟨⟨by decide +kernel, by decide +kernel⟩, List.mem_of_getElem? (i := 783) (by decide +kernel), List.mem_of_getElem? (i := 1000) (by decide +kernel), List.mem_of_getElem? (i := 1001) (by decide +kernel)⟩
theorem lw_p59 : lw_okq (⟨"CornerFrontsModel", "crossesOf", "(I)I"⟩, 30) := ⟨⟨by decide +kernel, by decide +kernel⟩, List.mem_of_getElem? (i := 783) (by decide +kernel), List.mem_of_getElem? (i := 1004) (by decide +kernel), List.mem_of_getElem? (i := 1005) (by decide +kernel)⟩
theorem lw_p60 : lw_okq (⟨"CornerFrontsModel", "signed", "(III)I"⟩, 30) := ⟨⟨by decide +kernel, by decide +kernel⟩, List.mem_of_getElem? (i := 783) (by decide +kernel), List.mem_of_getElem? (i := 1017) (by decide +kernel), List.mem_of_getElem? (i := 1018) (by decide +kernel)⟩
theorem lw_p61 : lw_okq (⟨"CornerFrontsModel", "isCross", "(II)Z"⟩, 30) := ⟨⟨by decide +kernel, by decide +kernel⟩, List.mem_of_getElem? (i := 783) (by decide +kernel), List.mem_of_getElem? (i := 1029) (by decide +kernel), List.mem_of_getElem? (i := 1030) (by decide +kernel)⟩
theorem lw_p62 : lw_okq (⟨"CornerFrontsModel", "degreeOf", "(II)I"⟩, 30) := ⟨⟨by decide +kernel, by decide +kernel⟩, List.mem_of_getElem? (i := 783) (by decide +kernel), List.mem_of_getElem? (i := 1037) (by decide +kernel), List.mem_of_getElem? (i := 1038) (by decide +kernel)⟩
theorem lw_p63 : lw_okq (⟨"CornerFrontsModel", "layMay", "(II)V"⟩, 30) := ⟨⟨by decide +kernel, by decide +kernel⟩, List.mem_of_getElem? (i := 783) (by decide +kernel), List.mem_of_getElem? (i := 1045) (by decide +kernel), List.mem_of_getElem? (i := 1046) (by decide +kernel)⟩
def lw_privs_4 : List (MethodName × Nat) := [(⟨"CornerFrontsModel", "comes", "(II)V"⟩, 30), (⟨"CornerFrontsModel", "put", "(II)V"⟩, 30), (⟨"CornerFrontsModel", "added", "()I"⟩, 30), (⟨"CornerFrontsModel", "store", "(I)V"⟩, 30), (⟨"CornerFrontsModel", "is", "(I)Z"⟩, 30), (⟨"CornerFrontsModel", "putOf", "(III)V"⟩, 30), (⟨"CornerFrontsModel", "isEvent", "(II)Z"⟩, 30), (⟨"CornerFrontsModel", "ahead", "(II)I"⟩, 30), (⟨"CornerFrontsModel", "goAlong", "(I)V"⟩, 30), (⟨"CornerFrontsModel", "goOne", "(III)V"⟩, 30), (⟨"CornerFrontsModel", "isPlus", "(II)Z"⟩, 30), (⟨"CornerFrontsModel", "crossesOf", "(I)I"⟩, 30), (⟨"CornerFrontsModel", "signed", "(III)I"⟩, 30), (⟨"CornerFrontsModel", "isCross", "(II)Z"⟩, 30), (⟨"CornerFrontsModel", "degreeOf", "(II)I"⟩, 30), (⟨"CornerFrontsModel", "layMay", "(II)V"⟩, 30)]
theorem lw_r4 : ∀ q ∈ lw_privs_4, lw_okq q := List.forall_mem_cons.mpr ⟨lw_p48, List.forall_mem_cons.mpr ⟨lw_p49, List.forall_mem_cons.mpr ⟨lw_p50, List.forall_mem_cons.mpr ⟨lw_p51, List.forall_mem_cons.mpr ⟨lw_p52, List.forall_mem_cons.mpr ⟨lw_p53, List.forall_mem_cons.mpr ⟨lw_p54, List.forall_mem_cons.mpr ⟨lw_p55, List.forall_mem_cons.mpr ⟨lw_p56, List.forall_mem_cons.mpr ⟨lw_p57, List.forall_mem_cons.mpr ⟨lw_p58, List.forall_mem_cons.mpr ⟨lw_p59, List.forall_mem_cons.mpr ⟨lw_p60, List.forall_mem_cons.mpr ⟨lw_p61, List.forall_mem_cons.mpr ⟨lw_p62, List.forall_mem_cons.mpr ⟨lw_p63, fun _ h => absurd h List.not_mem_nil⟩⟩⟩⟩⟩⟩⟩⟩⟩⟩⟩⟩⟩⟩⟩⟩
theorem lw_p64 : lw_okq (⟨"CornerFrontsModel", "ruled", "(III)I"⟩, 30) := ⟨⟨by decide +kernel, by decide +kernel⟩, List.mem_of_getElem? (i := 783) (by decide +kernel), List.mem_of_getElem? (i := 1049) (by decide +kernel), List.mem_of_getElem? (i := 1050) (by decide +kernel)⟩
theorem lw_p65 : lw_okq (⟨"CornerFrontsModel", "born", "(II)V"⟩, 30) := ⟨⟨by decide +kernel, by decide +kernel⟩, List.mem_of_getElem? (i := 783) (by decide +kernel), List.mem_of_getElem? (i := 1053) (by decide +kernel), List.mem_of_getElem? (i := 1054) (by decide +kernel)⟩
theorem lw_p66 : lw_okq (⟨"CornerFrontsModel", "dies", "(II)Z"⟩, 30) := ⟨⟨by decide +kernel, by decide +kernel⟩, List.mem_of_getElem? (i := 783) (by decide +kernel), List.mem_of_getElem? (i := 1057) (by decide +kernel), List.mem_of_getElem? (i := 1058) (by decide +kernel)⟩
theorem lw_p67 : lw_okq (⟨"CornerFrontsModel", "crossed", "(IZ)Z"⟩, 30) := ⟨⟨by decide +kernel, by decide +kernel⟩, List.mem_of_getElem? (i := 783) (by decide +kernel), List.mem_of_getElem? (i := 1061) (by decide +kernel), List.mem_of_getElem? (i := 1062) (by decide +kernel)⟩
theorem lw_p68 : lw_okq (⟨"CornerFrontsModel", "swap", "(II)I"⟩, 30) := ⟨⟨by decide +kernel, by decide +kernel⟩, List.mem_of_getElem? (i := 783) (by decide +kernel), List.mem_of_getElem? (i := 1076) (by decide +kernel), List.mem_of_getElem? (i := 1077) (by decide +kernel)⟩
theorem lw_p69 : lw_okq (⟨"CornerFrontsModel", "kindAt", "(II)I"⟩, 30) := ⟨⟨by decide +kernel, by decide +kernel⟩, List.mem_of_getElem? (i := 783) (by decide +kernel), List.mem_of_getElem? (i := 1080) (by decide +kernel), List.mem_of_getElem? (i := 1081) (by decide +kernel)⟩
theorem lw_p70 : lw_okq (⟨"CornerFrontsModel", "numberAt", "(II)I"⟩, 30) := ⟨⟨by decide +kernel, by decide +kernel⟩, List.mem_of_getElem? (i := 783) (by decide +kernel), List.mem_of_getElem? (i := 1084) (by decide +kernel), List.mem_of_getElem? (i := 1085) (by decide +kernel)⟩
theorem lw_p71 : lw_okq (⟨"CornerFrontsModel", "rest", "(II)I"⟩, 30) := ⟨⟨by decide +kernel, by decide +kernel⟩, List.mem_of_getElem? (i := 783) (by decide +kernel), List.mem_of_getElem? (i := 1088) (by decide +kernel), List.mem_of_getElem? (i := 1089) (by decide +kernel)⟩
theorem lw_p72 : lw_okq (⟨"CornerFrontsModel", "slide", "(II)I"⟩, 30) := ⟨⟨by decide +kernel, by decide +kernel⟩, List.mem_of_getElem? (i := 783) (by decide +kernel), List.mem_of_getElem? (i := 1092) (by decide +kernel), List.mem_of_getElem? (i := 1093) (by decide +kernel)⟩
theorem lw_p73 : lw_okq (⟨"CornerFrontsModel", "stands", "(IIIIIII)Z"⟩, 30) := ⟨⟨by decide +kernel, by decide +kernel⟩, List.mem_of_getElem? (i := 783) (by decide +kernel), List.mem_of_getElem? (i := 1096) (by decide +kernel), List.mem_of_getElem? (i := 1097) (by decide +kernel)⟩
theorem lw_p74 : lw_okq (⟨"CornerFrontsModel", "uncurl", "(II)I"⟩, 30) := ⟨⟨by decide +kernel, by decide +kernel⟩, List.mem_of_getElem? (i := 783) (by decide +kernel), List.mem_of_getElem? (i := 1100) (by decide +kernel), List.mem_of_getElem? (i := 1101) (by decide +kernel)⟩
theorem lw_p75 : lw_okq (⟨"CornerFrontsModel", "pull", "(II)I"⟩, 30) := ⟨⟨by decide +kernel, by decide +kernel⟩, List.mem_of_getElem? (i := 783) (by decide +kernel), List.mem_of_getElem? (i := 1104) (by decide +kernel), List.mem_of_getElem? (i := 1105) (by decide +kernel)⟩
theorem lw_p76 : lw_okq (⟨"CornerFrontsModel", "straighten", "(II)I"⟩, 30) := ⟨⟨by decide +kernel, by decide +kernel⟩, List.mem_of_getElem? (i := 783) (by decide +kernel), List.mem_of_getElem? (i := 1108) (by decide +kernel), List.mem_of_getElem? (i := 1109) (by decide +kernel)⟩
def lw_privs_5 : List (MethodName × Nat) := [(⟨"CornerFrontsModel", "ruled", "(III)I"⟩, 30), (⟨"CornerFrontsModel", "born", "(II)V"⟩, 30), (⟨"CornerFrontsModel", "dies", "(II)Z"⟩, 30), (⟨"CornerFrontsModel", "crossed", "(IZ)Z"⟩, 30), (⟨"CornerFrontsModel", "swap", "(II)I"⟩, 30), (⟨"CornerFrontsModel", "kindAt", "(II)I"⟩, 30), (⟨"CornerFrontsModel", "numberAt", "(II)I"⟩, 30), (⟨"CornerFrontsModel", "rest", "(II)I"⟩, 30), (⟨"CornerFrontsModel", "slide", "(II)I"⟩, 30), (⟨"CornerFrontsModel", "stands", "(IIIIIII)Z"⟩, 30), (⟨"CornerFrontsModel", "uncurl", "(II)I"⟩, 30), (⟨"CornerFrontsModel", "pull", "(II)I"⟩, 30), (⟨"CornerFrontsModel", "straighten", "(II)I"⟩, 30)]
theorem lw_r5 : ∀ q ∈ lw_privs_5, lw_okq q := List.forall_mem_cons.mpr ⟨lw_p64, List.forall_mem_cons.mpr ⟨lw_p65, List.forall_mem_cons.mpr ⟨lw_p66, List.forall_mem_cons.mpr ⟨lw_p67, List.forall_mem_cons.mpr ⟨lw_p68, List.forall_mem_cons.mpr ⟨lw_p69, List.forall_mem_cons.mpr ⟨lw_p70, List.forall_mem_cons.mpr ⟨lw_p71, List.forall_mem_cons.mpr ⟨lw_p72, List.forall_mem_cons.mpr ⟨lw_p73, List.forall_mem_cons.mpr ⟨lw_p74, List.forall_mem_cons.mpr ⟨lw_p75, List.forall_mem_cons.mpr ⟨lw_p76, fun _ h => absurd h List.not_mem_nil⟩⟩⟩⟩⟩⟩⟩⟩⟩⟩⟩⟩⟩
def lw_privs : List (MethodName × Nat) := lw_privs_1 ++ (lw_privs_2 ++ (lw_privs_3 ++ (lw_privs_4 ++ (lw_privs_5))))
def lw_tbl : List Cond := k2_sels lw_privs ++ tables_1
theorem lw_privs_ok : ∀ q ∈ lw_privs, lw_okq q := by
  show ∀ q ∈ lw_privs_1 ++ (lw_privs_2 ++ (lw_privs_3 ++ (lw_privs_4 ++ (lw_privs_5)))), lw_okq q
  exact List.forall_mem_append.mpr ⟨lw_r1, List.forall_mem_append.mpr ⟨lw_r2, List.forall_mem_append.mpr ⟨lw_r3, List.forall_mem_append.mpr ⟨lw_r4, lw_r5⟩⟩⟩⟩
-- ===== end of PART A; then your names; then what follows =====
/-! THE CLAIM OUT OF ONE WALK OF THE LAW'S BODY. Your part is whole_start (and what it stands on); all else here is the same for every law, but numbers. -/
def R_law : String := "CornerFrontsLaw"
def lw_P (b : Addr) (xs : List Int32) (args : Array Value) (s : State) : Prop := args = #[.ref b] ∧ s.IntsAt b xs ∧ xs.length ≤ 2560 ∧ (Jvm.Cond.and given_1 narrow_1).before args s = true
def lw_Q (_ : Array Value) (s : State) (o : Outcome) (t : State) : Prop := o = .returned (some (.int 1)) ∧ Framed s o t [] 600000 7302250
def lw_Z (below : List Frame) (a : Array Value) (s : State) : State → Prop := fun t => ∃ o, t.status = .running ∧ Ended t below o ∧ lw_Q a s o t
/-- the law's own end, with 1 on the stack, nothing written that was there before, its room as the claim has it -/
theorem lw_ret {p : Program} {l : Launch} {e : Env} {s : State} {m : MethodId} {below : List Frame} {meth : Method} {c : Code} {b : Nat} (hx : p.tables.exec = Jvm.exec) (hb : c.code = code) (hr : meth.sig.returnType = ret) (hlocks : meth.locks = false) {pc : Nat} {H : Heap} {ls : Array Slot} (hdg : decode code pc = .ok (.ireturn, 1)) : W p l e room_1 s m #[Value.ref b] below meth c H [] 600000 7302250 (lw_Z below #[Value.ref b] s) (F0 m pc ls [.int 1]) := by
  intro T hT X
  obtain ⟨fs, hret, hrun, hended, hW, hframe⟩ := X.leave (v := some (.int 1)) (hlocks := hlocks) (fun h => by rw [hr] at h; cases h)
  have hmeth' : T.vm.method? m = some meth := X.method'
  refine ⟨T.setFrames fs, ?_, .returned (some (.int 1)), hrun, hended, rfl, ⟨_, rfl⟩, hW, hframe⟩
  jvm_step X.here [X.here.top, hx, hb, hdg, hmeth', hr, ret, narrow_b1]
  (try refine ⟨rfl, ?_⟩); (try refine ⟨rfl, ?_⟩)
  first | (intro acts; rw [hret _ acts rfl rfl rfl]) | rw [hret _ _ rfl rfl rfl]
  exact Steps.refl _
/-- what holds at the law's entry: the machine, the code, the tables' words (any of lw_tbl by 'hts w (by decide +kernel)'), the script of L ints xs at the cell b, what the Statement gives of the start (any of its parts by flat_of_before) -/
def lw_At (p : Program) (s : State) (m : MethodId) (meth : Method) (c : Code) (b L : Nat) (xs : Nat → Int32) : Prop :=
  p.tables.exec = Jvm.exec ∧ c.code = code ∧ meth.sig.returnType = ret ∧ c.maxLocals = 4 ∧ s.vm.findClass R_law = some m.cls ∧ (∀ w ∈ lw_tbl, w.before #[Value.ref b] s = true) ∧ va_X b L xs s s.heap ∧ b < s.heap.size ∧ meth.locks = false ∧ (Jvm.Cond.and given_1 narrow_1).before #[Value.ref b] s = true
end
section
/-! tables of this claim, written by wip/whole/gen.py: classes, fields, links, methods, instructions -/
def RX0 : String := "CornerFronts$Front"
def TX0 : u_T := fun k => match k with
  | 0 => ("CornerFronts$Front", "kinds", "[I", true)
  | 1 => ("CornerFronts$Front", "places", "[I", true)
  | 2 => ("CornerFronts$Front", "ahead", "[I", true)
  | 3 => ("CornerFronts$Front", "size", "I", false)
  | _ => ("CornerFronts$Front", "crosses", "I", false)
def tyX0 : Nat → FieldType := fun k => match k with
  | 0 => .array .int
  | 1 => .array .int
  | 2 => .array .int
  | 3 => .int
  | _ => .int
def RX1 : String := "CornerFronts$Patch"
def TX1 : u_T := fun k => match k with
  | 0 => ("CornerFronts$Patch", "kinds", "[I", true)
  | 1 => ("CornerFronts$Patch", "places", "[I", true)
  | 2 => ("CornerFronts$Patch", "size", "I", false)
  | _ => ("CornerFronts$Patch", "gone", "I", false)
def tyX1 : Nat → FieldType := fun k => match k with
  | 0 => .array .int
  | 1 => .array .int
  | 2 => .int
  | _ => .int
def RX2 : String := "CornerFronts$Sheet"
def TX2 : u_T := fun k => match k with
  | 0 => ("CornerFronts$Sheet", "cells", "[I", true)
  | 1 => ("CornerFronts$Sheet", "lane", "I", false)
  | _ => ("CornerFronts$Sheet", "size", "I", false)
def tyX2 : Nat → FieldType := fun k => match k with
  | 0 => .array .int
  | 1 => .int
  | _ => .int
def RX3 : String := "CornerFronts$Switching"
def TX3 : u_T := fun k => match k with
  | 0 => ("CornerFronts$Switching", "of", "LCornerFronts$Front;", false)
  | 1 => ("CornerFronts$Switching", "mates", "[[I", true)
  | 2 => ("CornerFronts$Switching", "maySwitch", "[Z", true)
  | 3 => ("CornerFronts$Switching", "foundBySwitched", "[I", true)
  | 4 => ("CornerFronts$Switching", "oneIsEnough", "Z", false)
  | 5 => ("CornerFronts$Switching", "found", "I", false)
  | _ => ("CornerFronts$Switching", "firstSwitched", "I", false)
def tyX3 : Nat → FieldType := fun k => match k with
  | 0 => .object "CornerFronts$Front"
  | 1 => .array (.array .int)
  | 2 => .array .boolean
  | 3 => .array .int
  | 4 => .boolean
  | 5 => .int
  | _ => .int
def RX4 : String := "CornerFronts$Tape"
def TX4 : u_T := fun k => match k with
  | 0 => ("CornerFronts$Tape", "bytes", "[B", true)
  | 1 => ("CornerFronts$Tape", "length", "I", false)
  | 2 => ("CornerFronts$Tape", "at", "I", false)
  | 3 => ("CornerFronts$Tape", "token", "I", false)
  | 4 => ("CornerFronts$Tape", "tokenPlace", "I", false)
  | _ => ("CornerFronts$Tape", "tokenValue", "I", false)
def tyX4 : Nat → FieldType := fun k => match k with
  | 0 => .array .byte
  | 1 => .int
  | 2 => .int
  | 3 => .int
  | 4 => .int
  | _ => .int
def RX5 : String := "CornerFronts$Ways"
def TX5 : u_T := fun k => match k with
  | 0 => ("CornerFronts$Ways", "of", "LCornerFronts$Front;", false)
  | 1 => ("CornerFronts$Ways", "arcs", "[[I", true)
  | 2 => ("CornerFronts$Ways", "birthOf", "[I", true)
  | 3 => ("CornerFronts$Ways", "endMate", "[I", true)
  | 4 => ("CornerFronts$Ways", "endsAbove", "[Z", true)
  | 5 => ("CornerFronts$Ways", "pieceOf", "[I", true)
  | 6 => ("CornerFronts$Ways", "goesRight", "[Z", true)
  | 7 => ("CornerFronts$Ways", "level", "[I", true)
  | 8 => ("CornerFronts$Ways", "arcCount", "I", false)
  | 9 => ("CornerFronts$Ways", "pieces", "I", false)
  | 10 => ("CornerFronts$Ways", "firstBirths", "[I", true)
  | 11 => ("CornerFronts$Ways", "downs", "[I", true)
  | _ => ("CornerFronts$Ways", "ups", "[I", true)
def tyX5 : Nat → FieldType := fun k => match k with
  | 0 => .object "CornerFronts$Front"
  | 1 => .array (.array .int)
  | 2 => .array .int
  | 3 => .array .int
  | 4 => .array .boolean
  | 5 => .array .int
  | 6 => .array .boolean
  | 7 => .array .int
  | 8 => .int
  | 9 => .int
  | 10 => .array .int
  | 11 => .array .int
  | _ => .array .int
def RX6 : String := "CornerFronts"
def TX6 : u_T := fun k => match k with
  | 0 => ("CornerFronts", "tape", "LCornerFronts$Tape;", true)
  | 1 => ("CornerFronts", "sheets", "[LCornerFronts$Sheet;", true)
  | 2 => ("CornerFronts", "fronts", "[LCornerFronts$Front;", true)
  | 3 => ("CornerFronts", "draft", "LCornerFronts$Front;", true)
  | 4 => ("CornerFronts", "patch", "LCornerFronts$Patch;", true)
  | 5 => ("CornerFronts", "ways", "LCornerFronts$Ways;", true)
  | 6 => ("CornerFronts", "switching", "LCornerFronts$Switching;", true)
  | 7 => ("CornerFronts", "frontCount", "I", false)
  | _ => ("CornerFronts", "latestFault", "I", false)
def tyX6 : Nat → FieldType := fun k => match k with
  | 0 => .object "CornerFronts$Tape"
  | 1 => .array (.object "CornerFronts$Sheet")
  | 2 => .array (.object "CornerFronts$Front")
  | 3 => .object "CornerFronts$Front"
  | 4 => .object "CornerFronts$Patch"
  | 5 => .object "CornerFronts$Ways"
  | 6 => .object "CornerFronts$Switching"
  | 7 => .int
  | _ => .int
def RX7 : String := "CornerFrontsModel"
def TX7 : u_T := fun k => match k with
  | 0 => ("CornerFrontsModel", "fronts", "I", false)
  | 1 => ("CornerFrontsModel", "many", "[I", true)
  | 2 => ("CornerFrontsModel", "kinds", "[I", true)
  | 3 => ("CornerFrontsModel", "numbers", "[I", true)
  | 4 => ("CornerFrontsModel", "newMany", "I", false)
  | 5 => ("CornerFrontsModel", "newKind", "[I", true)
  | 6 => ("CornerFrontsModel", "newNumber", "[I", true)
  | 7 => ("CornerFrontsModel", "tape", "[I", true)
  | 8 => ("CornerFrontsModel", "taped", "I", false)
  | 9 => ("CornerFrontsModel", "fault", "I", false)
  | 10 => ("CornerFrontsModel", "wrong", "I", false)
  | 11 => ("CornerFrontsModel", "wrongAt", "I", false)
  | 12 => ("CornerFrontsModel", "at", "I", false)
  | 13 => ("CornerFrontsModel", "place", "I", false)
  | 14 => ("CornerFrontsModel", "token", "I", false)
  | 15 => ("CornerFrontsModel", "value", "I", false)
  | 16 => ("CornerFrontsModel", "strands", "I", false)
  | 17 => ("CornerFrontsModel", "crosses", "I", false)
  | 18 => ("CornerFrontsModel", "lanes", "[I", true)
  | 19 => ("CornerFrontsModel", "lengths", "[I", true)
  | 20 => ("CornerFrontsModel", "cells", "[I", true)
  | 21 => ("CornerFrontsModel", "pieceOf", "[I", true)
  | 22 => ("CornerFrontsModel", "wayOf", "[I", true)
  | 23 => ("CornerFrontsModel", "levelOf", "[I", true)
  | 24 => ("CornerFrontsModel", "pieces", "I", false)
  | 25 => ("CornerFrontsModel", "firstBirth", "[I", true)
  | 26 => ("CornerFrontsModel", "ups", "[I", true)
  | 27 => ("CornerFrontsModel", "downs", "[I", true)
  | 28 => ("CornerFrontsModel", "mate", "[I", true)
  | _ => ("CornerFrontsModel", "mayBe", "[Z", true)
def tyX7 : Nat → FieldType := fun k => match k with
  | 0 => .int
  | 1 => .array .int
  | 2 => .array .int
  | 3 => .array .int
  | 4 => .int
  | 5 => .array .int
  | 6 => .array .int
  | 7 => .array .int
  | 8 => .int
  | 9 => .int
  | 10 => .int
  | 11 => .int
  | 12 => .int
  | 13 => .int
  | 14 => .int
  | 15 => .int
  | 16 => .int
  | 17 => .int
  | 18 => .array .int
  | 19 => .array .int
  | 20 => .array .int
  | 21 => .array .int
  | 22 => .array .int
  | 23 => .array .int
  | 24 => .int
  | 25 => .array .int
  | 26 => .array .int
  | 27 => .array .int
  | 28 => .array .int
  | _ => .array .boolean
abbrev vwCl : List vw_C := [(RX0, TX0, 5), (RX1, TX1, 4), (RX2, TX2, 3), (RX3, TX3, 7), (RX4, TX4, 6), (RX5, TX5, 13), (RX6, TX6, 9), (RX7, TX7, 30)]
def tyCl (c : Nat) : Nat → FieldType := match c with
  | 0 => tyX0
  | 1 => tyX1
  | 2 => tyX2
  | 3 => tyX3
  | 4 => tyX4
  | 5 => tyX5
  | 6 => tyX6
  | _ => tyX7
def mOwn (n : Nat) : String := match n with
  | 0 => "CornerFronts$Front"
  | 1 => "CornerFronts$Patch"
  | 2 => "CornerFronts$Sheet"
  | 3 => "CornerFronts$Switching"
  | 4 => "CornerFronts$Tape"
  | 5 => "CornerFronts$Ways"
  | 6 => "CornerFronts"
  | 7 => "CornerFrontsModel"
  | 8 => "CornerFrontsLaw"
  | _ => "java/lang/Integer"
/-- class, pool number, class of the field, its slot, 1 for a nest mate, place in lw_tbl -/
def rTabF : List (Nat × Nat × Nat × Nat × Nat × Nat) := [(0, 9, 0, 0, 0, 139), (0, 15, 0, 1, 0, 144), (0, 18, 0, 2, 0, 149), (0, 21, 0, 3, 0, 154), (0, 25, 0, 4, 0, 159), (0, 49, 1, 2, 0, 184), (0, 52, 1, 0, 0, 180), (0, 53, 1, 1, 0, 182), (1, 11, 1, 0, 0, 179), (1, 15, 1, 1, 0, 181), (1, 18, 1, 2, 0, 183), (1, 22, 1, 3, 0, 185), (1, 45, 0, 3, 0, 157), (1, 48, 0, 0, 0, 142), (1, 49, 0, 1, 0, 146), (1, 74, 0, 2, 0, 153), (2, 9, 2, 0, 0, 290), (2, 15, 2, 1, 0, 291), (2, 19, 2, 2, 0, 293), (3, 12, 3, 0, 0, 261), (3, 20, 3, 1, 0, 262), (3, 23, 3, 2, 0, 263), (3, 27, 3, 3, 0, 264), (3, 31, 3, 4, 0, 265), (3, 35, 3, 5, 0, 266), (3, 39, 3, 6, 0, 268), (3, 50, 5, 0, 1, 207), (3, 53, 0, 3, 0, 156), (3, 56, 0, 0, 0, 141), (3, 75, 0, 1, 0, 147), (3, 109, 0, 2, 0, 151), (4, 9, 4, 0, 0, 108), (4, 15, 4, 1, 0, 109), (4, 19, 4, 2, 0, 111), (4, 22, 4, 3, 0, 112), (4, 25, 4, 4, 0, 113), (4, 28, 4, 5, 0, 115), (5, 12, 5, 0, 0, 206), (5, 20, 5, 1, 0, 208), (5, 23, 5, 2, 0, 209), (5, 27, 5, 3, 0, 210), (5, 30, 5, 4, 0, 211), (5, 34, 5, 5, 0, 212), (5, 37, 5, 6, 0, 213), (5, 40, 5, 7, 0, 214), (5, 43, 5, 8, 0, 215), (5, 47, 5, 9, 0, 216), (5, 50, 5, 10, 0, 218), (5, 53, 5, 11, 0, 220), (5, 56, 5, 12, 0, 222), (5, 66, 0, 3, 0, 155), (5, 69, 0, 1, 0, 145), (5, 72, 0, 2, 0, 150), (5, 75, 0, 0, 0, 140), (6, 12, 6, 0, 0, 302), (6, 18, 6, 1, 0, 303), (6, 24, 6, 2, 0, 304), (6, 29, 6, 3, 0, 305), (6, 36, 6, 4, 0, 306), (6, 43, 6, 5, 0, 307), (6, 50, 6, 6, 0, 308), (6, 54, 6, 7, 0, 309), (6, 58, 6, 8, 0, 310), (6, 62, 4, 1, 0, 110), (6, 77, 4, 4, 0, 114), (6, 109, 0, 0, 0, 143), (6, 113, 0, 1, 0, 148), (6, 116, 0, 2, 0, 152), (6, 119, 0, 3, 0, 158), (6, 122, 0, 4, 0, 160), (6, 129, 5, 9, 0, 217), (6, 154, 5, 11, 0, 221), (6, 157, 5, 12, 0, 223), (6, 160, 5, 10, 0, 219), (6, 185, 3, 5, 0, 267), (6, 194, 3, 6, 0, 269), (6, 219, 2, 1, 0, 292), (6, 222, 2, 2, 0, 294), (6, 230, 1, 3, 0, 186), (7, 7, 7, 1, 0, 866), (7, 13, 7, 2, 0, 867), (7, 16, 7, 3, 0, 868), (7, 19, 7, 5, 0, 870), (7, 22, 7, 6, 0, 871), (7, 25, 7, 7, 0, 872), (7, 28, 7, 18, 0, 883), (7, 31, 7, 19, 0, 884), (7, 34, 7, 20, 0, 885), (7, 37, 7, 21, 0, 886), (7, 40, 7, 22, 0, 887), (7, 43, 7, 23, 0, 888), (7, 46, 7, 25, 0, 890), (7, 49, 7, 26, 0, 891), (7, 52, 7, 27, 0, 892), (7, 55, 7, 28, 0, 893), (7, 58, 7, 29, 0, 894), (7, 62, 7, 0, 0, 865), (7, 74, 7, 4, 0, 869), (7, 89, 7, 8, 0, 873), (7, 92, 7, 10, 0, 875), (7, 95, 7, 13, 0, 878), (7, 98, 7, 11, 0, 876), (7, 101, 7, 12, 0, 877), (7, 107, 7, 14, 0, 879), (7, 110, 7, 15, 0, 880), (7, 120, 7, 17, 0, 882), (7, 123, 7, 16, 0, 881), (7, 142, 7, 9, 0, 874), (7, 166, 7, 24, 0, 889)]
/-- class, pool number, number of the method, 1 for a nest mate, place in lw_tbl -/
def rTabM : List (Nat × Nat × Nat × Nat × Nat) := [(0, 34, 4, 0, 477), (0, 38, 5, 0, 478), (0, 42, 11, 0, 482), (0, 46, 6, 0, 813), (1, 25, 14, 0, 773), (1, 29, 17, 0, 764), (1, 33, 18, 0, 777), (1, 36, 19, 0, 792), (1, 39, 20, 0, 796), (1, 42, 21, 0, 800), (1, 50, 13, 0, 768), (1, 54, 11, 0, 772), (1, 58, 22, 0, 781), (1, 62, 23, 0, 784), (1, 65, 15, 0, 788), (1, 77, 26, 0, 834), (1, 81, 27, 0, 838), (2, 22, 31, 0, 522), (2, 26, 1, 0, 534), (2, 31, 6, 0, 535), (2, 35, 3, 0, 536), (3, 11, 0, 1, 259), (3, 42, 37, 0, 694), (3, 46, 39, 0, 703), (3, 59, 38, 0, 698), (3, 63, 68, 0, 701), (3, 67, 75, 0, 702), (3, 71, 42, 0, 707), (3, 78, 43, 0, 717), (3, 82, 40, 0, 721), (3, 85, 41, 0, 729), (3, 88, 44, 0, 725), (3, 91, 45, 0, 733), (3, 94, 46, 0, 738), (3, 104, 175, 0, 711), (4, 31, 1, 0, 350), (4, 36, 52, 0, 354), (4, 39, 3, 0, 457), (4, 43, 50, 0, 461), (4, 47, 51, 0, 465), (4, 51, 4, 0, 469), (4, 55, 6, 0, 473), (4, 59, 55, 0, 358), (4, 62, 54, 0, 362), (4, 65, 53, 0, 366), (5, 11, 0, 1, 203), (5, 59, 58, 0, 569), (5, 62, 61, 0, 582), (5, 84, 59, 0, 574), (5, 88, 60, 0, 578), (5, 92, 62, 0, 586), (5, 96, 63, 0, 590), (5, 100, 66, 0, 607), (5, 104, 67, 0, 611), (5, 107, 68, 0, 603), (5, 111, 72, 0, 635), (5, 115, 74, 0, 672), (6, 11, 47, 1, 104), (6, 28, 0, 1, 135), (6, 35, 12, 1, 175), (6, 42, 56, 1, 198), (6, 49, 33, 1, 254), (6, 61, 28, 1, 286), (6, 65, 48, 0, 334), (6, 69, 49, 0, 346), (6, 73, 109, 0, 485), (6, 80, 104, 0, 504), (6, 84, 105, 0, 507), (6, 87, 29, 0, 510), (6, 91, 30, 0, 518), (6, 95, 32, 0, 530), (6, 98, 101, 0, 541), (6, 101, 2, 0, 489), (6, 105, 102, 0, 553), (6, 125, 108, 0, 561), (6, 132, 9, 0, 594), (6, 135, 69, 0, 599), (6, 138, 65, 0, 619), (6, 141, 64, 0, 627), (6, 144, 70, 0, 631), (6, 148, 73, 0, 639), (6, 151, 74, 0, 643), (6, 163, 71, 0, 651), (6, 166, 103, 0, 659), (6, 169, 68, 0, 663), (6, 172, 75, 0, 668), (6, 175, 106, 0, 683), (6, 178, 107, 0, 686), (6, 181, 34, 0, 690), (6, 188, 36, 0, 744), (6, 191, 35, 0, 752), (6, 197, 16, 0, 760), (6, 201, 110, 0, 804), (6, 204, 24, 0, 822), (6, 207, 25, 0, 830), (6, 210, 1, 0, 808), (6, 213, 7, 0, 809), (6, 216, 10, 0, 850), (6, 223, 57, 0, 565), (6, 226, 8, 0, 814), (7, 66, 112, 0, 964), (7, 70, 113, 0, 1039), (7, 77, 115, 0, 1001), (7, 81, 117, 0, 1012), (7, 85, 119, 0, 1005), (7, 104, 124, 0, 979), (7, 117, 125, 0, 985), (7, 126, 130, 0, 971), (7, 129, 126, 0, 975), (7, 132, 127, 0, 989), (7, 135, 128, 0, 993), (7, 139, 129, 0, 997), (7, 145, 118, 0, 1008), (7, 155, 116, 0, 1043), (7, 159, 114, 0, 1055), (7, 162, 120, 0, 1059), (7, 169, 140, 0, 1072), (7, 174, 139, 0, 1068), (7, 177, 141, 0, 1076), (7, 180, 121, 0, 1080), (7, 185, 144, 0, 1093), (7, 189, 147, 0, 1105), (7, 192, 149, 0, 1113), (7, 195, 152, 0, 1141), (7, 199, 154, 0, 1129), (7, 202, 155, 0, 1133), (7, 205, 153, 0, 1137), (7, 209, 151, 0, 1121), (7, 212, 156, 0, 1125), (7, 215, 159, 0, 1156), (7, 218, 160, 0, 1160), (7, 221, 162, 0, 1164), (7, 224, 161, 0, 1172), (7, 228, 163, 0, 1152), (7, 231, 164, 0, 1168), (7, 234, 165, 0, 1176), (7, 237, 166, 0, 1180), (7, 240, 167, 0, 1184), (8, 9, 76, 0, 96), (8, 12, 111, 0, 861), (8, 15, 77, 0, 330), (8, 19, 122, 0, 956), (8, 20, 78, 0, 338), (8, 24, 123, 0, 960), (8, 25, 79, 0, 342), (8, 29, 131, 0, 967), (8, 30, 80, 0, 496), (8, 33, 132, 0, 1016), (8, 34, 81, 0, 500), (8, 38, 133, 0, 1020), (8, 39, 82, 0, 514), (8, 42, 134, 0, 1026), (8, 43, 83, 0, 526), (8, 47, 135, 0, 1030), (8, 48, 84, 0, 537), (8, 51, 136, 0, 1035), (8, 52, 85, 0, 545), (8, 55, 137, 0, 1047), (8, 56, 86, 0, 549), (8, 59, 138, 0, 1051), (8, 60, 87, 0, 557), (8, 64, 142, 0, 1063), (8, 65, 88, 0, 615), (8, 68, 143, 0, 1084), (8, 69, 89, 0, 623), (8, 72, 145, 0, 1088), (8, 73, 90, 0, 647), (8, 76, 146, 0, 1097), (8, 77, 91, 0, 655), (8, 80, 148, 0, 1101), (8, 81, 92, 0, 664), (8, 84, 150, 0, 1109), (8, 85, 93, 0, 679), (8, 88, 157, 0, 1117), (8, 89, 94, 0, 748), (8, 92, 158, 0, 1144), (8, 93, 95, 0, 756), (8, 96, 168, 0, 1148), (8, 97, 96, 0, 818), (8, 100, 169, 0, 1188), (8, 101, 97, 0, 826), (8, 104, 170, 0, 1192), (8, 105, 98, 0, 842), (8, 108, 171, 0, 1196), (8, 109, 99, 0, 846), (8, 112, 172, 0, 1200), (8, 113, 100, 0, 855), (8, 116, 173, 0, 1204)]
/-- class, pool number, 1001 Object.<init> or 1000 arraycopy, place in lw_tbl -/
def rTabS : List (Nat × Nat × Nat × Nat) := [(0, 3, 1001, 138), (0, 28, 1000, 493), (0, 54, 1010, 598), (0, 60, 1011, 854), (1, 3, 1001, 178), (1, 69, 1012, 787), (2, 3, 1001, 289), (3, 3, 1001, 257), (3, 98, 1000, 737), (3, 112, 1011, 742), (3, 118, 1010, 743), (4, 3, 1001, 107), (5, 3, 1001, 201), (5, 78, 1000, 573), (5, 118, 1012, 673), (5, 123, 1013, 676), (6, 3, 1001, 99), (7, 1, 1001, 864)]
def posS : List Nat := [100, 101, 495, 494, 92]
def posMt : List Nat := [400, 401, 403, 404, 674, 675, 88]
def rTabL : List (Nat × Nat × Int64 × Nat) := [(7, 113, 48, 983), (7, 115, 57, 984), (7, 149, 3, 1024), (7, 151, 2, 1025), (7, 153, 30, 1034), (7, 172, 5, 1067), (7, 183, 4, 1092), (8, 13, 4294967295, 1208)]
def rTabI : List (Nat × Nat × Int32 × Nat) := [(9, 265, 1431655765, 714), (9, 266, 858993459, 715), (9, 267, 252645135, 716)]
/-- instruction, next place, two numbers, a kind, constants -/
abbrev mE : Type := Instr × Nat × Nat × Nat × Nat × Int32 × Int64
/-- class number, name, code, locals, answer, instructions -/
abbrev mI : Type := Nat × MethodName × ByteArray × Nat × Option FieldType × List (Nat × mE)
def oX0_init : List (Nat × mE) := [(0, .aload_n 0, 1, 0, 0, 0, 0, 0),
  (1, .invokespecial 3, 4, 1001, 0, 0, 0, 0),
  (4, .aload_n 0, 5, 0, 0, 0, 0, 0),
  (5, .bipush 30, 7, 0, 0, 0, (30), 0),
  (7, .newarray .int, 9, 0, 0, 0, 0, 0),
  (9, .putfield 9, 12, 0, 0, 2, 0, 0),
  (12, .aload_n 0, 13, 0, 0, 0, 0, 0),
  (13, .bipush 30, 15, 0, 0, 0, (30), 0),
  (15, .newarray .int, 17, 0, 0, 0, 0, 0),
  (17, .putfield 15, 20, 0, 1, 2, 0, 0),
  (20, .aload_n 0, 21, 0, 0, 0, 0, 0),
  (21, .bipush 31, 23, 0, 0, 0, (31), 0),
  (23, .newarray .int, 25, 0, 0, 0, 0, 0),
  (25, .putfield 18, 28, 0, 2, 2, 0, 0),
  (28, .aload_n 0, 29, 0, 0, 0, 0, 0),
  (29, .iconst 0, 30, 0, 0, 0, (0), 0),
  (30, .putfield 21, 33, 0, 3, 0, 0, 0),
  (33, .aload_n 0, 34, 0, 0, 0, 0, 0),
  (34, .iconst 0, 35, 0, 0, 0, (0), 0),
  (35, .putfield 25, 38, 0, 4, 0, 0, 0),
  (38, .return_, 39, 0, 0, 0, 0, 0)]
def MX0_init : mI := (0, ⟨"CornerFronts$Front", "<init>", "()V"⟩, prog_2_method_1_code, 1, none, oX0_init)
def oX0_clear : List (Nat × mE) := [(0, .aload_n 0, 1, 0, 0, 0, 0, 0),
  (1, .iconst 0, 2, 0, 0, 0, (0), 0),
  (2, .putfield 21, 5, 0, 3, 0, 0, 0),
  (5, .aload_n 0, 6, 0, 0, 0, 0, 0),
  (6, .iconst 0, 7, 0, 0, 0, (0), 0),
  (7, .putfield 25, 10, 0, 4, 0, 0, 0),
  (10, .aload_n 0, 11, 0, 0, 0, 0, 0),
  (11, .getfield 18, 14, 0, 2, 0, 0, 0),
  (14, .iconst 0, 15, 0, 0, 0, (0), 0),
  (15, .iconst 0, 16, 0, 0, 0, (0), 0),
  (16, .iastore, 17, 0, 0, 0, 0, 0),
  (17, .return_, 18, 0, 0, 0, 0, 0)]
def MX0_clear : mI := (0, ⟨"CornerFronts$Front", "clear", "()V"⟩, prog_2_method_2_code, 1, none, oX0_clear)
def oX0_become : List (Nat × mE) := [(0, .aload_n 1, 1, 1, 0, 0, 0, 0),
  (1, .getfield 9, 4, 0, 0, 0, 0, 0),
  (4, .iconst 0, 5, 0, 0, 0, (0), 0),
  (5, .aload_n 0, 6, 0, 0, 0, 0, 0),
  (6, .getfield 9, 9, 0, 0, 0, 0, 0),
  (9, .iconst 0, 10, 0, 0, 0, (0), 0),
  (10, .bipush 30, 12, 0, 0, 0, (30), 0),
  (12, .invokestatic 28, 15, 1000, 0, 0, 0, 0),
  (15, .aload_n 1, 16, 1, 0, 0, 0, 0),
  (16, .getfield 15, 19, 0, 1, 0, 0, 0),
  (19, .iconst 0, 20, 0, 0, 0, (0), 0),
  (20, .aload_n 0, 21, 0, 0, 0, 0, 0),
  (21, .getfield 15, 24, 0, 1, 0, 0, 0),
  (24, .iconst 0, 25, 0, 0, 0, (0), 0),
  (25, .bipush 30, 27, 0, 0, 0, (30), 0),
  (27, .invokestatic 28, 30, 1000, 0, 0, 0, 0),
  (30, .aload_n 1, 31, 1, 0, 0, 0, 0),
  (31, .getfield 18, 34, 0, 2, 0, 0, 0),
  (34, .iconst 0, 35, 0, 0, 0, (0), 0),
  (35, .aload_n 0, 36, 0, 0, 0, 0, 0),
  (36, .getfield 18, 39, 0, 2, 0, 0, 0),
  (39, .iconst 0, 40, 0, 0, 0, (0), 0),
  (40, .bipush 31, 42, 0, 0, 0, (31), 0),
  (42, .invokestatic 28, 45, 1000, 0, 0, 0, 0),
  (45, .aload_n 0, 46, 0, 0, 0, 0, 0),
  (46, .aload_n 1, 47, 1, 0, 0, 0, 0),
  (47, .getfield 21, 50, 0, 3, 0, 0, 0),
  (50, .putfield 21, 53, 0, 3, 0, 0, 0),
  (53, .aload_n 0, 54, 0, 0, 0, 0, 0),
  (54, .aload_n 1, 55, 1, 0, 0, 0, 0),
  (55, .getfield 25, 58, 0, 4, 0, 0, 0),
  (58, .putfield 25, 61, 0, 4, 0, 0, 0),
  (61, .return_, 62, 0, 0, 0, 0, 0)]
def MX0_become : mI := (0, ⟨"CornerFronts$Front", "become", "(LCornerFronts$Front;)V"⟩, prog_2_method_3_code, 2, none, oX0_become)
def oX0_isWhole : List (Nat × mE) := [(0, .aload_n 0, 1, 0, 0, 0, 0, 0),
  (1, .getfield 21, 4, 0, 3, 0, 0, 0),
  (4, .ifCond .le 19, 7, 23, 0, 0, 0, 0),
  (7, .aload_n 0, 8, 0, 0, 0, 0, 0),
  (8, .getfield 18, 11, 0, 2, 0, 0, 0),
  (11, .aload_n 0, 12, 0, 0, 0, 0, 0),
  (12, .getfield 21, 15, 0, 3, 0, 0, 0),
  (15, .iaload, 16, 0, 0, 0, 0, 0),
  (16, .ifCond .ne 7, 19, 23, 0, 0, 0, 0),
  (19, .iconst 1, 20, 0, 0, 0, (1), 0),
  (20, .goto 4, 23, 24, 0, 0, 0, 0),
  (23, .iconst 0, 24, 0, 0, 0, (0), 0),
  (24, .ireturn, 25, 0, 0, 1, 0, 0)]
def MX0_isWhole : mI := (0, ⟨"CornerFronts$Front", "isWhole", "()Z"⟩, prog_2_method_4_code, 1, (some (.boolean)), oX0_isWhole)
def oX0_hasRoomFor : List (Nat × mE) := [(0, .aload_n 0, 1, 0, 0, 0, 0, 0),
  (1, .getfield 21, 4, 0, 3, 0, 0, 0),
  (4, .bipush 30, 6, 0, 0, 0, (30), 0),
  (6, .if_icmp .lt 5, 9, 11, 0, 0, 0, 0),
  (9, .iconst 0, 10, 0, 0, 0, (0), 0),
  (10, .ireturn, 11, 0, 0, 1, 0, 0),
  (11, .iload_n 1, 12, 1, 0, 0, 0, 0),
  (12, .iconst 1, 13, 0, 0, 0, (1), 0),
  (13, .if_icmp .ne 18, 16, 31, 0, 0, 0, 0),
  (16, .aload_n 0, 17, 0, 0, 0, 0, 0),
  (17, .getfield 25, 20, 0, 4, 0, 0, 0),
  (20, .bipush 12, 22, 0, 0, 0, (12), 0),
  (22, .if_icmp .ge 7, 25, 29, 0, 0, 0, 0),
  (25, .iconst 1, 26, 0, 0, 0, (1), 0),
  (26, .goto 4, 29, 30, 0, 0, 0, 0),
  (29, .iconst 0, 30, 0, 0, 0, (0), 0),
  (30, .ireturn, 31, 0, 0, 1, 0, 0),
  (31, .iload_n 1, 32, 1, 0, 0, 0, 0),
  (32, .ifCond .ne 19, 35, 51, 0, 0, 0, 0),
  (35, .aload_n 0, 36, 0, 0, 0, 0, 0),
  (36, .getfield 18, 39, 0, 2, 0, 0, 0),
  (39, .aload_n 0, 40, 0, 0, 0, 0, 0),
  (40, .getfield 21, 43, 0, 3, 0, 0, 0),
  (43, .iaload, 44, 0, 0, 0, 0, 0),
  (44, .iconst 2, 45, 0, 0, 0, (2), 0),
  (45, .iadd, 46, 0, 0, 0, 0, 0),
  (46, .bipush 10, 48, 0, 0, 0, (10), 0),
  (48, .if_icmp .gt 7, 51, 55, 0, 0, 0, 0),
  (51, .iconst 1, 52, 0, 0, 0, (1), 0),
  (52, .goto 4, 55, 56, 0, 0, 0, 0),
  (55, .iconst 0, 56, 0, 0, 0, (0), 0),
  (56, .ireturn, 57, 0, 0, 1, 0, 0)]
def MX0_hasRoomFor : mI := (0, ⟨"CornerFronts$Front", "hasRoomFor", "(I)Z"⟩, prog_2_method_5_code, 2, (some (.boolean)), oX0_hasRoomFor)
def oX0_hasStrandsFor : List (Nat × mE) := [(0, .iload_n 1, 1, 1, 0, 0, 0, 0),
  (1, .ifCond .ne 15, 4, 16, 0, 0, 0, 0),
  (4, .aload_n 0, 5, 0, 0, 0, 0, 0),
  (5, .getfield 18, 8, 0, 2, 0, 0, 0),
  (8, .aload_n 0, 9, 0, 0, 0, 0, 0),
  (9, .getfield 21, 12, 0, 3, 0, 0, 0),
  (12, .iaload, 13, 0, 0, 0, 0, 0),
  (13, .goto 14, 16, 27, 0, 0, 0, 0),
  (16, .aload_n 0, 17, 0, 0, 0, 0, 0),
  (17, .getfield 18, 20, 0, 2, 0, 0, 0),
  (20, .aload_n 0, 21, 0, 0, 0, 0, 0),
  (21, .getfield 21, 24, 0, 3, 0, 0, 0),
  (24, .iaload, 25, 0, 0, 0, 0, 0),
  (25, .iconst 2, 26, 0, 0, 0, (2), 0),
  (26, .isub, 27, 0, 0, 0, 0, 0),
  (27, .istore_n 3, 28, 3, 0, 0, 0, 0),
  (28, .iload_n 2, 29, 2, 0, 0, 0, 0),
  (29, .ifCond .lt 12, 32, 41, 0, 0, 0, 0),
  (32, .iload_n 2, 33, 2, 0, 0, 0, 0),
  (33, .iload_n 3, 34, 3, 0, 0, 0, 0),
  (34, .if_icmp .gt 7, 37, 41, 0, 0, 0, 0),
  (37, .iconst 1, 38, 0, 0, 0, (1), 0),
  (38, .goto 4, 41, 42, 0, 0, 0, 0),
  (41, .iconst 0, 42, 0, 0, 0, (0), 0),
  (42, .ireturn, 43, 0, 0, 1, 0, 0)]
def MX0_hasStrandsFor : mI := (0, ⟨"CornerFronts$Front", "hasStrandsFor", "(II)Z"⟩, prog_2_method_6_code, 4, (some (.boolean)), oX0_hasStrandsFor)
def oX0_append : List (Nat × mE) := [(0, .iload_n 1, 1, 1, 0, 0, 0, 0),
  (1, .ifCond .lt 25, 4, 26, 0, 0, 0, 0),
  (4, .iload_n 1, 5, 1, 0, 0, 0, 0),
  (5, .iconst 2, 6, 0, 0, 0, (2), 0),
  (6, .if_icmp .gt 20, 9, 26, 0, 0, 0, 0),
  (9, .aload_n 0, 10, 0, 0, 0, 0, 0),
  (10, .iload_n 1, 11, 1, 0, 0, 0, 0),
  (11, .invokevirtual 34, 14, 4, 1, 0, 0, 0),
  (14, .ifCond .eq 12, 17, 26, 0, 0, 0, 0),
  (17, .aload_n 0, 18, 0, 0, 0, 0, 0),
  (18, .iload_n 1, 19, 1, 0, 0, 0, 0),
  (19, .iload_n 2, 20, 2, 0, 0, 0, 0),
  (20, .invokevirtual 38, 23, 5, 2, 0, 0, 0),
  (23, .ifCond .ne 5, 26, 28, 0, 0, 0, 0),
  (26, .iconst 0, 27, 0, 0, 0, (0), 0),
  (27, .ireturn, 28, 0, 0, 1, 0, 0),
  (28, .aload_n 0, 29, 0, 0, 0, 0, 0),
  (29, .getfield 9, 32, 0, 0, 0, 0, 0),
  (32, .aload_n 0, 33, 0, 0, 0, 0, 0),
  (33, .getfield 21, 36, 0, 3, 0, 0, 0),
  (36, .iload_n 1, 37, 1, 0, 0, 0, 0),
  (37, .iastore, 38, 0, 0, 0, 0, 0),
  (38, .aload_n 0, 39, 0, 0, 0, 0, 0),
  (39, .getfield 15, 42, 0, 1, 0, 0, 0),
  (42, .aload_n 0, 43, 0, 0, 0, 0, 0),
  (43, .getfield 21, 46, 0, 3, 0, 0, 0),
  (46, .iload_n 2, 47, 2, 0, 0, 0, 0),
  (47, .iastore, 48, 0, 0, 0, 0, 0),
  (48, .aload_n 0, 49, 0, 0, 0, 0, 0),
  (49, .getfield 18, 52, 0, 2, 0, 0, 0),
  (52, .aload_n 0, 53, 0, 0, 0, 0, 0),
  (53, .getfield 21, 56, 0, 3, 0, 0, 0),
  (56, .iconst 1, 57, 0, 0, 0, (1), 0),
  (57, .iadd, 58, 0, 0, 0, 0, 0),
  (58, .aload_n 0, 59, 0, 0, 0, 0, 0),
  (59, .getfield 18, 62, 0, 2, 0, 0, 0),
  (62, .aload_n 0, 63, 0, 0, 0, 0, 0),
  (63, .getfield 21, 66, 0, 3, 0, 0, 0),
  (66, .iaload, 67, 0, 0, 0, 0, 0),
  (67, .iload_n 1, 68, 1, 0, 0, 0, 0),
  (68, .invokestatic 42, 71, 11, 1, 0, 0, 0),
  (71, .iadd, 72, 0, 0, 0, 0, 0),
  (72, .iastore, 73, 0, 0, 0, 0, 0),
  (73, .aload_n 0, 74, 0, 0, 0, 0, 0),
  (74, .dup, 75, 0, 0, 0, 0, 0),
  (75, .getfield 25, 78, 0, 4, 0, 0, 0),
  (78, .iload_n 1, 79, 1, 0, 0, 0, 0),
  (79, .iconst 1, 80, 0, 0, 0, (1), 0),
  (80, .if_icmp .ne 7, 83, 87, 0, 0, 0, 0),
  (83, .iconst 1, 84, 0, 0, 0, (1), 0),
  (84, .goto 4, 87, 88, 0, 0, 0, 0),
  (87, .iconst 0, 88, 0, 0, 0, (0), 0),
  (88, .iadd, 89, 0, 0, 0, 0, 0),
  (89, .putfield 25, 92, 0, 4, 0, 0, 0),
  (92, .aload_n 0, 93, 0, 0, 0, 0, 0),
  (93, .dup, 94, 0, 0, 0, 0, 0),
  (94, .getfield 21, 97, 0, 3, 0, 0, 0),
  (97, .iconst 1, 98, 0, 0, 0, (1), 0),
  (98, .iadd, 99, 0, 0, 0, 0, 0),
  (99, .putfield 21, 102, 0, 3, 0, 0, 0),
  (102, .iconst 1, 103, 0, 0, 0, (1), 0),
  (103, .ireturn, 104, 0, 0, 1, 0, 0)]
def MX0_append : mI := (0, ⟨"CornerFronts$Front", "append", "(II)Z"⟩, prog_2_method_7_code, 3, (some (.boolean)), oX0_append)
def oX0_appendRange : List (Nat × mE) := [(0, .iload_n 2, 1, 2, 0, 0, 0, 0),
  (1, .istore 4, 3, 4, 0, 0, 0, 0),
  (3, .iload 4, 5, 4, 0, 0, 0, 0),
  (5, .iload_n 3, 6, 3, 0, 0, 0, 0),
  (6, .if_icmp .ge 32, 9, 38, 0, 0, 0, 0),
  (9, .aload_n 0, 10, 0, 0, 0, 0, 0),
  (10, .aload_n 1, 11, 1, 0, 0, 0, 0),
  (11, .getfield 9, 14, 0, 0, 0, 0, 0),
  (14, .iload 4, 16, 4, 0, 0, 0, 0),
  (16, .iaload, 17, 0, 0, 0, 0, 0),
  (17, .aload_n 1, 18, 1, 0, 0, 0, 0),
  (18, .getfield 15, 21, 0, 1, 0, 0, 0),
  (21, .iload 4, 23, 4, 0, 0, 0, 0),
  (23, .iaload, 24, 0, 0, 0, 0, 0),
  (24, .invokevirtual 46, 27, 6, 2, 0, 0, 0),
  (27, .ifCond .ne 5, 30, 32, 0, 0, 0, 0),
  (30, .iconst 0, 31, 0, 0, 0, (0), 0),
  (31, .ireturn, 32, 0, 0, 1, 0, 0),
  (32, .iinc 4 1, 35, 4, 0, 0, (1), 0),
  (35, .goto (-32), 38, 3, 0, 0, 0, 0),
  (38, .iconst 1, 39, 0, 0, 0, (1), 0),
  (39, .ireturn, 40, 0, 0, 1, 0, 0)]
def MX0_appendRange : mI := (0, ⟨"CornerFronts$Front", "appendRange", "(LCornerFronts$Front;II)Z"⟩, prog_2_method_8_code, 5, (some (.boolean)), oX0_appendRange)
def oX0_appendPatch : List (Nat × mE) := [(0, .iconst 0, 1, 0, 0, 0, (0), 0),
  (1, .istore_n 2, 2, 2, 0, 0, 0, 0),
  (2, .iload_n 2, 3, 2, 0, 0, 0, 0),
  (3, .aload_n 1, 4, 1, 0, 0, 0, 0),
  (4, .getfield 49, 7, 1, 2, 0, 0, 0),
  (7, .if_icmp .ge 30, 10, 37, 0, 0, 0, 0),
  (10, .aload_n 0, 11, 0, 0, 0, 0, 0),
  (11, .aload_n 1, 12, 1, 0, 0, 0, 0),
  (12, .getfield 52, 15, 1, 0, 0, 0, 0),
  (15, .iload_n 2, 16, 2, 0, 0, 0, 0),
  (16, .iaload, 17, 0, 0, 0, 0, 0),
  (17, .aload_n 1, 18, 1, 0, 0, 0, 0),
  (18, .getfield 53, 21, 1, 1, 0, 0, 0),
  (21, .iload_n 2, 22, 2, 0, 0, 0, 0),
  (22, .iaload, 23, 0, 0, 0, 0, 0),
  (23, .invokevirtual 46, 26, 6, 2, 0, 0, 0),
  (26, .ifCond .ne 5, 29, 31, 0, 0, 0, 0),
  (29, .iconst 0, 30, 0, 0, 0, (0), 0),
  (30, .ireturn, 31, 0, 0, 1, 0, 0),
  (31, .iinc 2 1, 34, 2, 0, 0, (1), 0),
  (34, .goto (-32), 37, 2, 0, 0, 0, 0),
  (37, .iconst 1, 38, 0, 0, 0, (1), 0),
  (38, .ireturn, 39, 0, 0, 1, 0, 0)]
def MX0_appendPatch : mI := (0, ⟨"CornerFronts$Front", "appendPatch", "(LCornerFronts$Patch;)Z"⟩, prog_2_method_9_code, 3, (some (.boolean)), oX0_appendPatch)
def oX0_mostStrands : List (Nat × mE) := [(0, .iconst 0, 1, 0, 0, 0, (0), 0),
  (1, .istore_n 1, 2, 1, 0, 0, 0, 0),
  (2, .iconst 0, 3, 0, 0, 0, (0), 0),
  (3, .istore_n 2, 4, 2, 0, 0, 0, 0),
  (4, .iload_n 2, 5, 2, 0, 0, 0, 0),
  (5, .aload_n 0, 6, 0, 0, 0, 0, 0),
  (6, .getfield 21, 9, 0, 3, 0, 0, 0),
  (9, .if_icmp .ge 20, 12, 29, 0, 0, 0, 0),
  (12, .iload_n 1, 13, 1, 0, 0, 0, 0),
  (13, .aload_n 0, 14, 0, 0, 0, 0, 0),
  (14, .getfield 18, 17, 0, 2, 0, 0, 0),
  (17, .iload_n 2, 18, 2, 0, 0, 0, 0),
  (18, .iaload, 19, 0, 0, 0, 0, 0),
  (19, .invokestatic 54, 22, 1010, 0, 0, 0, 0),
  (22, .istore_n 1, 23, 1, 0, 0, 0, 0),
  (23, .iinc 2 1, 26, 2, 0, 0, (1), 0),
  (26, .goto (-22), 29, 4, 0, 0, 0, 0),
  (29, .iload_n 1, 30, 1, 0, 0, 0, 0),
  (30, .ireturn, 31, 0, 0, 0, 0, 0)]
def MX0_mostStrands : mI := (0, ⟨"CornerFronts$Front", "mostStrands", "()I"⟩, prog_2_method_10_code, 3, (some (.int)), oX0_mostStrands)
def oX0_firstUnlike : List (Nat × mE) := [(0, .aload_n 0, 1, 0, 0, 0, 0, 0),
  (1, .getfield 21, 4, 0, 3, 0, 0, 0),
  (4, .aload_n 1, 5, 1, 0, 0, 0, 0),
  (5, .getfield 21, 8, 0, 3, 0, 0, 0),
  (8, .invokestatic 60, 11, 1011, 0, 0, 0, 0),
  (11, .istore_n 2, 12, 2, 0, 0, 0, 0),
  (12, .iconst 0, 13, 0, 0, 0, (0), 0),
  (13, .istore_n 3, 14, 3, 0, 0, 0, 0),
  (14, .iload_n 3, 15, 3, 0, 0, 0, 0),
  (15, .iload_n 2, 16, 2, 0, 0, 0, 0),
  (16, .if_icmp .ge 41, 19, 57, 0, 0, 0, 0),
  (19, .aload_n 0, 20, 0, 0, 0, 0, 0),
  (20, .getfield 9, 23, 0, 0, 0, 0, 0),
  (23, .iload_n 3, 24, 3, 0, 0, 0, 0),
  (24, .iaload, 25, 0, 0, 0, 0, 0),
  (25, .aload_n 1, 26, 1, 0, 0, 0, 0),
  (26, .getfield 9, 29, 0, 0, 0, 0, 0),
  (29, .iload_n 3, 30, 3, 0, 0, 0, 0),
  (30, .iaload, 31, 0, 0, 0, 0, 0),
  (31, .if_icmp .ne 18, 34, 49, 0, 0, 0, 0),
  (34, .aload_n 0, 35, 0, 0, 0, 0, 0),
  (35, .getfield 15, 38, 0, 1, 0, 0, 0),
  (38, .iload_n 3, 39, 3, 0, 0, 0, 0),
  (39, .iaload, 40, 0, 0, 0, 0, 0),
  (40, .aload_n 1, 41, 1, 0, 0, 0, 0),
  (41, .getfield 15, 44, 0, 1, 0, 0, 0),
  (44, .iload_n 3, 45, 3, 0, 0, 0, 0),
  (45, .iaload, 46, 0, 0, 0, 0, 0),
  (46, .if_icmp .eq 5, 49, 51, 0, 0, 0, 0),
  (49, .iload_n 3, 50, 3, 0, 0, 0, 0),
  (50, .ireturn, 51, 0, 0, 0, 0, 0),
  (51, .iinc 3 1, 54, 3, 0, 0, (1), 0),
  (54, .goto (-40), 57, 14, 0, 0, 0, 0),
  (57, .aload_n 0, 58, 0, 0, 0, 0, 0),
  (58, .getfield 21, 61, 0, 3, 0, 0, 0),
  (61, .aload_n 1, 62, 1, 0, 0, 0, 0),
  (62, .getfield 21, 65, 0, 3, 0, 0, 0),
  (65, .if_icmp .ne 8, 68, 73, 0, 0, 0, 0),
  (68, .bipush (-4), 70, 0, 0, 0, (-4), 0),
  (70, .goto 4, 73, 74, 0, 0, 0, 0),
  (73, .iload_n 2, 74, 2, 0, 0, 0, 0),
  (74, .ireturn, 75, 0, 0, 0, 0, 0)]
def MX0_firstUnlike : mI := (0, ⟨"CornerFronts$Front", "firstUnlike", "(LCornerFronts$Front;)I"⟩, prog_2_method_11_code, 4, (some (.int)), oX0_firstUnlike)
def oX0_strandsAdded : List (Nat × mE) := [(0, .iload_n 0, 1, 0, 0, 0, 0, 0),
  (1, .ifCond .ne 5, 4, 6, 0, 0, 0, 0),
  (4, .iconst 2, 5, 0, 0, 0, (2), 0),
  (5, .ireturn, 6, 0, 0, 0, 0, 0),
  (6, .iload_n 0, 7, 0, 0, 0, 0, 0),
  (7, .iconst 2, 8, 0, 0, 0, (2), 0),
  (8, .if_icmp .ne 8, 11, 16, 0, 0, 0, 0),
  (11, .bipush (-2), 13, 0, 0, 0, (-2), 0),
  (13, .goto 4, 16, 17, 0, 0, 0, 0),
  (16, .iconst 0, 17, 0, 0, 0, (0), 0),
  (17, .ireturn, 18, 0, 0, 0, 0, 0)]
def MX0_strandsAdded : mI := (0, ⟨"CornerFronts$Front", "strandsAdded", "(I)I"⟩, prog_2_method_12_code, 1, (some (.int)), oX0_strandsAdded)
def oX1_init : List (Nat × mE) := [(0, .aload_n 0, 1, 0, 0, 0, 0, 0),
  (1, .invokespecial 3, 4, 1001, 0, 0, 0, 0),
  (4, .aload_n 0, 5, 0, 0, 0, 0, 0),
  (5, .iconst 3, 6, 0, 0, 0, (3), 0),
  (6, .newarray .int, 8, 0, 0, 0, 0, 0),
  (8, .putfield 11, 11, 1, 0, 2, 0, 0),
  (11, .aload_n 0, 12, 0, 0, 0, 0, 0),
  (12, .iconst 3, 13, 0, 0, 0, (3), 0),
  (13, .newarray .int, 15, 0, 0, 0, 0, 0),
  (15, .putfield 15, 18, 1, 1, 2, 0, 0),
  (18, .aload_n 0, 19, 0, 0, 0, 0, 0),
  (19, .iconst 0, 20, 0, 0, 0, (0), 0),
  (20, .putfield 18, 23, 1, 2, 0, 0, 0),
  (23, .aload_n 0, 24, 0, 0, 0, 0, 0),
  (24, .iconst 0, 25, 0, 0, 0, (0), 0),
  (25, .putfield 22, 28, 1, 3, 0, 0, 0),
  (28, .return_, 29, 0, 0, 0, 0, 0)]
def MX1_init : mI := (1, ⟨"CornerFronts$Patch", "<init>", "()V"⟩, prog_3_method_1_code, 1, none, oX1_init)
def oX1_begin : List (Nat × mE) := [(0, .aload_n 0, 1, 0, 0, 0, 0, 0),
  (1, .iconst 0, 2, 0, 0, 0, (0), 0),
  (2, .putfield 18, 5, 1, 2, 0, 0, 0),
  (5, .aload_n 0, 6, 0, 0, 0, 0, 0),
  (6, .iload_n 1, 7, 1, 0, 0, 0, 0),
  (7, .putfield 22, 10, 1, 3, 0, 0, 0),
  (10, .return_, 11, 0, 0, 0, 0, 0)]
def MX1_begin : mI := (1, ⟨"CornerFronts$Patch", "begin", "(I)V"⟩, prog_3_method_2_code, 2, none, oX1_begin)
def oX1_put : List (Nat × mE) := [(0, .aload_n 0, 1, 0, 0, 0, 0, 0),
  (1, .getfield 18, 4, 1, 2, 0, 0, 0),
  (4, .iconst 3, 5, 0, 0, 0, (3), 0),
  (5, .if_icmp .ge 33, 8, 38, 0, 0, 0, 0),
  (8, .aload_n 0, 9, 0, 0, 0, 0, 0),
  (9, .getfield 11, 12, 1, 0, 0, 0, 0),
  (12, .aload_n 0, 13, 0, 0, 0, 0, 0),
  (13, .getfield 18, 16, 1, 2, 0, 0, 0),
  (16, .iload_n 1, 17, 1, 0, 0, 0, 0),
  (17, .iastore, 18, 0, 0, 0, 0, 0),
  (18, .aload_n 0, 19, 0, 0, 0, 0, 0),
  (19, .getfield 15, 22, 1, 1, 0, 0, 0),
  (22, .aload_n 0, 23, 0, 0, 0, 0, 0),
  (23, .getfield 18, 26, 1, 2, 0, 0, 0),
  (26, .iload_n 2, 27, 2, 0, 0, 0, 0),
  (27, .iastore, 28, 0, 0, 0, 0, 0),
  (28, .aload_n 0, 29, 0, 0, 0, 0, 0),
  (29, .dup, 30, 0, 0, 0, 0, 0),
  (30, .getfield 18, 33, 1, 2, 0, 0, 0),
  (33, .iconst 1, 34, 0, 0, 0, (1), 0),
  (34, .iadd, 35, 0, 0, 0, 0, 0),
  (35, .putfield 18, 38, 1, 2, 0, 0, 0),
  (38, .return_, 39, 0, 0, 0, 0, 0)]
def MX1_put : mI := (1, ⟨"CornerFronts$Patch", "put", "(II)V"⟩, prog_3_method_3_code, 3, none, oX1_put)
def oX1_putThree : List (Nat × mE) := [(0, .aload_n 0, 1, 0, 0, 0, 0, 0),
  (1, .iload_n 1, 2, 1, 0, 0, 0, 0),
  (2, .iload_n 2, 3, 2, 0, 0, 0, 0),
  (3, .invokevirtual 25, 6, 14, 2, 1, 0, 0),
  (6, .aload_n 0, 7, 0, 0, 0, 0, 0),
  (7, .iload_n 3, 8, 3, 0, 0, 0, 0),
  (8, .iload 4, 10, 4, 0, 0, 0, 0),
  (10, .invokevirtual 25, 13, 14, 2, 1, 0, 0),
  (13, .aload_n 0, 14, 0, 0, 0, 0, 0),
  (14, .iload 5, 16, 5, 0, 0, 0, 0),
  (16, .iload 6, 18, 6, 0, 0, 0, 0),
  (18, .invokevirtual 25, 21, 14, 2, 1, 0, 0),
  (21, .return_, 22, 0, 0, 0, 0, 0)]
def MX1_putThree : mI := (1, ⟨"CornerFronts$Patch", "putThree", "(IIIIII)V"⟩, prog_3_method_4_code, 7, none, oX1_putThree)
def oX1_planMove : List (Nat × mE) := [(0, .iload_n 2, 1, 2, 0, 0, 0, 0),
  (1, .tableswitch 70 0 4 #[35, 42, 49, 56, 63], 36, 0, 0, 0, 0, 0),
  (36, .aload_n 0, 37, 0, 0, 0, 0, 0),
  (37, .aload_n 1, 38, 1, 0, 0, 0, 0),
  (38, .iload_n 3, 39, 3, 0, 0, 0, 0),
  (39, .invokevirtual 29, 42, 17, 2, 1, 0, 0),
  (42, .ireturn, 43, 0, 0, 1, 0, 0),
  (43, .aload_n 0, 44, 0, 0, 0, 0, 0),
  (44, .aload_n 1, 45, 1, 0, 0, 0, 0),
  (45, .iload_n 3, 46, 3, 0, 0, 0, 0),
  (46, .invokevirtual 33, 49, 18, 2, 1, 0, 0),
  (49, .ireturn, 50, 0, 0, 1, 0, 0),
  (50, .aload_n 0, 51, 0, 0, 0, 0, 0),
  (51, .aload_n 1, 52, 1, 0, 0, 0, 0),
  (52, .iload_n 3, 53, 3, 0, 0, 0, 0),
  (53, .invokevirtual 36, 56, 19, 2, 1, 0, 0),
  (56, .ireturn, 57, 0, 0, 1, 0, 0),
  (57, .aload_n 0, 58, 0, 0, 0, 0, 0),
  (58, .aload_n 1, 59, 1, 0, 0, 0, 0),
  (59, .iload_n 3, 60, 3, 0, 0, 0, 0),
  (60, .invokevirtual 39, 63, 20, 2, 1, 0, 0),
  (63, .ireturn, 64, 0, 0, 1, 0, 0),
  (64, .aload_n 0, 65, 0, 0, 0, 0, 0),
  (65, .aload_n 1, 66, 1, 0, 0, 0, 0),
  (66, .iload_n 3, 67, 3, 0, 0, 0, 0),
  (67, .invokevirtual 42, 70, 21, 2, 1, 0, 0),
  (70, .ireturn, 71, 0, 0, 1, 0, 0),
  (71, .iconst 0, 72, 0, 0, 0, (0), 0),
  (72, .ireturn, 73, 0, 0, 1, 0, 0)]
def MX1_planMove : mI := (1, ⟨"CornerFronts$Patch", "planMove", "(LCornerFronts$Front;II)Z"⟩, prog_3_method_5_code, 4, (some (.boolean)), oX1_planMove)
def oX1_planSwap : List (Nat × mE) := [(0, .iload_n 2, 1, 2, 0, 0, 0, 0),
  (1, .iconst 1, 2, 0, 0, 0, (1), 0),
  (2, .iadd, 3, 0, 0, 0, 0, 0),
  (3, .aload_n 1, 4, 1, 0, 0, 0, 0),
  (4, .getfield 45, 7, 0, 3, 0, 0, 0),
  (7, .if_icmp .lt 5, 10, 12, 0, 0, 0, 0),
  (10, .iconst 0, 11, 0, 0, 0, (0), 0),
  (11, .ireturn, 12, 0, 0, 1, 0, 0),
  (12, .aload_n 1, 13, 1, 0, 0, 0, 0),
  (13, .getfield 48, 16, 0, 0, 0, 0, 0),
  (16, .iload_n 2, 17, 2, 0, 0, 0, 0),
  (17, .iaload, 18, 0, 0, 0, 0, 0),
  (18, .istore_n 3, 19, 3, 0, 0, 0, 0),
  (19, .aload_n 1, 20, 1, 0, 0, 0, 0),
  (20, .getfield 49, 23, 0, 1, 0, 0, 0),
  (23, .iload_n 2, 24, 2, 0, 0, 0, 0),
  (24, .iaload, 25, 0, 0, 0, 0, 0),
  (25, .istore 4, 27, 4, 0, 0, 0, 0),
  (27, .aload_n 1, 28, 1, 0, 0, 0, 0),
  (28, .getfield 48, 31, 0, 0, 0, 0, 0),
  (31, .iload_n 2, 32, 2, 0, 0, 0, 0),
  (32, .iconst 1, 33, 0, 0, 0, (1), 0),
  (33, .iadd, 34, 0, 0, 0, 0, 0),
  (34, .iaload, 35, 0, 0, 0, 0, 0),
  (35, .istore 5, 37, 5, 0, 0, 0, 0),
  (37, .aload_n 1, 38, 1, 0, 0, 0, 0),
  (38, .getfield 49, 41, 0, 1, 0, 0, 0),
  (41, .iload_n 2, 42, 2, 0, 0, 0, 0),
  (42, .iconst 1, 43, 0, 0, 0, (1), 0),
  (43, .iadd, 44, 0, 0, 0, 0, 0),
  (44, .iaload, 45, 0, 0, 0, 0, 0),
  (45, .istore 6, 47, 6, 0, 0, 0, 0),
  (47, .iload_n 3, 48, 3, 0, 0, 0, 0),
  (48, .iconst 2, 49, 0, 0, 0, (2), 0),
  (49, .if_icmp .ne 7, 52, 56, 0, 0, 0, 0),
  (52, .iconst 0, 53, 0, 0, 0, (0), 0),
  (53, .goto 4, 56, 57, 0, 0, 0, 0),
  (56, .iconst 2, 57, 0, 0, 0, (2), 0),
  (57, .istore 7, 59, 7, 0, 0, 0, 0),
  (59, .iload 5, 61, 5, 0, 0, 0, 0),
  (61, .ifCond .ne 7, 64, 68, 0, 0, 0, 0),
  (64, .iconst 0, 65, 0, 0, 0, (0), 0),
  (65, .goto 4, 68, 69, 0, 0, 0, 0),
  (68, .iconst 2, 69, 0, 0, 0, (2), 0),
  (69, .istore 8, 71, 8, 0, 0, 0, 0),
  (71, .aload_n 0, 72, 0, 0, 0, 0, 0),
  (72, .iconst 2, 73, 0, 0, 0, (2), 0),
  (73, .invokevirtual 50, 76, 13, 1, 1, 0, 0),
  (76, .iload 6, 78, 6, 0, 0, 0, 0),
  (78, .iload 4, 80, 4, 0, 0, 0, 0),
  (80, .iload 7, 82, 7, 0, 0, 0, 0),
  (82, .iadd, 83, 0, 0, 0, 0, 0),
  (83, .if_icmp .lt 25, 86, 108, 0, 0, 0, 0),
  (86, .aload_n 0, 87, 0, 0, 0, 0, 0),
  (87, .iload 5, 89, 5, 0, 0, 0, 0),
  (89, .iload 6, 91, 6, 0, 0, 0, 0),
  (91, .iload_n 3, 92, 3, 0, 0, 0, 0),
  (92, .invokestatic 54, 95, 11, 1, 0, 0, 0),
  (95, .isub, 96, 0, 0, 0, 0, 0),
  (96, .invokevirtual 25, 99, 14, 2, 1, 0, 0),
  (99, .aload_n 0, 100, 0, 0, 0, 0, 0),
  (100, .iload_n 3, 101, 3, 0, 0, 0, 0),
  (101, .iload 4, 103, 4, 0, 0, 0, 0),
  (103, .invokevirtual 25, 106, 14, 2, 1, 0, 0),
  (106, .iconst 1, 107, 0, 0, 0, (1), 0),
  (107, .ireturn, 108, 0, 0, 1, 0, 0),
  (108, .iload 6, 110, 6, 0, 0, 0, 0),
  (110, .iload 8, 112, 8, 0, 0, 0, 0),
  (112, .iadd, 113, 0, 0, 0, 0, 0),
  (113, .iload 4, 115, 4, 0, 0, 0, 0),
  (115, .if_icmp .gt 26, 118, 141, 0, 0, 0, 0),
  (118, .aload_n 0, 119, 0, 0, 0, 0, 0),
  (119, .iload 5, 121, 5, 0, 0, 0, 0),
  (121, .iload 6, 123, 6, 0, 0, 0, 0),
  (123, .invokevirtual 25, 126, 14, 2, 1, 0, 0),
  (126, .aload_n 0, 127, 0, 0, 0, 0, 0),
  (127, .iload_n 3, 128, 3, 0, 0, 0, 0),
  (128, .iload 4, 130, 4, 0, 0, 0, 0),
  (130, .iload 5, 132, 5, 0, 0, 0, 0),
  (132, .invokestatic 54, 135, 11, 1, 0, 0, 0),
  (135, .iadd, 136, 0, 0, 0, 0, 0),
  (136, .invokevirtual 25, 139, 14, 2, 1, 0, 0),
  (139, .iconst 1, 140, 0, 0, 0, (1), 0),
  (140, .ireturn, 141, 0, 0, 1, 0, 0),
  (141, .iconst 0, 142, 0, 0, 0, (0), 0),
  (142, .ireturn, 143, 0, 0, 1, 0, 0)]
def MX1_planSwap : mI := (1, ⟨"CornerFronts$Patch", "planSwap", "(LCornerFronts$Front;I)Z"⟩, prog_3_method_6_code, 9, (some (.boolean)), oX1_planSwap)
def oX1_planSlide : List (Nat × mE) := [(0, .aload_n 1, 1, 1, 0, 0, 0, 0),
  (1, .iload_n 2, 2, 2, 0, 0, 0, 0),
  (2, .iconst 1, 3, 0, 0, 0, (1), 0),
  (3, .iconst 1, 4, 0, 0, 0, (1), 0),
  (4, .iconst 1, 5, 0, 0, 0, (1), 0),
  (5, .invokestatic 58, 8, 22, 5, 1, 0, 0),
  (8, .ifCond .eq 11, 11, 19, 0, 0, 0, 0),
  (11, .aload_n 1, 12, 1, 0, 0, 0, 0),
  (12, .iload_n 2, 13, 2, 0, 0, 0, 0),
  (13, .invokestatic 62, 16, 23, 2, 1, 0, 0),
  (16, .ifCond .ne 5, 19, 21, 0, 0, 0, 0),
  (19, .iconst 0, 20, 0, 0, 0, (0), 0),
  (20, .ireturn, 21, 0, 0, 1, 0, 0),
  (21, .aload_n 0, 22, 0, 0, 0, 0, 0),
  (22, .iconst 3, 23, 0, 0, 0, (3), 0),
  (23, .invokevirtual 50, 26, 13, 1, 1, 0, 0),
  (26, .aload_n 1, 27, 1, 0, 0, 0, 0),
  (27, .getfield 49, 30, 0, 1, 0, 0, 0),
  (30, .iload_n 2, 31, 2, 0, 0, 0, 0),
  (31, .iaload, 32, 0, 0, 0, 0, 0),
  (32, .istore_n 3, 33, 3, 0, 0, 0, 0),
  (33, .aload_n 1, 34, 1, 0, 0, 0, 0),
  (34, .getfield 49, 37, 0, 1, 0, 0, 0),
  (37, .iload_n 2, 38, 2, 0, 0, 0, 0),
  (38, .iconst 1, 39, 0, 0, 0, (1), 0),
  (39, .iadd, 40, 0, 0, 0, 0, 0),
  (40, .iaload, 41, 0, 0, 0, 0, 0),
  (41, .istore 4, 43, 4, 0, 0, 0, 0),
  (43, .aload_n 0, 44, 0, 0, 0, 0, 0),
  (44, .iconst 1, 45, 0, 0, 0, (1), 0),
  (45, .iload 4, 47, 4, 0, 0, 0, 0),
  (47, .iconst 1, 48, 0, 0, 0, (1), 0),
  (48, .iload_n 3, 49, 3, 0, 0, 0, 0),
  (49, .iconst 1, 50, 0, 0, 0, (1), 0),
  (50, .iload 4, 52, 4, 0, 0, 0, 0),
  (52, .invokevirtual 65, 55, 15, 6, 1, 0, 0),
  (55, .iconst 1, 56, 0, 0, 0, (1), 0),
  (56, .ireturn, 57, 0, 0, 1, 0, 0)]
def MX1_planSlide : mI := (1, ⟨"CornerFronts$Patch", "planSlide", "(LCornerFronts$Front;I)Z"⟩, prog_3_method_7_code, 5, (some (.boolean)), oX1_planSlide)
def oX1_planUncurl : List (Nat × mE) := [(0, .aload_n 0, 1, 0, 0, 0, 0, 0),
  (1, .iconst 3, 2, 0, 0, 0, (3), 0),
  (2, .invokevirtual 50, 5, 13, 1, 1, 0, 0),
  (5, .aload_n 1, 6, 1, 0, 0, 0, 0),
  (6, .iload_n 2, 7, 2, 0, 0, 0, 0),
  (7, .iconst 0, 8, 0, 0, 0, (0), 0),
  (8, .iconst 1, 9, 0, 0, 0, (1), 0),
  (9, .iconst 2, 10, 0, 0, 0, (2), 0),
  (10, .invokestatic 58, 13, 22, 5, 1, 0, 0),
  (13, .ifCond .eq 15, 16, 28, 0, 0, 0, 0),
  (16, .aload_n 1, 17, 1, 0, 0, 0, 0),
  (17, .iload_n 2, 18, 2, 0, 0, 0, 0),
  (18, .invokestatic 62, 21, 23, 2, 1, 0, 0),
  (21, .ifCond .eq 7, 24, 28, 0, 0, 0, 0),
  (24, .iconst 1, 25, 0, 0, 0, (1), 0),
  (25, .goto 4, 28, 29, 0, 0, 0, 0),
  (28, .iconst 0, 29, 0, 0, 0, (0), 0),
  (29, .ireturn, 30, 0, 0, 1, 0, 0)]
def MX1_planUncurl : mI := (1, ⟨"CornerFronts$Patch", "planUncurl", "(LCornerFronts$Front;I)Z"⟩, prog_3_method_8_code, 3, (some (.boolean)), oX1_planUncurl)
def oX1_planPull : List (Nat × mE) := [(0, .aload_n 1, 1, 1, 0, 0, 0, 0),
  (1, .iload_n 2, 2, 2, 0, 0, 0, 0),
  (2, .iconst 0, 3, 0, 0, 0, (0), 0),
  (3, .iconst 1, 4, 0, 0, 0, (1), 0),
  (4, .iconst 1, 5, 0, 0, 0, (1), 0),
  (5, .invokestatic 58, 8, 22, 5, 1, 0, 0),
  (8, .istore_n 3, 9, 3, 0, 0, 0, 0),
  (9, .aload_n 1, 10, 1, 0, 0, 0, 0),
  (10, .iload_n 2, 11, 2, 0, 0, 0, 0),
  (11, .iconst 1, 12, 0, 0, 0, (1), 0),
  (12, .iconst 1, 13, 0, 0, 0, (1), 0),
  (13, .iconst 2, 14, 0, 0, 0, (2), 0),
  (14, .invokestatic 58, 17, 22, 5, 1, 0, 0),
  (17, .istore 4, 19, 4, 0, 0, 0, 0),
  (19, .iload_n 3, 20, 3, 0, 0, 0, 0),
  (20, .ifCond .ne 8, 23, 28, 0, 0, 0, 0),
  (23, .iload 4, 25, 4, 0, 0, 0, 0),
  (25, .ifCond .eq 11, 28, 36, 0, 0, 0, 0),
  (28, .aload_n 1, 29, 1, 0, 0, 0, 0),
  (29, .iload_n 2, 30, 2, 0, 0, 0, 0),
  (30, .invokestatic 62, 33, 23, 2, 1, 0, 0),
  (33, .ifCond .ne 5, 36, 38, 0, 0, 0, 0),
  (36, .iconst 0, 37, 0, 0, 0, (0), 0),
  (37, .ireturn, 38, 0, 0, 1, 0, 0),
  (38, .aload_n 0, 39, 0, 0, 0, 0, 0),
  (39, .iconst 3, 40, 0, 0, 0, (3), 0),
  (40, .invokevirtual 50, 43, 13, 1, 1, 0, 0),
  (43, .aload_n 0, 44, 0, 0, 0, 0, 0),
  (44, .iload_n 3, 45, 3, 0, 0, 0, 0),
  (45, .ifCond .eq 7, 48, 52, 0, 0, 0, 0),
  (48, .iconst 0, 49, 0, 0, 0, (0), 0),
  (49, .goto 4, 52, 53, 0, 0, 0, 0),
  (52, .iconst 2, 53, 0, 0, 0, (2), 0),
  (53, .aload_n 1, 54, 1, 0, 0, 0, 0),
  (54, .getfield 49, 57, 0, 1, 0, 0, 0),
  (57, .iload_n 2, 58, 2, 0, 0, 0, 0),
  (58, .iconst 1, 59, 0, 0, 0, (1), 0),
  (59, .iadd, 60, 0, 0, 0, 0, 0),
  (60, .iaload, 61, 0, 0, 0, 0, 0),
  (61, .invokevirtual 25, 64, 14, 2, 1, 0, 0),
  (64, .iconst 1, 65, 0, 0, 0, (1), 0),
  (65, .ireturn, 66, 0, 0, 1, 0, 0)]
def MX1_planPull : mI := (1, ⟨"CornerFronts$Patch", "planPull", "(LCornerFronts$Front;I)Z"⟩, prog_3_method_9_code, 5, (some (.boolean)), oX1_planPull)
def oX1_planStraighten : List (Nat × mE) := [(0, .aload_n 0, 1, 0, 0, 0, 0, 0),
  (1, .iconst 2, 2, 0, 0, 0, (2), 0),
  (2, .invokevirtual 50, 5, 13, 1, 1, 0, 0),
  (5, .iload_n 2, 6, 2, 0, 0, 0, 0),
  (6, .iconst 1, 7, 0, 0, 0, (1), 0),
  (7, .iadd, 8, 0, 0, 0, 0, 0),
  (8, .aload_n 1, 9, 1, 0, 0, 0, 0),
  (9, .getfield 45, 12, 0, 3, 0, 0, 0),
  (12, .if_icmp .ge 50, 15, 62, 0, 0, 0, 0),
  (15, .aload_n 1, 16, 1, 0, 0, 0, 0),
  (16, .getfield 48, 19, 0, 0, 0, 0, 0),
  (19, .iload_n 2, 20, 2, 0, 0, 0, 0),
  (20, .iaload, 21, 0, 0, 0, 0, 0),
  (21, .ifCond .ne 41, 24, 62, 0, 0, 0, 0),
  (24, .aload_n 1, 25, 1, 0, 0, 0, 0),
  (25, .getfield 48, 28, 0, 0, 0, 0, 0),
  (28, .iload_n 2, 29, 2, 0, 0, 0, 0),
  (29, .iconst 1, 30, 0, 0, 0, (1), 0),
  (30, .iadd, 31, 0, 0, 0, 0, 0),
  (31, .iaload, 32, 0, 0, 0, 0, 0),
  (32, .iconst 2, 33, 0, 0, 0, (2), 0),
  (33, .if_icmp .ne 29, 36, 62, 0, 0, 0, 0),
  (36, .aload_n 1, 37, 1, 0, 0, 0, 0),
  (37, .getfield 49, 40, 0, 1, 0, 0, 0),
  (40, .iload_n 2, 41, 2, 0, 0, 0, 0),
  (41, .iaload, 42, 0, 0, 0, 0, 0),
  (42, .aload_n 1, 43, 1, 0, 0, 0, 0),
  (43, .getfield 49, 46, 0, 1, 0, 0, 0),
  (46, .iload_n 2, 47, 2, 0, 0, 0, 0),
  (47, .iconst 1, 48, 0, 0, 0, (1), 0),
  (48, .iadd, 49, 0, 0, 0, 0, 0),
  (49, .iaload, 50, 0, 0, 0, 0, 0),
  (50, .isub, 51, 0, 0, 0, 0, 0),
  (51, .invokestatic 69, 54, 1012, 0, 0, 0, 0),
  (54, .iconst 1, 55, 0, 0, 0, (1), 0),
  (55, .if_icmp .ne 7, 58, 62, 0, 0, 0, 0),
  (58, .iconst 1, 59, 0, 0, 0, (1), 0),
  (59, .goto 4, 62, 63, 0, 0, 0, 0),
  (62, .iconst 0, 63, 0, 0, 0, (0), 0),
  (63, .ireturn, 64, 0, 0, 1, 0, 0)]
def MX1_planStraighten : mI := (1, ⟨"CornerFronts$Patch", "planStraighten", "(LCornerFronts$Front;I)Z"⟩, prog_3_method_10_code, 3, (some (.boolean)), oX1_planStraighten)
def oX1_hasKinds : List (Nat × mE) := [(0, .iload_n 1, 1, 1, 0, 0, 0, 0),
  (1, .iconst 2, 2, 0, 0, 0, (2), 0),
  (2, .iadd, 3, 0, 0, 0, 0, 0),
  (3, .aload_n 0, 4, 0, 0, 0, 0, 0),
  (4, .getfield 45, 7, 0, 3, 0, 0, 0),
  (7, .if_icmp .ge 42, 10, 49, 0, 0, 0, 0),
  (10, .aload_n 0, 11, 0, 0, 0, 0, 0),
  (11, .getfield 48, 14, 0, 0, 0, 0, 0),
  (14, .iload_n 1, 15, 1, 0, 0, 0, 0),
  (15, .iaload, 16, 0, 0, 0, 0, 0),
  (16, .iload_n 2, 17, 2, 0, 0, 0, 0),
  (17, .if_icmp .ne 32, 20, 49, 0, 0, 0, 0),
  (20, .aload_n 0, 21, 0, 0, 0, 0, 0),
  (21, .getfield 48, 24, 0, 0, 0, 0, 0),
  (24, .iload_n 1, 25, 1, 0, 0, 0, 0),
  (25, .iconst 1, 26, 0, 0, 0, (1), 0),
  (26, .iadd, 27, 0, 0, 0, 0, 0),
  (27, .iaload, 28, 0, 0, 0, 0, 0),
  (28, .iload_n 3, 29, 3, 0, 0, 0, 0),
  (29, .if_icmp .ne 20, 32, 49, 0, 0, 0, 0),
  (32, .aload_n 0, 33, 0, 0, 0, 0, 0),
  (33, .getfield 48, 36, 0, 0, 0, 0, 0),
  (36, .iload_n 1, 37, 1, 0, 0, 0, 0),
  (37, .iconst 2, 38, 0, 0, 0, (2), 0),
  (38, .iadd, 39, 0, 0, 0, 0, 0),
  (39, .iaload, 40, 0, 0, 0, 0, 0),
  (40, .iload 4, 42, 4, 0, 0, 0, 0),
  (42, .if_icmp .ne 7, 45, 49, 0, 0, 0, 0),
  (45, .iconst 1, 46, 0, 0, 0, (1), 0),
  (46, .goto 4, 49, 50, 0, 0, 0, 0),
  (49, .iconst 0, 50, 0, 0, 0, (0), 0),
  (50, .ireturn, 51, 0, 0, 1, 0, 0)]
def MX1_hasKinds : mI := (1, ⟨"CornerFronts$Patch", "hasKinds", "(LCornerFronts$Front;IIII)Z"⟩, prog_3_method_11_code, 5, (some (.boolean)), oX1_hasKinds)
def oX1_goesThereAndBack : List (Nat × mE) := [(0, .aload_n 0, 1, 0, 0, 0, 0, 0),
  (1, .getfield 49, 4, 0, 1, 0, 0, 0),
  (4, .iload_n 1, 5, 1, 0, 0, 0, 0),
  (5, .iaload, 6, 0, 0, 0, 0, 0),
  (6, .aload_n 0, 7, 0, 0, 0, 0, 0),
  (7, .getfield 49, 10, 0, 1, 0, 0, 0),
  (10, .iload_n 1, 11, 1, 0, 0, 0, 0),
  (11, .iconst 2, 12, 0, 0, 0, (2), 0),
  (12, .iadd, 13, 0, 0, 0, 0, 0),
  (13, .iaload, 14, 0, 0, 0, 0, 0),
  (14, .if_icmp .ne 29, 17, 43, 0, 0, 0, 0),
  (17, .aload_n 0, 18, 0, 0, 0, 0, 0),
  (18, .getfield 49, 21, 0, 1, 0, 0, 0),
  (21, .iload_n 1, 22, 1, 0, 0, 0, 0),
  (22, .iaload, 23, 0, 0, 0, 0, 0),
  (23, .aload_n 0, 24, 0, 0, 0, 0, 0),
  (24, .getfield 49, 27, 0, 1, 0, 0, 0),
  (27, .iload_n 1, 28, 1, 0, 0, 0, 0),
  (28, .iconst 1, 29, 0, 0, 0, (1), 0),
  (29, .iadd, 30, 0, 0, 0, 0, 0),
  (30, .iaload, 31, 0, 0, 0, 0, 0),
  (31, .isub, 32, 0, 0, 0, 0, 0),
  (32, .invokestatic 69, 35, 1012, 0, 0, 0, 0),
  (35, .iconst 1, 36, 0, 0, 0, (1), 0),
  (36, .if_icmp .ne 7, 39, 43, 0, 0, 0, 0),
  (39, .iconst 1, 40, 0, 0, 0, (1), 0),
  (40, .goto 4, 43, 44, 0, 0, 0, 0),
  (43, .iconst 0, 44, 0, 0, 0, (0), 0),
  (44, .ireturn, 45, 0, 0, 1, 0, 0)]
def MX1_goesThereAndBack : mI := (1, ⟨"CornerFronts$Patch", "goesThereAndBack", "(LCornerFronts$Front;I)Z"⟩, prog_3_method_12_code, 2, (some (.boolean)), oX1_goesThereAndBack)
def oX1_planAdd : List (Nat × mE) := [(0, .aload_n 0, 1, 0, 0, 0, 0, 0),
  (1, .iconst 0, 2, 0, 0, 0, (0), 0),
  (2, .invokevirtual 50, 5, 13, 1, 1, 0, 0),
  (5, .iload_n 1, 6, 1, 0, 0, 0, 0),
  (6, .tableswitch 75 0 2 #[26, 43, 58], 32, 0, 0, 0, 0, 0),
  (32, .aload_n 0, 33, 0, 0, 0, 0, 0),
  (33, .iconst 0, 34, 0, 0, 0, (0), 0),
  (34, .iload_n 2, 35, 2, 0, 0, 0, 0),
  (35, .iconst 1, 36, 0, 0, 0, (1), 0),
  (36, .iadd, 37, 0, 0, 0, 0, 0),
  (37, .iconst 1, 38, 0, 0, 0, (1), 0),
  (38, .iload_n 2, 39, 2, 0, 0, 0, 0),
  (39, .iconst 2, 40, 0, 0, 0, (2), 0),
  (40, .iload_n 2, 41, 2, 0, 0, 0, 0),
  (41, .iconst 1, 42, 0, 0, 0, (1), 0),
  (42, .iadd, 43, 0, 0, 0, 0, 0),
  (43, .invokevirtual 65, 46, 15, 6, 1, 0, 0),
  (46, .goto 49, 49, 95, 0, 0, 0, 0),
  (49, .aload_n 0, 50, 0, 0, 0, 0, 0),
  (50, .iconst 0, 51, 0, 0, 0, (0), 0),
  (51, .iload_n 2, 52, 2, 0, 0, 0, 0),
  (52, .iconst 1, 53, 0, 0, 0, (1), 0),
  (53, .iload_n 2, 54, 2, 0, 0, 0, 0),
  (54, .iconst 1, 55, 0, 0, 0, (1), 0),
  (55, .iadd, 56, 0, 0, 0, 0, 0),
  (56, .iconst 2, 57, 0, 0, 0, (2), 0),
  (57, .iload_n 2, 58, 2, 0, 0, 0, 0),
  (58, .invokevirtual 65, 61, 15, 6, 1, 0, 0),
  (61, .goto 34, 64, 95, 0, 0, 0, 0),
  (64, .aload_n 0, 65, 0, 0, 0, 0, 0),
  (65, .iconst 0, 66, 0, 0, 0, (0), 0),
  (66, .iload_n 2, 67, 2, 0, 0, 0, 0),
  (67, .iconst 1, 68, 0, 0, 0, (1), 0),
  (68, .iadd, 69, 0, 0, 0, 0, 0),
  (69, .invokevirtual 25, 72, 14, 2, 1, 0, 0),
  (72, .aload_n 0, 73, 0, 0, 0, 0, 0),
  (73, .iconst 2, 74, 0, 0, 0, (2), 0),
  (74, .iload_n 2, 75, 2, 0, 0, 0, 0),
  (75, .invokevirtual 25, 78, 14, 2, 1, 0, 0),
  (78, .goto 17, 81, 95, 0, 0, 0, 0),
  (81, .aload_n 0, 82, 0, 0, 0, 0, 0),
  (82, .iconst 0, 83, 0, 0, 0, (0), 0),
  (83, .iload_n 2, 84, 2, 0, 0, 0, 0),
  (84, .invokevirtual 25, 87, 14, 2, 1, 0, 0),
  (87, .aload_n 0, 88, 0, 0, 0, 0, 0),
  (88, .iconst 2, 89, 0, 0, 0, (2), 0),
  (89, .iload_n 2, 90, 2, 0, 0, 0, 0),
  (90, .iconst 1, 91, 0, 0, 0, (1), 0),
  (91, .iadd, 92, 0, 0, 0, 0, 0),
  (92, .invokevirtual 25, 95, 14, 2, 1, 0, 0),
  (95, .return_, 96, 0, 0, 0, 0, 0)]
def MX1_planAdd : mI := (1, ⟨"CornerFronts$Patch", "planAdd", "(II)V"⟩, prog_3_method_13_code, 3, none, oX1_planAdd)
def oX1_planPush : List (Nat × mE) := [(0, .aload_n 0, 1, 0, 0, 0, 0, 0),
  (1, .iconst 1, 2, 0, 0, 0, (1), 0),
  (2, .invokevirtual 50, 5, 13, 1, 1, 0, 0),
  (5, .aload_n 1, 6, 1, 0, 0, 0, 0),
  (6, .getfield 49, 9, 0, 1, 0, 0, 0),
  (9, .iload_n 3, 10, 3, 0, 0, 0, 0),
  (10, .iaload, 11, 0, 0, 0, 0, 0),
  (11, .istore 4, 13, 4, 0, 0, 0, 0),
  (13, .aload_n 1, 14, 1, 0, 0, 0, 0),
  (14, .getfield 48, 17, 0, 0, 0, 0, 0),
  (17, .iload_n 3, 18, 3, 0, 0, 0, 0),
  (18, .iaload, 19, 0, 0, 0, 0, 0),
  (19, .lookupswitch 53 #[(0, 25), (2, 39)], 44, 0, 0, 0, 0, 0),
  (44, .aload_n 0, 45, 0, 0, 0, 0, 0),
  (45, .iload_n 2, 46, 2, 0, 0, 0, 0),
  (46, .iload 4, 48, 4, 0, 0, 0, 0),
  (48, .aload_n 1, 49, 1, 0, 0, 0, 0),
  (49, .getfield 74, 52, 0, 2, 0, 0, 0),
  (52, .iload_n 3, 53, 3, 0, 0, 0, 0),
  (53, .iaload, 54, 0, 0, 0, 0, 0),
  (54, .invokevirtual 77, 57, 26, 3, 1, 0, 0),
  (57, .ireturn, 58, 0, 0, 1, 0, 0),
  (58, .aload_n 0, 59, 0, 0, 0, 0, 0),
  (59, .iload_n 2, 60, 2, 0, 0, 0, 0),
  (60, .iload 4, 62, 4, 0, 0, 0, 0),
  (62, .aload_n 1, 63, 1, 0, 0, 0, 0),
  (63, .getfield 74, 66, 0, 2, 0, 0, 0),
  (66, .iload_n 3, 67, 3, 0, 0, 0, 0),
  (67, .iaload, 68, 0, 0, 0, 0, 0),
  (68, .invokevirtual 81, 71, 27, 3, 1, 0, 0),
  (71, .ireturn, 72, 0, 0, 1, 0, 0),
  (72, .iconst 0, 73, 0, 0, 0, (0), 0),
  (73, .ireturn, 74, 0, 0, 1, 0, 0)]
def MX1_planPush : mI := (1, ⟨"CornerFronts$Patch", "planPush", "(LCornerFronts$Front;II)Z"⟩, prog_3_method_14_code, 5, (some (.boolean)), oX1_planPush)
def oX1_planBirthPush : List (Nat × mE) := [(0, .iload_n 1, 1, 1, 0, 0, 0, 0),
  (1, .ifCond .ne 28, 4, 29, 0, 0, 0, 0),
  (4, .aload_n 0, 5, 0, 0, 0, 0, 0),
  (5, .iconst 0, 6, 0, 0, 0, (0), 0),
  (6, .iload_n 2, 7, 2, 0, 0, 0, 0),
  (7, .iconst 1, 8, 0, 0, 0, (1), 0),
  (8, .isub, 9, 0, 0, 0, 0, 0),
  (9, .iconst 1, 10, 0, 0, 0, (1), 0),
  (10, .iload_n 2, 11, 2, 0, 0, 0, 0),
  (11, .iconst 1, 12, 0, 0, 0, (1), 0),
  (12, .iload_n 2, 13, 2, 0, 0, 0, 0),
  (13, .iconst 1, 14, 0, 0, 0, (1), 0),
  (14, .isub, 15, 0, 0, 0, 0, 0),
  (15, .invokevirtual 65, 18, 15, 6, 1, 0, 0),
  (18, .iload_n 2, 19, 2, 0, 0, 0, 0),
  (19, .iconst 1, 20, 0, 0, 0, (1), 0),
  (20, .if_icmp .lt 7, 23, 27, 0, 0, 0, 0),
  (23, .iconst 1, 24, 0, 0, 0, (1), 0),
  (24, .goto 4, 27, 28, 0, 0, 0, 0),
  (27, .iconst 0, 28, 0, 0, 0, (0), 0),
  (28, .ireturn, 29, 0, 0, 1, 0, 0),
  (29, .aload_n 0, 30, 0, 0, 0, 0, 0),
  (30, .iconst 0, 31, 0, 0, 0, (0), 0),
  (31, .iload_n 2, 32, 2, 0, 0, 0, 0),
  (32, .iconst 1, 33, 0, 0, 0, (1), 0),
  (33, .iadd, 34, 0, 0, 0, 0, 0),
  (34, .iconst 1, 35, 0, 0, 0, (1), 0),
  (35, .iload_n 2, 36, 2, 0, 0, 0, 0),
  (36, .iconst 1, 37, 0, 0, 0, (1), 0),
  (37, .iload_n 2, 38, 2, 0, 0, 0, 0),
  (38, .iconst 1, 39, 0, 0, 0, (1), 0),
  (39, .iadd, 40, 0, 0, 0, 0, 0),
  (40, .invokevirtual 65, 43, 15, 6, 1, 0, 0),
  (43, .iload_n 2, 44, 2, 0, 0, 0, 0),
  (44, .iload_n 3, 45, 3, 0, 0, 0, 0),
  (45, .if_icmp .ge 7, 48, 52, 0, 0, 0, 0),
  (48, .iconst 1, 49, 0, 0, 0, (1), 0),
  (49, .goto 4, 52, 53, 0, 0, 0, 0),
  (52, .iconst 0, 53, 0, 0, 0, (0), 0),
  (53, .ireturn, 54, 0, 0, 1, 0, 0)]
def MX1_planBirthPush : mI := (1, ⟨"CornerFronts$Patch", "planBirthPush", "(III)Z"⟩, prog_3_method_15_code, 4, (some (.boolean)), oX1_planBirthPush)
def oX1_planDeathPush : List (Nat × mE) := [(0, .iload_n 1, 1, 1, 0, 0, 0, 0),
  (1, .ifCond .ne 28, 4, 29, 0, 0, 0, 0),
  (4, .aload_n 0, 5, 0, 0, 0, 0, 0),
  (5, .iconst 1, 6, 0, 0, 0, (1), 0),
  (6, .iload_n 2, 7, 2, 0, 0, 0, 0),
  (7, .iconst 1, 8, 0, 0, 0, (1), 0),
  (8, .isub, 9, 0, 0, 0, 0, 0),
  (9, .iconst 1, 10, 0, 0, 0, (1), 0),
  (10, .iload_n 2, 11, 2, 0, 0, 0, 0),
  (11, .iconst 2, 12, 0, 0, 0, (2), 0),
  (12, .iload_n 2, 13, 2, 0, 0, 0, 0),
  (13, .iconst 1, 14, 0, 0, 0, (1), 0),
  (14, .isub, 15, 0, 0, 0, 0, 0),
  (15, .invokevirtual 65, 18, 15, 6, 1, 0, 0),
  (18, .iload_n 2, 19, 2, 0, 0, 0, 0),
  (19, .iconst 1, 20, 0, 0, 0, (1), 0),
  (20, .if_icmp .lt 7, 23, 27, 0, 0, 0, 0),
  (23, .iconst 1, 24, 0, 0, 0, (1), 0),
  (24, .goto 4, 27, 28, 0, 0, 0, 0),
  (27, .iconst 0, 28, 0, 0, 0, (0), 0),
  (28, .ireturn, 29, 0, 0, 1, 0, 0),
  (29, .aload_n 0, 30, 0, 0, 0, 0, 0),
  (30, .iconst 1, 31, 0, 0, 0, (1), 0),
  (31, .iload_n 2, 32, 2, 0, 0, 0, 0),
  (32, .iconst 1, 33, 0, 0, 0, (1), 0),
  (33, .iadd, 34, 0, 0, 0, 0, 0),
  (34, .iconst 1, 35, 0, 0, 0, (1), 0),
  (35, .iload_n 2, 36, 2, 0, 0, 0, 0),
  (36, .iconst 2, 37, 0, 0, 0, (2), 0),
  (37, .iload_n 2, 38, 2, 0, 0, 0, 0),
  (38, .iconst 1, 39, 0, 0, 0, (1), 0),
  (39, .iadd, 40, 0, 0, 0, 0, 0),
  (40, .invokevirtual 65, 43, 15, 6, 1, 0, 0),
  (43, .iload_n 2, 44, 2, 0, 0, 0, 0),
  (44, .iconst 2, 45, 0, 0, 0, (2), 0),
  (45, .iadd, 46, 0, 0, 0, 0, 0),
  (46, .iload_n 3, 47, 3, 0, 0, 0, 0),
  (47, .if_icmp .ge 7, 50, 54, 0, 0, 0, 0),
  (50, .iconst 1, 51, 0, 0, 0, (1), 0),
  (51, .goto 4, 54, 55, 0, 0, 0, 0),
  (54, .iconst 0, 55, 0, 0, 0, (0), 0),
  (55, .ireturn, 56, 0, 0, 1, 0, 0)]
def MX1_planDeathPush : mI := (1, ⟨"CornerFronts$Patch", "planDeathPush", "(III)Z"⟩, prog_3_method_16_code, 4, (some (.boolean)), oX1_planDeathPush)
def oX2_init : List (Nat × mE) := [(0, .aload_n 0, 1, 0, 0, 0, 0, 0),
  (1, .invokespecial 3, 4, 1001, 0, 0, 0, 0),
  (4, .aload_n 0, 5, 0, 0, 0, 0, 0),
  (5, .bipush 62, 7, 0, 0, 0, (62), 0),
  (7, .newarray .int, 9, 0, 0, 0, 0, 0),
  (9, .putfield 9, 12, 2, 0, 2, 0, 0),
  (12, .aload_n 0, 13, 0, 0, 0, 0, 0),
  (13, .iconst (-1), 14, 0, 0, 0, (-1), 0),
  (14, .putfield 15, 17, 2, 1, 0, 0, 0),
  (17, .aload_n 0, 18, 0, 0, 0, 0, 0),
  (18, .iconst 0, 19, 0, 0, 0, (0), 0),
  (19, .putfield 19, 22, 2, 2, 0, 0, 0),
  (22, .return_, 23, 0, 0, 0, 0, 0)]
def MX2_init : mI := (2, ⟨"CornerFronts$Sheet", "<init>", "()V"⟩, prog_4_method_1_code, 1, none, oX2_init)
def oX2_renew : List (Nat × mE) := [(0, .aload_n 0, 1, 0, 0, 0, 0, 0),
  (1, .iload_n 1, 2, 1, 0, 0, 0, 0),
  (2, .putfield 15, 5, 2, 1, 0, 0, 0),
  (5, .aload_n 0, 6, 0, 0, 0, 0, 0),
  (6, .iload_n 2, 7, 2, 0, 0, 0, 0),
  (7, .putfield 19, 10, 2, 2, 0, 0, 0),
  (10, .iconst 0, 11, 0, 0, 0, (0), 0),
  (11, .istore_n 3, 12, 3, 0, 0, 0, 0),
  (12, .iload_n 3, 13, 3, 0, 0, 0, 0),
  (13, .bipush 62, 15, 0, 0, 0, (62), 0),
  (15, .if_icmp .ge 16, 18, 31, 0, 0, 0, 0),
  (18, .aload_n 0, 19, 0, 0, 0, 0, 0),
  (19, .getfield 9, 22, 2, 0, 0, 0, 0),
  (22, .iload_n 3, 23, 3, 0, 0, 0, 0),
  (23, .iconst 0, 24, 0, 0, 0, (0), 0),
  (24, .iastore, 25, 0, 0, 0, 0, 0),
  (25, .iinc 3 1, 28, 3, 0, 0, (1), 0),
  (28, .goto (-16), 31, 12, 0, 0, 0, 0),
  (31, .return_, 32, 0, 0, 0, 0, 0)]
def MX2_renew : mI := (2, ⟨"CornerFronts$Sheet", "renew", "(II)V"⟩, prog_4_method_2_code, 4, none, oX2_renew)
def oX2_write : List (Nat × mE) := [(0, .aload_n 0, 1, 0, 0, 0, 0, 0),
  (1, .getfield 15, 4, 2, 1, 0, 0, 0),
  (4, .iconst (-1), 5, 0, 0, 0, (-1), 0),
  (5, .if_icmp .ne 5, 8, 10, 0, 0, 0, 0),
  (8, .iconst 1, 9, 0, 0, 0, (1), 0),
  (9, .ireturn, 10, 0, 0, 0, 0, 0),
  (10, .iload_n 1, 11, 1, 0, 0, 0, 0),
  (11, .ifCond .lt 11, 14, 22, 0, 0, 0, 0),
  (14, .iload_n 1, 15, 1, 0, 0, 0, 0),
  (15, .aload_n 0, 16, 0, 0, 0, 0, 0),
  (16, .getfield 19, 19, 2, 2, 0, 0, 0),
  (19, .if_icmp .lt 5, 22, 24, 0, 0, 0, 0),
  (22, .iconst 2, 23, 0, 0, 0, (2), 0),
  (23, .ireturn, 24, 0, 0, 0, 0, 0),
  (24, .aload_n 0, 25, 0, 0, 0, 0, 0),
  (25, .getfield 9, 28, 2, 0, 0, 0, 0),
  (28, .iload_n 1, 29, 1, 0, 0, 0, 0),
  (29, .aload_n 0, 30, 0, 0, 0, 0, 0),
  (30, .iload_n 2, 31, 2, 0, 0, 0, 0),
  (31, .invokevirtual 22, 34, 31, 1, 2, 0, 0),
  (34, .iastore, 35, 0, 0, 0, 0, 0),
  (35, .iconst 0, 36, 0, 0, 0, (0), 0),
  (36, .ireturn, 37, 0, 0, 0, 0, 0)]
def MX2_write : mI := (2, ⟨"CornerFronts$Sheet", "write", "(II)I"⟩, prog_4_method_3_code, 3, (some (.int)), oX2_write)
def oX2_narrowed : List (Nat × mE) := [(0, .aload_n 0, 1, 0, 0, 0, 0, 0),
  (1, .getfield 15, 4, 2, 1, 0, 0, 0),
  (4, .lookupswitch 34 #[(0, 28), (1, 31)], 32, 0, 0, 0, 0, 0),
  (32, .iload_n 1, 33, 1, 0, 0, 0, 0),
  (33, .i2b, 34, 0, 0, 0, 0, 0),
  (34, .ireturn, 35, 0, 0, 0, 0, 0),
  (35, .iload_n 1, 36, 1, 0, 0, 0, 0),
  (36, .i2s, 37, 0, 0, 0, 0, 0),
  (37, .ireturn, 38, 0, 0, 0, 0, 0),
  (38, .iload_n 1, 39, 1, 0, 0, 0, 0),
  (39, .ireturn, 40, 0, 0, 0, 0, 0)]
def MX2_narrowed : mI := (2, ⟨"CornerFronts$Sheet", "narrowed", "(I)I"⟩, prog_4_method_4_code, 2, (some (.int)), oX2_narrowed)
def oX2_tell : List (Nat × mE) := [(0, .aload_n 0, 1, 0, 0, 0, 0, 0),
  (1, .getfield 15, 4, 2, 1, 0, 0, 0),
  (4, .iconst (-1), 5, 0, 0, 0, (-1), 0),
  (5, .if_icmp .ne 6, 8, 11, 0, 0, 0, 0),
  (8, .bipush (-11), 10, 0, 0, 0, (-11), 0),
  (10, .ireturn, 11, 0, 0, 0, 0, 0),
  (11, .aload_n 0, 12, 0, 0, 0, 0, 0),
  (12, .getfield 15, 15, 2, 1, 0, 0, 0),
  (15, .iload_n 2, 16, 2, 0, 0, 0, 0),
  (16, .if_icmp .eq 6, 19, 22, 0, 0, 0, 0),
  (19, .bipush (-13), 21, 0, 0, 0, (-13), 0),
  (21, .ireturn, 22, 0, 0, 0, 0, 0),
  (22, .aload_n 1, 23, 1, 0, 0, 0, 0),
  (23, .invokevirtual 26, 26, 1, 0, 0, 0, 0),
  (26, .iconst 0, 27, 0, 0, 0, (0), 0),
  (27, .istore 5, 29, 5, 0, 0, 0, 0),
  (29, .iload 5, 31, 5, 0, 0, 0, 0),
  (31, .iload 4, 33, 4, 0, 0, 0, 0),
  (33, .if_icmp .ge 73, 36, 106, 0, 0, 0, 0),
  (36, .iload_n 3, 37, 3, 0, 0, 0, 0),
  (37, .i2l, 38, 0, 0, 0, 0, 0),
  (38, .iconst 2, 39, 0, 0, 0, (2), 0),
  (39, .iload 5, 41, 5, 0, 0, 0, 0),
  (41, .imul, 42, 0, 0, 0, 0, 0),
  (42, .i2l, 43, 0, 0, 0, 0, 0),
  (43, .ladd, 44, 0, 0, 0, 0, 0),
  (44, .lstore 6, 46, 6, 0, 0, 0, 0),
  (46, .lload 6, 48, 6, 0, 0, 0, 0),
  (48, .lconst 0, 49, 0, 0, 0, 0, 0),
  (49, .lcmp, 50, 0, 0, 0, 0, 0),
  (50, .ifCond .lt 16, 53, 66, 0, 0, 0, 0),
  (53, .lload 6, 55, 6, 0, 0, 0, 0),
  (55, .lconst 1, 56, 0, 0, 0, 0, 1),
  (56, .ladd, 57, 0, 0, 0, 0, 0),
  (57, .aload_n 0, 58, 0, 0, 0, 0, 0),
  (58, .getfield 19, 61, 2, 2, 0, 0, 0),
  (61, .i2l, 62, 0, 0, 0, 0, 0),
  (62, .lcmp, 63, 0, 0, 0, 0, 0),
  (63, .ifCond .lt 6, 66, 69, 0, 0, 0, 0),
  (66, .bipush (-12), 68, 0, 0, 0, (-12), 0),
  (68, .ireturn, 69, 0, 0, 0, 0, 0),
  (69, .aload_n 1, 70, 1, 0, 0, 0, 0),
  (70, .aload_n 0, 71, 0, 0, 0, 0, 0),
  (71, .getfield 9, 74, 2, 0, 0, 0, 0),
  (74, .lload 6, 76, 6, 0, 0, 0, 0),
  (76, .l2i, 77, 0, 0, 0, 0, 0),
  (77, .iaload, 78, 0, 0, 0, 0, 0),
  (78, .aload_n 0, 79, 0, 0, 0, 0, 0),
  (79, .getfield 9, 82, 2, 0, 0, 0, 0),
  (82, .lload 6, 84, 6, 0, 0, 0, 0),
  (84, .l2i, 85, 0, 0, 0, 0, 0),
  (85, .iconst 1, 86, 0, 0, 0, (1), 0),
  (86, .iadd, 87, 0, 0, 0, 0, 0),
  (87, .iaload, 88, 0, 0, 0, 0, 0),
  (88, .invokevirtual 31, 91, 6, 2, 0, 0, 0),
  (91, .ifCond .ne 9, 94, 100, 0, 0, 0, 0),
  (94, .bipush (-20), 96, 0, 0, 0, (-20), 0),
  (96, .iload 5, 98, 5, 0, 0, 0, 0),
  (98, .isub, 99, 0, 0, 0, 0, 0),
  (99, .ireturn, 100, 0, 0, 0, 0, 0),
  (100, .iinc 5 1, 103, 5, 0, 0, (1), 0),
  (103, .goto (-74), 106, 29, 0, 0, 0, 0),
  (106, .aload_n 1, 107, 1, 0, 0, 0, 0),
  (107, .invokevirtual 35, 110, 3, 0, 0, 0, 0),
  (110, .ifCond .eq 7, 113, 117, 0, 0, 0, 0),
  (113, .iconst 0, 114, 0, 0, 0, (0), 0),
  (114, .goto 5, 117, 119, 0, 0, 0, 0),
  (117, .bipush (-50), 119, 0, 0, 0, (-50), 0),
  (119, .ireturn, 120, 0, 0, 0, 0, 0)]
def MX2_tell : mI := (2, ⟨"CornerFronts$Sheet", "tell", "(LCornerFronts$Front;III)I"⟩, prog_4_method_5_code, 8, (some (.int)), oX2_tell)
def oX3_init : List (Nat × mE) := [(0, .aload_n 0, 1, 0, 0, 0, 0, 0),
  (1, .invokespecial 3, 4, 1001, 0, 0, 0, 0),
  (4, .aload_n 0, 5, 0, 0, 0, 0, 0),
  (5, .new 9, 8, 0, 0, 0, 0, 0),
  (8, .dup, 9, 0, 0, 0, 0, 0),
  (9, .invokespecial 11, 12, 0, 0, 0, 0, 0),
  (12, .putfield 12, 15, 3, 0, 2, 0, 0),
  (15, .aload_n 0, 16, 0, 0, 0, 0, 0),
  (16, .bipush 31, 18, 0, 0, 0, (31), 0),
  (18, .bipush 10, 20, 0, 0, 0, (10), 0),
  (20, .multianewarray 18 2, 24, 0, 0, 0, 0, 0),
  (24, .putfield 20, 27, 3, 1, 2, 0, 0),
  (27, .aload_n 0, 28, 0, 0, 0, 0, 0),
  (28, .bipush 30, 30, 0, 0, 0, (30), 0),
  (30, .newarray .boolean, 32, 0, 0, 0, 0, 0),
  (32, .putfield 23, 35, 3, 2, 2, 0, 0),
  (35, .aload_n 0, 36, 0, 0, 0, 0, 0),
  (36, .bipush 13, 38, 0, 0, 0, (13), 0),
  (38, .newarray .int, 40, 0, 0, 0, 0, 0),
  (40, .putfield 27, 43, 3, 3, 2, 0, 0),
  (43, .aload_n 0, 44, 0, 0, 0, 0, 0),
  (44, .iconst 0, 45, 0, 0, 0, (0), 0),
  (45, .putfield 31, 48, 3, 4, 1, 0, 0),
  (48, .aload_n 0, 49, 0, 0, 0, 0, 0),
  (49, .iconst 0, 50, 0, 0, 0, (0), 0),
  (50, .putfield 35, 53, 3, 5, 0, 0, 0),
  (53, .aload_n 0, 54, 0, 0, 0, 0, 0),
  (54, .iconst 0, 55, 0, 0, 0, (0), 0),
  (55, .putfield 39, 58, 3, 6, 0, 0, 0),
  (58, .return_, 59, 0, 0, 0, 0, 0)]
def MX3_init : mI := (3, ⟨"CornerFronts$Switching", "<init>", "()V"⟩, prog_5_method_1_code, 1, none, oX3_init)
def oX3_countAll : List (Nat × mE) := [(0, .aload_n 0, 1, 0, 0, 0, 0, 0),
  (1, .aload_n 1, 2, 1, 0, 0, 0, 0),
  (2, .iload_n 2, 3, 2, 0, 0, 0, 0),
  (3, .iconst 0, 4, 0, 0, 0, (0), 0),
  (4, .invokevirtual 42, 7, 37, 3, 3, 0, 0),
  (7, .aload_n 0, 8, 0, 0, 0, 0, 0),
  (8, .iconst 0, 9, 0, 0, 0, (0), 0),
  (9, .iconst 0, 10, 0, 0, 0, (0), 0),
  (10, .iconst 0, 11, 0, 0, 0, (0), 0),
  (11, .invokevirtual 46, 14, 39, 3, 3, 0, 0),
  (14, .return_, 15, 0, 0, 0, 0, 0)]
def MX3_countAll : mI := (3, ⟨"CornerFronts$Switching", "countAll", "(LCornerFronts$Ways;I)V"⟩, prog_5_method_2_code, 3, none, oX3_countAll)
def oX3_findFirst : List (Nat × mE) := [(0, .aload_n 0, 1, 0, 0, 0, 0, 0),
  (1, .aload_n 1, 2, 1, 0, 0, 0, 0),
  (2, .iload_n 2, 3, 2, 0, 0, 0, 0),
  (3, .iconst 1, 4, 0, 0, 0, (1), 0),
  (4, .invokevirtual 42, 7, 37, 3, 3, 0, 0),
  (7, .aload_n 0, 8, 0, 0, 0, 0, 0),
  (8, .iconst 0, 9, 0, 0, 0, (0), 0),
  (9, .iconst 0, 10, 0, 0, 0, (0), 0),
  (10, .iconst 0, 11, 0, 0, 0, (0), 0),
  (11, .invokevirtual 46, 14, 39, 3, 3, 0, 0),
  (14, .return_, 15, 0, 0, 0, 0, 0)]
def MX3_findFirst : mI := (3, ⟨"CornerFronts$Switching", "findFirst", "(LCornerFronts$Ways;I)V"⟩, prog_5_method_3_code, 3, none, oX3_findFirst)
def oX3_foundWith : List (Nat × mE) := [(0, .iload_n 1, 1, 1, 0, 0, 0, 0),
  (1, .ifCond .lt 18, 4, 19, 0, 0, 0, 0),
  (4, .iload_n 1, 5, 1, 0, 0, 0, 0),
  (5, .bipush 12, 7, 0, 0, 0, (12), 0),
  (7, .if_icmp .gt 12, 10, 19, 0, 0, 0, 0),
  (10, .aload_n 0, 11, 0, 0, 0, 0, 0),
  (11, .getfield 27, 14, 3, 3, 0, 0, 0),
  (14, .iload_n 1, 15, 1, 0, 0, 0, 0),
  (15, .iaload, 16, 0, 0, 0, 0, 0),
  (16, .goto 4, 19, 20, 0, 0, 0, 0),
  (19, .iconst 0, 20, 0, 0, 0, (0), 0),
  (20, .ireturn, 21, 0, 0, 0, 0, 0)]
def MX3_foundWith : mI := (3, ⟨"CornerFronts$Switching", "foundWith", "(I)I"⟩, prog_5_method_4_code, 2, (some (.int)), oX3_foundWith)
def oX3_begin : List (Nat × mE) := [(0, .aload_n 0, 1, 0, 0, 0, 0, 0),
  (1, .aload_n 1, 2, 1, 0, 0, 0, 0),
  (2, .getfield 50, 5, 5, 0, 0, 0, 0),
  (5, .putfield 12, 8, 3, 0, 2, 0, 0),
  (8, .aload_n 0, 9, 0, 0, 0, 0, 0),
  (9, .iload_n 3, 10, 3, 0, 0, 0, 0),
  (10, .putfield 31, 13, 3, 4, 1, 0, 0),
  (13, .aload_n 0, 14, 0, 0, 0, 0, 0),
  (14, .iconst 0, 15, 0, 0, 0, (0), 0),
  (15, .putfield 35, 18, 3, 5, 0, 0, 0),
  (18, .aload_n 0, 19, 0, 0, 0, 0, 0),
  (19, .iconst 0, 20, 0, 0, 0, (0), 0),
  (20, .putfield 39, 23, 3, 6, 0, 0, 0),
  (23, .iconst 0, 24, 0, 0, 0, (0), 0),
  (24, .istore 4, 26, 4, 0, 0, 0, 0),
  (26, .iload 4, 28, 4, 0, 0, 0, 0),
  (28, .bipush 12, 30, 0, 0, 0, (12), 0),
  (30, .if_icmp .gt 17, 33, 47, 0, 0, 0, 0),
  (33, .aload_n 0, 34, 0, 0, 0, 0, 0),
  (34, .getfield 27, 37, 3, 3, 0, 0, 0),
  (37, .iload 4, 39, 4, 0, 0, 0, 0),
  (39, .iconst 0, 40, 0, 0, 0, (0), 0),
  (40, .iastore, 41, 0, 0, 0, 0, 0),
  (41, .iinc 4 1, 44, 4, 0, 0, (1), 0),
  (44, .goto (-18), 47, 26, 0, 0, 0, 0),
  (47, .iconst 0, 48, 0, 0, 0, (0), 0),
  (48, .istore 4, 50, 4, 0, 0, 0, 0),
  (50, .iload 4, 52, 4, 0, 0, 0, 0),
  (52, .aload_n 0, 53, 0, 0, 0, 0, 0),
  (53, .getfield 12, 56, 3, 0, 0, 0, 0),
  (56, .getfield 53, 59, 0, 3, 0, 0, 0),
  (59, .if_icmp .ge 45, 62, 104, 0, 0, 0, 0),
  (62, .aload_n 0, 63, 0, 0, 0, 0, 0),
  (63, .getfield 23, 66, 3, 2, 0, 0, 0),
  (66, .iload 4, 68, 4, 0, 0, 0, 0),
  (68, .aload_n 0, 69, 0, 0, 0, 0, 0),
  (69, .getfield 12, 72, 3, 0, 0, 0, 0),
  (72, .getfield 56, 75, 0, 0, 0, 0, 0),
  (75, .iload 4, 77, 4, 0, 0, 0, 0),
  (77, .iaload, 78, 0, 0, 0, 0, 0),
  (78, .iconst 1, 79, 0, 0, 0, (1), 0),
  (79, .if_icmp .ne 17, 82, 96, 0, 0, 0, 0),
  (82, .aload_n 1, 83, 1, 0, 0, 0, 0),
  (83, .iload_n 2, 84, 2, 0, 0, 0, 0),
  (84, .iload 4, 86, 4, 0, 0, 0, 0),
  (86, .invokestatic 59, 89, 38, 3, 3, 0, 0),
  (89, .ifCond .eq 7, 92, 96, 0, 0, 0, 0),
  (92, .iconst 1, 93, 0, 0, 0, (1), 0),
  (93, .goto 4, 96, 97, 0, 0, 0, 0),
  (96, .iconst 0, 97, 0, 0, 0, (0), 0),
  (97, .bastore, 98, 2, 0, 0, 0, 0),
  (98, .iinc 4 1, 101, 4, 0, 0, (1), 0),
  (101, .goto (-51), 104, 50, 0, 0, 0, 0),
  (104, .return_, 105, 0, 0, 0, 0, 0)]
def MX3_begin : mI := (3, ⟨"CornerFronts$Switching", "begin", "(LCornerFronts$Ways;IZ)V"⟩, prog_5_method_5_code, 5, none, oX3_begin)
def oX3_isOfSort : List (Nat × mE) := [(0, .iload_n 1, 1, 1, 0, 0, 0, 0),
  (1, .lookupswitch 35 #[(0, 27), (1, 29)], 28, 0, 0, 0, 0, 0),
  (28, .iconst 1, 29, 0, 0, 0, (1), 0),
  (29, .ireturn, 30, 0, 0, 1, 0, 0),
  (30, .aload_n 0, 31, 0, 0, 0, 0, 0),
  (31, .iload_n 2, 32, 2, 0, 0, 0, 0),
  (32, .invokevirtual 63, 35, 68, 1, 5, 0, 0),
  (35, .ireturn, 36, 0, 0, 1, 0, 0),
  (36, .aload_n 0, 37, 0, 0, 0, 0, 0),
  (37, .iload_n 2, 38, 2, 0, 0, 0, 0),
  (38, .invokevirtual 67, 41, 75, 1, 5, 0, 0),
  (41, .ifCond .ne 7, 44, 48, 0, 0, 0, 0),
  (44, .iconst 1, 45, 0, 0, 0, (1), 0),
  (45, .goto 4, 48, 49, 0, 0, 0, 0),
  (48, .iconst 0, 49, 0, 0, 0, (0), 0),
  (49, .ireturn, 50, 0, 0, 1, 0, 0)]
def MX3_isOfSort : mI := (3, ⟨"CornerFronts$Switching", "isOfSort", "(LCornerFronts$Ways;II)Z"⟩, prog_5_method_6_code, 3, (some (.boolean)), oX3_isOfSort)
def oX3_search : List (Nat × mE) := [(0, .iload_n 1, 1, 1, 0, 0, 0, 0),
  (1, .aload_n 0, 2, 0, 0, 0, 0, 0),
  (2, .getfield 12, 5, 3, 0, 0, 0, 0),
  (5, .getfield 53, 8, 0, 3, 0, 0, 0),
  (8, .if_icmp .ge 9, 11, 17, 0, 0, 0, 0),
  (11, .iload_n 1, 12, 1, 0, 0, 0, 0),
  (12, .bipush 30, 14, 0, 0, 0, (30), 0),
  (14, .if_icmp .lt 9, 17, 23, 0, 0, 0, 0),
  (17, .aload_n 0, 18, 0, 0, 0, 0, 0),
  (18, .iload_n 3, 19, 3, 0, 0, 0, 0),
  (19, .invokevirtual 71, 22, 42, 1, 3, 0, 0),
  (22, .return_, 23, 0, 0, 0, 0, 0),
  (23, .aload_n 0, 24, 0, 0, 0, 0, 0),
  (24, .getfield 12, 27, 3, 0, 0, 0, 0),
  (27, .getfield 75, 30, 0, 1, 0, 0, 0),
  (30, .iload_n 1, 31, 1, 0, 0, 0, 0),
  (31, .iaload, 32, 0, 0, 0, 0, 0),
  (32, .istore 4, 34, 4, 0, 0, 0, 0),
  (34, .aload_n 0, 35, 0, 0, 0, 0, 0),
  (35, .getfield 12, 38, 3, 0, 0, 0, 0),
  (38, .getfield 56, 41, 0, 0, 0, 0, 0),
  (41, .iload_n 1, 42, 1, 0, 0, 0, 0),
  (42, .iaload, 43, 0, 0, 0, 0, 0),
  (43, .ifCond .ne 22, 46, 65, 0, 0, 0, 0),
  (46, .aload_n 0, 47, 0, 0, 0, 0, 0),
  (47, .iload_n 1, 48, 1, 0, 0, 0, 0),
  (48, .iload 4, 50, 4, 0, 0, 0, 0),
  (50, .invokevirtual 78, 53, 43, 2, 3, 0, 0),
  (53, .aload_n 0, 54, 0, 0, 0, 0, 0),
  (54, .iload_n 1, 55, 1, 0, 0, 0, 0),
  (55, .iconst 1, 56, 0, 0, 0, (1), 0),
  (56, .iadd, 57, 0, 0, 0, 0, 0),
  (57, .iload_n 2, 58, 2, 0, 0, 0, 0),
  (58, .iload_n 3, 59, 3, 0, 0, 0, 0),
  (59, .invokevirtual 46, 62, 39, 3, 3, 0, 0),
  (62, .goto 49, 65, 111, 0, 0, 0, 0),
  (65, .aload_n 0, 66, 0, 0, 0, 0, 0),
  (66, .getfield 20, 69, 3, 1, 0, 0, 0),
  (69, .iload_n 1, 70, 1, 0, 0, 0, 0),
  (70, .aaload, 71, 3, 0, 0, 0, 0),
  (71, .iload 4, 73, 4, 0, 0, 0, 0),
  (73, .iaload, 74, 0, 0, 0, 0, 0),
  (74, .iload 4, 76, 4, 0, 0, 0, 0),
  (76, .iconst 1, 77, 0, 0, 0, (1), 0),
  (77, .iadd, 78, 0, 0, 0, 0, 0),
  (78, .if_icmp .ne 13, 81, 91, 0, 0, 0, 0),
  (81, .aload_n 0, 82, 0, 0, 0, 0, 0),
  (82, .iload_n 1, 83, 1, 0, 0, 0, 0),
  (83, .iload_n 2, 84, 2, 0, 0, 0, 0),
  (84, .iload_n 3, 85, 3, 0, 0, 0, 0),
  (85, .invokevirtual 82, 88, 40, 3, 3, 0, 0),
  (88, .goto 23, 91, 111, 0, 0, 0, 0),
  (91, .aload_n 0, 92, 0, 0, 0, 0, 0),
  (92, .getfield 12, 95, 3, 0, 0, 0, 0),
  (95, .getfield 56, 98, 0, 0, 0, 0, 0),
  (98, .iload_n 1, 99, 1, 0, 0, 0, 0),
  (99, .iaload, 100, 0, 0, 0, 0, 0),
  (100, .iconst 1, 101, 0, 0, 0, (1), 0),
  (101, .if_icmp .ne 10, 104, 111, 0, 0, 0, 0),
  (104, .aload_n 0, 105, 0, 0, 0, 0, 0),
  (105, .iload_n 1, 106, 1, 0, 0, 0, 0),
  (106, .iload_n 2, 107, 2, 0, 0, 0, 0),
  (107, .iload_n 3, 108, 3, 0, 0, 0, 0),
  (108, .invokevirtual 85, 111, 41, 3, 3, 0, 0),
  (111, .return_, 112, 0, 0, 0, 0, 0)]
def MX3_search : mI := (3, ⟨"CornerFronts$Switching", "search", "(III)V"⟩, prog_5_method_7_code, 5, none, oX3_search)
def oX3_searchPaired : List (Nat × mE) := [(0, .aload_n 0, 1, 0, 0, 0, 0, 0),
  (1, .getfield 12, 4, 3, 0, 0, 0, 0),
  (4, .getfield 56, 7, 0, 0, 0, 0, 0),
  (7, .iload_n 1, 8, 1, 0, 0, 0, 0),
  (8, .iaload, 9, 0, 0, 0, 0, 0),
  (9, .iconst 2, 10, 0, 0, 0, (2), 0),
  (10, .if_icmp .ne 26, 13, 36, 0, 0, 0, 0),
  (13, .aload_n 0, 14, 0, 0, 0, 0, 0),
  (14, .iload_n 1, 15, 1, 0, 0, 0, 0),
  (15, .aload_n 0, 16, 0, 0, 0, 0, 0),
  (16, .getfield 12, 19, 3, 0, 0, 0, 0),
  (19, .getfield 75, 22, 0, 1, 0, 0, 0),
  (22, .iload_n 1, 23, 1, 0, 0, 0, 0),
  (23, .iaload, 24, 0, 0, 0, 0, 0),
  (24, .invokevirtual 88, 27, 44, 2, 3, 0, 0),
  (27, .aload_n 0, 28, 0, 0, 0, 0, 0),
  (28, .iload_n 1, 29, 1, 0, 0, 0, 0),
  (29, .iconst 1, 30, 0, 0, 0, (1), 0),
  (30, .iadd, 31, 0, 0, 0, 0, 0),
  (31, .iload_n 2, 32, 2, 0, 0, 0, 0),
  (32, .iload_n 3, 33, 3, 0, 0, 0, 0),
  (33, .invokevirtual 46, 36, 39, 3, 3, 0, 0),
  (36, .return_, 37, 0, 0, 0, 0, 0)]
def MX3_searchPaired : mI := (3, ⟨"CornerFronts$Switching", "searchPaired", "(III)V"⟩, prog_5_method_8_code, 4, none, oX3_searchPaired)
def oX3_searchCross : List (Nat × mE) := [(0, .aload_n 0, 1, 0, 0, 0, 0, 0),
  (1, .getfield 12, 4, 3, 0, 0, 0, 0),
  (4, .getfield 75, 7, 0, 1, 0, 0, 0),
  (7, .iload_n 1, 8, 1, 0, 0, 0, 0),
  (8, .iaload, 9, 0, 0, 0, 0, 0),
  (9, .istore 4, 11, 4, 0, 0, 0, 0),
  (11, .aload_n 0, 12, 0, 0, 0, 0, 0),
  (12, .iload_n 1, 13, 1, 0, 0, 0, 0),
  (13, .iload 4, 15, 4, 0, 0, 0, 0),
  (15, .invokevirtual 91, 18, 45, 2, 3, 0, 0),
  (18, .aload_n 0, 19, 0, 0, 0, 0, 0),
  (19, .iload_n 1, 20, 1, 0, 0, 0, 0),
  (20, .iconst 1, 21, 0, 0, 0, (1), 0),
  (21, .iadd, 22, 0, 0, 0, 0, 0),
  (22, .iload_n 2, 23, 2, 0, 0, 0, 0),
  (23, .iconst 1, 24, 0, 0, 0, (1), 0),
  (24, .iadd, 25, 0, 0, 0, 0, 0),
  (25, .iload_n 3, 26, 3, 0, 0, 0, 0),
  (26, .invokevirtual 46, 29, 39, 3, 3, 0, 0),
  (29, .aload_n 0, 30, 0, 0, 0, 0, 0),
  (30, .getfield 31, 33, 3, 4, 0, 0, 0),
  (33, .ifCond .eq 11, 36, 44, 0, 0, 0, 0),
  (36, .aload_n 0, 37, 0, 0, 0, 0, 0),
  (37, .getfield 35, 40, 3, 5, 0, 0, 0),
  (40, .ifCond .le 4, 43, 44, 0, 0, 0, 0),
  (43, .return_, 44, 0, 0, 0, 0, 0),
  (44, .aload_n 0, 45, 0, 0, 0, 0, 0),
  (45, .getfield 23, 48, 3, 2, 0, 0, 0),
  (48, .iload_n 1, 49, 1, 0, 0, 0, 0),
  (49, .baload, 50, 2, 0, 0, 0, 0),
  (50, .ifCond .eq 49, 53, 99, 0, 0, 0, 0),
  (53, .aload_n 0, 54, 0, 0, 0, 0, 0),
  (54, .iload_n 1, 55, 1, 0, 0, 0, 0),
  (55, .iload 4, 57, 4, 0, 0, 0, 0),
  (57, .invokevirtual 94, 60, 46, 2, 3, 0, 0),
  (60, .ifCond .ne 39, 63, 99, 0, 0, 0, 0),
  (63, .aload_n 0, 64, 0, 0, 0, 0, 0),
  (64, .getfield 20, 67, 3, 1, 0, 0, 0),
  (67, .iload_n 1, 68, 1, 0, 0, 0, 0),
  (68, .aaload, 69, 3, 0, 0, 0, 0),
  (69, .iconst 0, 70, 0, 0, 0, (0), 0),
  (70, .aload_n 0, 71, 0, 0, 0, 0, 0),
  (71, .getfield 20, 74, 3, 1, 0, 0, 0),
  (74, .iload_n 1, 75, 1, 0, 0, 0, 0),
  (75, .iconst 1, 76, 0, 0, 0, (1), 0),
  (76, .iadd, 77, 0, 0, 0, 0, 0),
  (77, .aaload, 78, 3, 0, 0, 0, 0),
  (78, .iconst 0, 79, 0, 0, 0, (0), 0),
  (79, .bipush 10, 81, 0, 0, 0, (10), 0),
  (81, .invokestatic 98, 84, 1000, 0, 0, 0, 0),
  (84, .aload_n 0, 85, 0, 0, 0, 0, 0),
  (85, .iload_n 1, 86, 1, 0, 0, 0, 0),
  (86, .iconst 1, 87, 0, 0, 0, (1), 0),
  (87, .iadd, 88, 0, 0, 0, 0, 0),
  (88, .iload_n 2, 89, 2, 0, 0, 0, 0),
  (89, .iconst 1, 90, 0, 0, 0, (1), 0),
  (90, .iadd, 91, 0, 0, 0, 0, 0),
  (91, .iload_n 3, 92, 3, 0, 0, 0, 0),
  (92, .iconst 1, 93, 0, 0, 0, (1), 0),
  (93, .iload_n 2, 94, 2, 0, 0, 0, 0),
  (94, .ishl, 95, 0, 0, 0, 0, 0),
  (95, .ior, 96, 0, 0, 0, 0, 0),
  (96, .invokevirtual 46, 99, 39, 3, 3, 0, 0),
  (99, .return_, 100, 0, 0, 0, 0, 0)]
def MX3_searchCross : mI := (3, ⟨"CornerFronts$Switching", "searchCross", "(III)V"⟩, prog_5_method_9_code, 5, none, oX3_searchCross)
def oX3_note : List (Nat × mE) := [(0, .aload_n 0, 1, 0, 0, 0, 0, 0),
  (1, .getfield 35, 4, 3, 5, 0, 0, 0),
  (4, .ifCond .ne 8, 7, 12, 0, 0, 0, 0),
  (7, .aload_n 0, 8, 0, 0, 0, 0, 0),
  (8, .iload_n 1, 9, 1, 0, 0, 0, 0),
  (9, .putfield 39, 12, 3, 6, 0, 0, 0),
  (12, .aload_n 0, 13, 0, 0, 0, 0, 0),
  (13, .dup, 14, 0, 0, 0, 0, 0),
  (14, .getfield 35, 17, 3, 5, 0, 0, 0),
  (17, .iconst 1, 18, 0, 0, 0, (1), 0),
  (18, .iadd, 19, 0, 0, 0, 0, 0),
  (19, .putfield 35, 22, 3, 5, 0, 0, 0),
  (22, .iload_n 1, 23, 1, 0, 0, 0, 0),
  (23, .invokestatic 104, 26, 175, 1, 9, 0, 0),
  (26, .istore_n 2, 27, 2, 0, 0, 0, 0),
  (27, .iload_n 2, 28, 2, 0, 0, 0, 0),
  (28, .bipush 12, 30, 0, 0, 0, (12), 0),
  (30, .if_icmp .gt 13, 33, 43, 0, 0, 0, 0),
  (33, .aload_n 0, 34, 0, 0, 0, 0, 0),
  (34, .getfield 27, 37, 3, 3, 0, 0, 0),
  (37, .iload_n 2, 38, 2, 0, 0, 0, 0),
  (38, .dup2, 39, 0, 0, 0, 0, 0),
  (39, .iaload, 40, 0, 0, 0, 0, 0),
  (40, .iconst 1, 41, 0, 0, 0, (1), 0),
  (41, .iadd, 42, 0, 0, 0, 0, 0),
  (42, .iastore, 43, 0, 0, 0, 0, 0),
  (43, .return_, 44, 0, 0, 0, 0, 0)]
def MX3_note : mI := (3, ⟨"CornerFronts$Switching", "note", "(I)V"⟩, prog_5_method_10_code, 3, none, oX3_note)
def oX3_pairNew : List (Nat × mE) := [(0, .aload_n 0, 1, 0, 0, 0, 0, 0),
  (1, .getfield 20, 4, 3, 1, 0, 0, 0),
  (4, .iload_n 1, 5, 1, 0, 0, 0, 0),
  (5, .aaload, 6, 3, 0, 0, 0, 0),
  (6, .astore_n 3, 7, 3, 0, 0, 0, 0),
  (7, .aload_n 0, 8, 0, 0, 0, 0, 0),
  (8, .getfield 20, 11, 3, 1, 0, 0, 0),
  (11, .iload_n 1, 12, 1, 0, 0, 0, 0),
  (12, .iconst 1, 13, 0, 0, 0, (1), 0),
  (13, .iadd, 14, 0, 0, 0, 0, 0),
  (14, .aaload, 15, 3, 0, 0, 0, 0),
  (15, .astore 4, 17, 4, 0, 0, 0, 0),
  (17, .iconst 0, 18, 0, 0, 0, (0), 0),
  (18, .istore 5, 20, 5, 0, 0, 0, 0),
  (20, .iload 5, 22, 5, 0, 0, 0, 0),
  (22, .aload_n 0, 23, 0, 0, 0, 0, 0),
  (23, .getfield 12, 26, 3, 0, 0, 0, 0),
  (26, .getfield 109, 29, 0, 2, 0, 0, 0),
  (29, .iload_n 1, 30, 1, 0, 0, 0, 0),
  (30, .iaload, 31, 0, 0, 0, 0, 0),
  (31, .if_icmp .ge 48, 34, 79, 0, 0, 0, 0),
  (34, .aload_n 3, 35, 3, 0, 0, 0, 0),
  (35, .iload 5, 37, 5, 0, 0, 0, 0),
  (37, .iaload, 38, 0, 0, 0, 0, 0),
  (38, .istore 6, 40, 6, 0, 0, 0, 0),
  (40, .aload 4, 42, 4, 0, 0, 0, 0),
  (42, .iload 5, 44, 5, 0, 0, 0, 0),
  (44, .iload_n 2, 45, 2, 0, 0, 0, 0),
  (45, .if_icmp .ge 8, 48, 53, 0, 0, 0, 0),
  (48, .iload 5, 50, 5, 0, 0, 0, 0),
  (50, .goto 7, 53, 57, 0, 0, 0, 0),
  (53, .iload 5, 55, 5, 0, 0, 0, 0),
  (55, .iconst 2, 56, 0, 0, 0, (2), 0),
  (56, .iadd, 57, 0, 0, 0, 0, 0),
  (57, .iload 6, 59, 6, 0, 0, 0, 0),
  (59, .iload_n 2, 60, 2, 0, 0, 0, 0),
  (60, .if_icmp .ge 8, 63, 68, 0, 0, 0, 0),
  (63, .iload 6, 65, 6, 0, 0, 0, 0),
  (65, .goto 7, 68, 72, 0, 0, 0, 0),
  (68, .iload 6, 70, 6, 0, 0, 0, 0),
  (70, .iconst 2, 71, 0, 0, 0, (2), 0),
  (71, .iadd, 72, 0, 0, 0, 0, 0),
  (72, .iastore, 73, 0, 0, 0, 0, 0),
  (73, .iinc 5 1, 76, 5, 0, 0, (1), 0),
  (76, .goto (-56), 79, 20, 0, 0, 0, 0),
  (79, .aload 4, 81, 4, 0, 0, 0, 0),
  (81, .iload_n 2, 82, 2, 0, 0, 0, 0),
  (82, .iload_n 2, 83, 2, 0, 0, 0, 0),
  (83, .iconst 1, 84, 0, 0, 0, (1), 0),
  (84, .iadd, 85, 0, 0, 0, 0, 0),
  (85, .iastore, 86, 0, 0, 0, 0, 0),
  (86, .aload 4, 88, 4, 0, 0, 0, 0),
  (88, .iload_n 2, 89, 2, 0, 0, 0, 0),
  (89, .iconst 1, 90, 0, 0, 0, (1), 0),
  (90, .iadd, 91, 0, 0, 0, 0, 0),
  (91, .iload_n 2, 92, 2, 0, 0, 0, 0),
  (92, .iastore, 93, 0, 0, 0, 0, 0),
  (93, .return_, 94, 0, 0, 0, 0, 0)]
def MX3_pairNew : mI := (3, ⟨"CornerFronts$Switching", "pairNew", "(II)V"⟩, prog_5_method_11_code, 7, none, oX3_pairNew)
def oX3_dropPair : List (Nat × mE) := [(0, .aload_n 0, 1, 0, 0, 0, 0, 0),
  (1, .getfield 20, 4, 3, 1, 0, 0, 0),
  (4, .iload_n 1, 5, 1, 0, 0, 0, 0),
  (5, .aaload, 6, 3, 0, 0, 0, 0),
  (6, .astore_n 3, 7, 3, 0, 0, 0, 0),
  (7, .aload_n 0, 8, 0, 0, 0, 0, 0),
  (8, .getfield 20, 11, 3, 1, 0, 0, 0),
  (11, .iload_n 1, 12, 1, 0, 0, 0, 0),
  (12, .iconst 1, 13, 0, 0, 0, (1), 0),
  (13, .iadd, 14, 0, 0, 0, 0, 0),
  (14, .aaload, 15, 3, 0, 0, 0, 0),
  (15, .astore 4, 17, 4, 0, 0, 0, 0),
  (17, .iconst 0, 18, 0, 0, 0, (0), 0),
  (18, .istore 5, 20, 5, 0, 0, 0, 0),
  (20, .iload 5, 22, 5, 0, 0, 0, 0),
  (22, .aload_n 0, 23, 0, 0, 0, 0, 0),
  (23, .getfield 12, 26, 3, 0, 0, 0, 0),
  (26, .getfield 109, 29, 0, 2, 0, 0, 0),
  (29, .iload_n 1, 30, 1, 0, 0, 0, 0),
  (30, .iaload, 31, 0, 0, 0, 0, 0),
  (31, .if_icmp .ge 62, 34, 93, 0, 0, 0, 0),
  (34, .aload_n 3, 35, 3, 0, 0, 0, 0),
  (35, .iload 5, 37, 5, 0, 0, 0, 0),
  (37, .iaload, 38, 0, 0, 0, 0, 0),
  (38, .istore 6, 40, 6, 0, 0, 0, 0),
  (40, .iload 5, 42, 5, 0, 0, 0, 0),
  (42, .iload_n 2, 43, 2, 0, 0, 0, 0),
  (43, .if_icmp .lt 11, 46, 54, 0, 0, 0, 0),
  (46, .iload 5, 48, 5, 0, 0, 0, 0),
  (48, .iload_n 2, 49, 2, 0, 0, 0, 0),
  (49, .iconst 1, 50, 0, 0, 0, (1), 0),
  (50, .iadd, 51, 0, 0, 0, 0, 0),
  (51, .if_icmp .le 36, 54, 87, 0, 0, 0, 0),
  (54, .aload 4, 56, 4, 0, 0, 0, 0),
  (56, .iload 5, 58, 5, 0, 0, 0, 0),
  (58, .iload_n 2, 59, 2, 0, 0, 0, 0),
  (59, .if_icmp .ge 8, 62, 67, 0, 0, 0, 0),
  (62, .iload 5, 64, 5, 0, 0, 0, 0),
  (64, .goto 7, 67, 71, 0, 0, 0, 0),
  (67, .iload 5, 69, 5, 0, 0, 0, 0),
  (69, .iconst 2, 70, 0, 0, 0, (2), 0),
  (70, .isub, 71, 0, 0, 0, 0, 0),
  (71, .iload 6, 73, 6, 0, 0, 0, 0),
  (73, .iload_n 2, 74, 2, 0, 0, 0, 0),
  (74, .if_icmp .ge 8, 77, 82, 0, 0, 0, 0),
  (77, .iload 6, 79, 6, 0, 0, 0, 0),
  (79, .goto 7, 82, 86, 0, 0, 0, 0),
  (82, .iload 6, 84, 6, 0, 0, 0, 0),
  (84, .iconst 2, 85, 0, 0, 0, (2), 0),
  (85, .isub, 86, 0, 0, 0, 0, 0),
  (86, .iastore, 87, 0, 0, 0, 0, 0),
  (87, .iinc 5 1, 90, 5, 0, 0, (1), 0),
  (90, .goto (-70), 93, 20, 0, 0, 0, 0),
  (93, .return_, 94, 0, 0, 0, 0, 0)]
def MX3_dropPair : mI := (3, ⟨"CornerFronts$Switching", "dropPair", "(II)V"⟩, prog_5_method_12_code, 7, none, oX3_dropPair)
def oX3_changePlaces : List (Nat × mE) := [(0, .aload_n 0, 1, 0, 0, 0, 0, 0),
  (1, .getfield 20, 4, 3, 1, 0, 0, 0),
  (4, .iload_n 1, 5, 1, 0, 0, 0, 0),
  (5, .iconst 1, 6, 0, 0, 0, (1), 0),
  (6, .iadd, 7, 0, 0, 0, 0, 0),
  (7, .aaload, 8, 3, 0, 0, 0, 0),
  (8, .astore_n 3, 9, 3, 0, 0, 0, 0),
  (9, .aload_n 0, 10, 0, 0, 0, 0, 0),
  (10, .getfield 20, 13, 3, 1, 0, 0, 0),
  (13, .iload_n 1, 14, 1, 0, 0, 0, 0),
  (14, .aaload, 15, 3, 0, 0, 0, 0),
  (15, .iconst 0, 16, 0, 0, 0, (0), 0),
  (16, .aload_n 3, 17, 3, 0, 0, 0, 0),
  (17, .iconst 0, 18, 0, 0, 0, (0), 0),
  (18, .bipush 10, 20, 0, 0, 0, (10), 0),
  (20, .invokestatic 98, 23, 1000, 0, 0, 0, 0),
  (23, .aload_n 0, 24, 0, 0, 0, 0, 0),
  (24, .getfield 20, 27, 3, 1, 0, 0, 0),
  (27, .iload_n 1, 28, 1, 0, 0, 0, 0),
  (28, .aaload, 29, 3, 0, 0, 0, 0),
  (29, .iload_n 2, 30, 2, 0, 0, 0, 0),
  (30, .iaload, 31, 0, 0, 0, 0, 0),
  (31, .istore 4, 33, 4, 0, 0, 0, 0),
  (33, .aload_n 0, 34, 0, 0, 0, 0, 0),
  (34, .getfield 20, 37, 3, 1, 0, 0, 0),
  (37, .iload_n 1, 38, 1, 0, 0, 0, 0),
  (38, .aaload, 39, 3, 0, 0, 0, 0),
  (39, .iload_n 2, 40, 2, 0, 0, 0, 0),
  (40, .iconst 1, 41, 0, 0, 0, (1), 0),
  (41, .iadd, 42, 0, 0, 0, 0, 0),
  (42, .iaload, 43, 0, 0, 0, 0, 0),
  (43, .istore 5, 45, 5, 0, 0, 0, 0),
  (45, .aload_n 3, 46, 3, 0, 0, 0, 0),
  (46, .iload_n 2, 47, 2, 0, 0, 0, 0),
  (47, .iload 5, 49, 5, 0, 0, 0, 0),
  (49, .iastore, 50, 0, 0, 0, 0, 0),
  (50, .aload_n 3, 51, 3, 0, 0, 0, 0),
  (51, .iload 5, 53, 5, 0, 0, 0, 0),
  (53, .iload_n 2, 54, 2, 0, 0, 0, 0),
  (54, .iastore, 55, 0, 0, 0, 0, 0),
  (55, .aload_n 3, 56, 3, 0, 0, 0, 0),
  (56, .iload_n 2, 57, 2, 0, 0, 0, 0),
  (57, .iconst 1, 58, 0, 0, 0, (1), 0),
  (58, .iadd, 59, 0, 0, 0, 0, 0),
  (59, .iload 4, 61, 4, 0, 0, 0, 0),
  (61, .iastore, 62, 0, 0, 0, 0, 0),
  (62, .aload_n 3, 63, 3, 0, 0, 0, 0),
  (63, .iload 4, 65, 4, 0, 0, 0, 0),
  (65, .iload_n 2, 66, 2, 0, 0, 0, 0),
  (66, .iconst 1, 67, 0, 0, 0, (1), 0),
  (67, .iadd, 68, 0, 0, 0, 0, 0),
  (68, .iastore, 69, 0, 0, 0, 0, 0),
  (69, .return_, 70, 0, 0, 0, 0, 0)]
def MX3_changePlaces : mI := (3, ⟨"CornerFronts$Switching", "changePlaces", "(II)V"⟩, prog_5_method_13_code, 6, none, oX3_changePlaces)
def oX3_interlocked : List (Nat × mE) := [(0, .aload_n 0, 1, 0, 0, 0, 0, 0),
  (1, .getfield 20, 4, 3, 1, 0, 0, 0),
  (4, .iload_n 1, 5, 1, 0, 0, 0, 0),
  (5, .aaload, 6, 3, 0, 0, 0, 0),
  (6, .iload_n 2, 7, 2, 0, 0, 0, 0),
  (7, .iaload, 8, 0, 0, 0, 0, 0),
  (8, .istore_n 3, 9, 3, 0, 0, 0, 0),
  (9, .iload_n 2, 10, 2, 0, 0, 0, 0),
  (10, .iload_n 3, 11, 3, 0, 0, 0, 0),
  (11, .invokestatic 112, 14, 1011, 0, 0, 0, 0),
  (14, .istore 4, 16, 4, 0, 0, 0, 0),
  (16, .iload_n 2, 17, 2, 0, 0, 0, 0),
  (17, .iload_n 3, 18, 3, 0, 0, 0, 0),
  (18, .invokestatic 118, 21, 1010, 0, 0, 0, 0),
  (21, .istore 5, 23, 5, 0, 0, 0, 0),
  (23, .aload_n 0, 24, 0, 0, 0, 0, 0),
  (24, .getfield 20, 27, 3, 1, 0, 0, 0),
  (27, .iload_n 1, 28, 1, 0, 0, 0, 0),
  (28, .aaload, 29, 3, 0, 0, 0, 0),
  (29, .iload_n 2, 30, 2, 0, 0, 0, 0),
  (30, .iconst 1, 31, 0, 0, 0, (1), 0),
  (31, .iadd, 32, 0, 0, 0, 0, 0),
  (32, .iaload, 33, 0, 0, 0, 0, 0),
  (33, .istore 6, 35, 6, 0, 0, 0, 0),
  (35, .iload 4, 37, 4, 0, 0, 0, 0),
  (37, .iload_n 2, 38, 2, 0, 0, 0, 0),
  (38, .iconst 1, 39, 0, 0, 0, (1), 0),
  (39, .iadd, 40, 0, 0, 0, 0, 0),
  (40, .if_icmp .ge 15, 43, 55, 0, 0, 0, 0),
  (43, .iload_n 2, 44, 2, 0, 0, 0, 0),
  (44, .iconst 1, 45, 0, 0, 0, (1), 0),
  (45, .iadd, 46, 0, 0, 0, 0, 0),
  (46, .iload 5, 48, 5, 0, 0, 0, 0),
  (48, .if_icmp .ge 7, 51, 55, 0, 0, 0, 0),
  (51, .iconst 1, 52, 0, 0, 0, (1), 0),
  (52, .goto 4, 55, 56, 0, 0, 0, 0),
  (55, .iconst 0, 56, 0, 0, 0, (0), 0),
  (56, .istore 7, 58, 7, 0, 0, 0, 0),
  (58, .iload 4, 60, 4, 0, 0, 0, 0),
  (60, .iload 6, 62, 6, 0, 0, 0, 0),
  (62, .if_icmp .ge 14, 65, 76, 0, 0, 0, 0),
  (65, .iload 6, 67, 6, 0, 0, 0, 0),
  (67, .iload 5, 69, 5, 0, 0, 0, 0),
  (69, .if_icmp .ge 7, 72, 76, 0, 0, 0, 0),
  (72, .iconst 1, 73, 0, 0, 0, (1), 0),
  (73, .goto 4, 76, 77, 0, 0, 0, 0),
  (76, .iconst 0, 77, 0, 0, 0, (0), 0),
  (77, .istore 8, 79, 8, 0, 0, 0, 0),
  (79, .iload 7, 81, 7, 0, 0, 0, 0),
  (81, .iload 8, 83, 8, 0, 0, 0, 0),
  (83, .if_icmp .eq 7, 86, 90, 0, 0, 0, 0),
  (86, .iconst 1, 87, 0, 0, 0, (1), 0),
  (87, .goto 4, 90, 91, 0, 0, 0, 0),
  (90, .iconst 0, 91, 0, 0, 0, (0), 0),
  (91, .ireturn, 92, 0, 0, 1, 0, 0)]
def MX3_interlocked : mI := (3, ⟨"CornerFronts$Switching", "interlocked", "(II)Z"⟩, prog_5_method_14_code, 9, (some (.boolean)), oX3_interlocked)
def oX4_init : List (Nat × mE) := [(0, .aload_n 0, 1, 0, 0, 0, 0, 0),
  (1, .invokespecial 3, 4, 1001, 0, 0, 0, 0),
  (4, .aload_n 0, 5, 0, 0, 0, 0, 0),
  (5, .bipush 120, 7, 0, 0, 0, (120), 0),
  (7, .newarray .byte, 9, 0, 0, 0, 0, 0),
  (9, .putfield 9, 12, 4, 0, 2, 0, 0),
  (12, .aload_n 0, 13, 0, 0, 0, 0, 0),
  (13, .iconst 0, 14, 0, 0, 0, (0), 0),
  (14, .putfield 15, 17, 4, 1, 0, 0, 0),
  (17, .aload_n 0, 18, 0, 0, 0, 0, 0),
  (18, .iconst 0, 19, 0, 0, 0, (0), 0),
  (19, .putfield 19, 22, 4, 2, 0, 0, 0),
  (22, .aload_n 0, 23, 0, 0, 0, 0, 0),
  (23, .iconst 0, 24, 0, 0, 0, (0), 0),
  (24, .putfield 22, 27, 4, 3, 0, 0, 0),
  (27, .aload_n 0, 28, 0, 0, 0, 0, 0),
  (28, .iconst 0, 29, 0, 0, 0, (0), 0),
  (29, .putfield 25, 32, 4, 4, 0, 0, 0),
  (32, .aload_n 0, 33, 0, 0, 0, 0, 0),
  (33, .iconst 0, 34, 0, 0, 0, (0), 0),
  (34, .putfield 28, 37, 4, 5, 0, 0, 0),
  (37, .return_, 38, 0, 0, 0, 0, 0)]
def MX4_init : mI := (4, ⟨"CornerFronts$Tape", "<init>", "()V"⟩, prog_6_method_1_code, 1, none, oX4_init)
def oX4_take : List (Nat × mE) := [(0, .iconst 0, 1, 0, 0, 0, (0), 0),
  (1, .istore_n 3, 2, 3, 0, 0, 0, 0),
  (2, .iload_n 3, 3, 3, 0, 0, 0, 0),
  (3, .bipush 8, 5, 0, 0, 0, (8), 0),
  (5, .if_icmp .ge 48, 8, 53, 0, 0, 0, 0),
  (8, .aload_n 0, 9, 0, 0, 0, 0, 0),
  (9, .getfield 15, 12, 4, 1, 0, 0, 0),
  (12, .bipush 120, 14, 0, 0, 0, (120), 0),
  (14, .if_icmp .ge 39, 17, 53, 0, 0, 0, 0),
  (17, .aload_n 0, 18, 0, 0, 0, 0, 0),
  (18, .getfield 9, 21, 4, 0, 0, 0, 0),
  (21, .aload_n 0, 22, 0, 0, 0, 0, 0),
  (22, .getfield 15, 25, 4, 1, 0, 0, 0),
  (25, .lload_n 1, 26, 1, 0, 0, 0, 0),
  (26, .bipush 56, 28, 0, 0, 0, (56), 0),
  (28, .bipush 8, 30, 0, 0, 0, (8), 0),
  (30, .iload_n 3, 31, 3, 0, 0, 0, 0),
  (31, .imul, 32, 0, 0, 0, 0, 0),
  (32, .isub, 33, 0, 0, 0, 0, 0),
  (33, .lshr, 34, 0, 0, 0, 0, 0),
  (34, .l2i, 35, 0, 0, 0, 0, 0),
  (35, .i2b, 36, 0, 0, 0, 0, 0),
  (36, .bastore, 37, 1, 0, 0, 0, 0),
  (37, .aload_n 0, 38, 0, 0, 0, 0, 0),
  (38, .dup, 39, 0, 0, 0, 0, 0),
  (39, .getfield 15, 42, 4, 1, 0, 0, 0),
  (42, .iconst 1, 43, 0, 0, 0, (1), 0),
  (43, .iadd, 44, 0, 0, 0, 0, 0),
  (44, .putfield 15, 47, 4, 1, 0, 0, 0),
  (47, .iinc 3 1, 50, 3, 0, 0, (1), 0),
  (50, .goto (-48), 53, 2, 0, 0, 0, 0),
  (53, .return_, 54, 0, 0, 0, 0, 0)]
def MX4_take : mI := (4, ⟨"CornerFronts$Tape", "take", "(J)V"⟩, prog_6_method_2_code, 4, none, oX4_take)
def oX4_tell : List (Nat × mE) := [(0, .aload_n 1, 1, 1, 0, 0, 0, 0),
  (1, .invokevirtual 31, 4, 1, 0, 0, 0, 0),
  (4, .aload_n 0, 5, 0, 0, 0, 0, 0),
  (5, .iconst 0, 6, 0, 0, 0, (0), 0),
  (6, .putfield 19, 9, 4, 2, 0, 0, 0),
  (9, .iconst 0, 10, 0, 0, 0, (0), 0),
  (10, .istore_n 2, 11, 2, 0, 0, 0, 0),
  (11, .iload_n 2, 12, 2, 0, 0, 0, 0),
  (12, .bipush 30, 14, 0, 0, 0, (30), 0),
  (14, .if_icmp .gt 46, 17, 60, 0, 0, 0, 0),
  (17, .aload_n 0, 18, 0, 0, 0, 0, 0),
  (18, .invokevirtual 36, 21, 52, 0, 4, 0, 0),
  (21, .aload_n 0, 22, 0, 0, 0, 0, 0),
  (22, .getfield 22, 25, 4, 3, 0, 0, 0),
  (25, .iconst 3, 26, 0, 0, 0, (3), 0),
  (26, .if_icmp .ne 16, 29, 42, 0, 0, 0, 0),
  (29, .aload_n 1, 30, 1, 0, 0, 0, 0),
  (30, .invokevirtual 39, 33, 3, 0, 0, 0, 0),
  (33, .ifCond .eq 7, 36, 40, 0, 0, 0, 0),
  (36, .iconst 0, 37, 0, 0, 0, (0), 0),
  (37, .goto 4, 40, 41, 0, 0, 0, 0),
  (40, .iconst 2, 41, 0, 0, 0, (2), 0),
  (41, .ireturn, 42, 0, 0, 0, 0, 0),
  (42, .aload_n 0, 43, 0, 0, 0, 0, 0),
  (43, .aload_n 1, 44, 1, 0, 0, 0, 0),
  (44, .invokevirtual 43, 47, 50, 1, 4, 0, 0),
  (47, .istore_n 3, 48, 3, 0, 0, 0, 0),
  (48, .iload_n 3, 49, 3, 0, 0, 0, 0),
  (49, .ifCond .eq 5, 52, 54, 0, 0, 0, 0),
  (52, .iload_n 3, 53, 3, 0, 0, 0, 0),
  (53, .ireturn, 54, 0, 0, 0, 0, 0),
  (54, .iinc 2 1, 57, 2, 0, 0, (1), 0),
  (57, .goto (-46), 60, 11, 0, 0, 0, 0),
  (60, .iconst 4, 61, 0, 0, 0, (4), 0),
  (61, .ireturn, 62, 0, 0, 0, 0, 0)]
def MX4_tell : mI := (4, ⟨"CornerFronts$Tape", "tell", "(LCornerFronts$Front;)I"⟩, prog_6_method_3_code, 4, (some (.int)), oX4_tell)
def oX4_tellEvent : List (Nat × mE) := [(0, .aload_n 0, 1, 0, 0, 0, 0, 0),
  (1, .getfield 22, 4, 4, 3, 0, 0, 0),
  (4, .iconst 1, 5, 0, 0, 0, (1), 0),
  (5, .if_icmp .eq 8, 8, 13, 0, 0, 0, 0),
  (8, .aload_n 0, 9, 0, 0, 0, 0, 0),
  (9, .invokevirtual 47, 12, 51, 0, 4, 0, 0),
  (12, .ireturn, 13, 0, 0, 0, 0, 0),
  (13, .aload_n 0, 14, 0, 0, 0, 0, 0),
  (14, .getfield 28, 17, 4, 5, 0, 0, 0),
  (17, .istore_n 2, 18, 2, 0, 0, 0, 0),
  (18, .aload_n 1, 19, 1, 0, 0, 0, 0),
  (19, .iload_n 2, 20, 2, 0, 0, 0, 0),
  (20, .invokevirtual 51, 23, 4, 1, 0, 0, 0),
  (23, .ifCond .ne 5, 26, 28, 0, 0, 0, 0),
  (26, .iconst 4, 27, 0, 0, 0, (4), 0),
  (27, .ireturn, 28, 0, 0, 0, 0, 0),
  (28, .aload_n 0, 29, 0, 0, 0, 0, 0),
  (29, .invokevirtual 36, 32, 52, 0, 4, 0, 0),
  (32, .aload_n 0, 33, 0, 0, 0, 0, 0),
  (33, .getfield 22, 36, 4, 3, 0, 0, 0),
  (36, .iconst 2, 37, 0, 0, 0, (2), 0),
  (37, .if_icmp .eq 8, 40, 45, 0, 0, 0, 0),
  (40, .aload_n 0, 41, 0, 0, 0, 0, 0),
  (41, .invokevirtual 47, 44, 51, 0, 4, 0, 0),
  (44, .ireturn, 45, 0, 0, 0, 0, 0),
  (45, .aload_n 1, 46, 1, 0, 0, 0, 0),
  (46, .iload_n 2, 47, 2, 0, 0, 0, 0),
  (47, .aload_n 0, 48, 0, 0, 0, 0, 0),
  (48, .getfield 28, 51, 4, 5, 0, 0, 0),
  (51, .invokevirtual 55, 54, 6, 2, 0, 0, 0),
  (54, .ifCond .eq 7, 57, 61, 0, 0, 0, 0),
  (57, .iconst 0, 58, 0, 0, 0, (0), 0),
  (58, .goto 4, 61, 62, 0, 0, 0, 0),
  (61, .iconst 3, 62, 0, 0, 0, (3), 0),
  (62, .ireturn, 63, 0, 0, 0, 0, 0)]
def MX4_tellEvent : mI := (4, ⟨"CornerFronts$Tape", "tellEvent", "(LCornerFronts$Front;)I"⟩, prog_6_method_4_code, 3, (some (.int)), oX4_tellEvent)
def oX4_misplaced : List (Nat × mE) := [(0, .aload_n 0, 1, 0, 0, 0, 0, 0),
  (1, .getfield 22, 4, 4, 3, 0, 0, 0),
  (4, .ifCond .ne 7, 7, 11, 0, 0, 0, 0),
  (7, .iconst 1, 8, 0, 0, 0, (1), 0),
  (8, .goto 4, 11, 12, 0, 0, 0, 0),
  (11, .iconst 2, 12, 0, 0, 0, (2), 0),
  (12, .ireturn, 13, 0, 0, 0, 0, 0)]
def MX4_misplaced : mI := (4, ⟨"CornerFronts$Tape", "misplaced", "()I"⟩, prog_6_method_5_code, 1, (some (.int)), oX4_misplaced)
def oX4_readToken : List (Nat × mE) := [(0, .aload_n 0, 1, 0, 0, 0, 0, 0),
  (1, .getfield 19, 4, 4, 2, 0, 0, 0),
  (4, .aload_n 0, 5, 0, 0, 0, 0, 0),
  (5, .getfield 15, 8, 4, 1, 0, 0, 0),
  (8, .if_icmp .ge 30, 11, 38, 0, 0, 0, 0),
  (11, .aload_n 0, 12, 0, 0, 0, 0, 0),
  (12, .getfield 9, 15, 4, 0, 0, 0, 0),
  (15, .aload_n 0, 16, 0, 0, 0, 0, 0),
  (16, .getfield 19, 19, 4, 2, 0, 0, 0),
  (19, .baload, 20, 1, 0, 0, 0, 0),
  (20, .bipush 32, 22, 0, 0, 0, (32), 0),
  (22, .if_icmp .ne 16, 25, 38, 0, 0, 0, 0),
  (25, .aload_n 0, 26, 0, 0, 0, 0, 0),
  (26, .dup, 27, 0, 0, 0, 0, 0),
  (27, .getfield 19, 30, 4, 2, 0, 0, 0),
  (30, .iconst 1, 31, 0, 0, 0, (1), 0),
  (31, .iadd, 32, 0, 0, 0, 0, 0),
  (32, .putfield 19, 35, 4, 2, 0, 0, 0),
  (35, .goto (-35), 38, 0, 0, 0, 0, 0),
  (38, .aload_n 0, 39, 0, 0, 0, 0, 0),
  (39, .aload_n 0, 40, 0, 0, 0, 0, 0),
  (40, .getfield 19, 43, 4, 2, 0, 0, 0),
  (43, .putfield 25, 46, 4, 4, 0, 0, 0),
  (46, .aload_n 0, 47, 0, 0, 0, 0, 0),
  (47, .getfield 19, 50, 4, 2, 0, 0, 0),
  (50, .aload_n 0, 51, 0, 0, 0, 0, 0),
  (51, .getfield 15, 54, 4, 1, 0, 0, 0),
  (54, .if_icmp .lt 11, 57, 65, 0, 0, 0, 0),
  (57, .aload_n 0, 58, 0, 0, 0, 0, 0),
  (58, .iconst 3, 59, 0, 0, 0, (3), 0),
  (59, .putfield 22, 62, 4, 3, 0, 0, 0),
  (62, .goto 25, 65, 87, 0, 0, 0, 0),
  (65, .aload_n 0, 66, 0, 0, 0, 0, 0),
  (66, .aload_n 0, 67, 0, 0, 0, 0, 0),
  (67, .getfield 19, 70, 4, 2, 0, 0, 0),
  (70, .invokevirtual 59, 73, 55, 1, 4, 0, 0),
  (73, .ifCond .eq 10, 76, 83, 0, 0, 0, 0),
  (76, .aload_n 0, 77, 0, 0, 0, 0, 0),
  (77, .invokevirtual 62, 80, 54, 0, 4, 0, 0),
  (80, .goto 7, 83, 87, 0, 0, 0, 0),
  (83, .aload_n 0, 84, 0, 0, 0, 0, 0),
  (84, .invokevirtual 65, 87, 53, 0, 4, 0, 0),
  (87, .return_, 88, 0, 0, 0, 0, 0)]
def MX4_readToken : mI := (4, ⟨"CornerFronts$Tape", "readToken", "()V"⟩, prog_6_method_6_code, 1, none, oX4_readToken)
def oX4_readLetter : List (Nat × mE) := [(0, .aload_n 0, 1, 0, 0, 0, 0, 0),
  (1, .ldc 68, 3, 0, 0, 0, 0, 0),
  (3, .aload_n 0, 4, 0, 0, 0, 0, 0),
  (4, .getfield 9, 7, 4, 0, 0, 0, 0),
  (7, .aload_n 0, 8, 0, 0, 0, 0, 0),
  (8, .getfield 19, 11, 4, 2, 0, 0, 0),
  (11, .baload, 12, 1, 0, 0, 0, 0),
  (12, .sipush 255, 15, 0, 0, 0, (255), 0),
  (15, .iand, 16, 0, 0, 0, 0, 0),
  (16, .i2c, 17, 0, 0, 0, 0, 0),
  (17, .invokevirtual 70, 20, 999, 0, 0, 0, 0),
  (20, .putfield 28, 23, 4, 5, 0, 0, 0),
  (23, .aload_n 0, 24, 0, 0, 0, 0, 0),
  (24, .aload_n 0, 25, 0, 0, 0, 0, 0),
  (25, .getfield 28, 28, 4, 5, 0, 0, 0),
  (28, .ifCond .ge 7, 31, 35, 0, 0, 0, 0),
  (31, .iconst 0, 32, 0, 0, 0, (0), 0),
  (32, .goto 4, 35, 36, 0, 0, 0, 0),
  (35, .iconst 1, 36, 0, 0, 0, (1), 0),
  (36, .putfield 22, 39, 4, 3, 0, 0, 0),
  (39, .aload_n 0, 40, 0, 0, 0, 0, 0),
  (40, .dup, 41, 0, 0, 0, 0, 0),
  (41, .getfield 19, 44, 4, 2, 0, 0, 0),
  (44, .iconst 1, 45, 0, 0, 0, (1), 0),
  (45, .iadd, 46, 0, 0, 0, 0, 0),
  (46, .putfield 19, 49, 4, 2, 0, 0, 0),
  (49, .return_, 50, 0, 0, 0, 0, 0)]
def MX4_readLetter : mI := (4, ⟨"CornerFronts$Tape", "readLetter", "()V"⟩, prog_6_method_7_code, 1, none, oX4_readLetter)
def oX4_readNumber : List (Nat × mE) := [(0, .aload_n 0, 1, 0, 0, 0, 0, 0),
  (1, .iconst 0, 2, 0, 0, 0, (0), 0),
  (2, .putfield 28, 5, 4, 5, 0, 0, 0),
  (5, .iconst 0, 6, 0, 0, 0, (0), 0),
  (6, .istore_n 1, 7, 1, 0, 0, 0, 0),
  (7, .aload_n 0, 8, 0, 0, 0, 0, 0),
  (8, .getfield 19, 11, 4, 2, 0, 0, 0),
  (11, .aload_n 0, 12, 0, 0, 0, 0, 0),
  (12, .getfield 15, 15, 4, 1, 0, 0, 0),
  (15, .if_icmp .ge 59, 18, 74, 0, 0, 0, 0),
  (18, .aload_n 0, 19, 0, 0, 0, 0, 0),
  (19, .aload_n 0, 20, 0, 0, 0, 0, 0),
  (20, .getfield 19, 23, 4, 2, 0, 0, 0),
  (23, .invokevirtual 59, 26, 55, 1, 4, 0, 0),
  (26, .ifCond .eq 48, 29, 74, 0, 0, 0, 0),
  (29, .iload_n 1, 30, 1, 0, 0, 0, 0),
  (30, .iconst 2, 31, 0, 0, 0, (2), 0),
  (31, .if_icmp .gt 43, 34, 74, 0, 0, 0, 0),
  (34, .aload_n 0, 35, 0, 0, 0, 0, 0),
  (35, .bipush 10, 37, 0, 0, 0, (10), 0),
  (37, .aload_n 0, 38, 0, 0, 0, 0, 0),
  (38, .getfield 28, 41, 4, 5, 0, 0, 0),
  (41, .imul, 42, 0, 0, 0, 0, 0),
  (42, .aload_n 0, 43, 0, 0, 0, 0, 0),
  (43, .getfield 9, 46, 4, 0, 0, 0, 0),
  (46, .aload_n 0, 47, 0, 0, 0, 0, 0),
  (47, .getfield 19, 50, 4, 2, 0, 0, 0),
  (50, .baload, 51, 1, 0, 0, 0, 0),
  (51, .iadd, 52, 0, 0, 0, 0, 0),
  (52, .bipush 48, 54, 0, 0, 0, (48), 0),
  (54, .isub, 55, 0, 0, 0, 0, 0),
  (55, .putfield 28, 58, 4, 5, 0, 0, 0),
  (58, .aload_n 0, 59, 0, 0, 0, 0, 0),
  (59, .dup, 60, 0, 0, 0, 0, 0),
  (60, .getfield 19, 63, 4, 2, 0, 0, 0),
  (63, .iconst 1, 64, 0, 0, 0, (1), 0),
  (64, .iadd, 65, 0, 0, 0, 0, 0),
  (65, .putfield 19, 68, 4, 2, 0, 0, 0),
  (68, .iinc 1 1, 71, 1, 0, 0, (1), 0),
  (71, .goto (-64), 74, 7, 0, 0, 0, 0),
  (74, .aload_n 0, 75, 0, 0, 0, 0, 0),
  (75, .iload_n 1, 76, 1, 0, 0, 0, 0),
  (76, .iconst 2, 77, 0, 0, 0, (2), 0),
  (77, .if_icmp .le 7, 80, 84, 0, 0, 0, 0),
  (80, .iconst 0, 81, 0, 0, 0, (0), 0),
  (81, .goto 4, 84, 85, 0, 0, 0, 0),
  (84, .iconst 2, 85, 0, 0, 0, (2), 0),
  (85, .putfield 22, 88, 4, 3, 0, 0, 0),
  (88, .return_, 89, 0, 0, 0, 0, 0)]
def MX4_readNumber : mI := (4, ⟨"CornerFronts$Tape", "readNumber", "()V"⟩, prog_6_method_8_code, 2, none, oX4_readNumber)
def oX4_isFigure : List (Nat × mE) := [(0, .aload_n 0, 1, 0, 0, 0, 0, 0),
  (1, .getfield 9, 4, 4, 0, 0, 0, 0),
  (4, .iload_n 1, 5, 1, 0, 0, 0, 0),
  (5, .baload, 6, 1, 0, 0, 0, 0),
  (6, .bipush 48, 8, 0, 0, 0, (48), 0),
  (8, .if_icmp .lt 18, 11, 26, 0, 0, 0, 0),
  (11, .aload_n 0, 12, 0, 0, 0, 0, 0),
  (12, .getfield 9, 15, 4, 0, 0, 0, 0),
  (15, .iload_n 1, 16, 1, 0, 0, 0, 0),
  (16, .baload, 17, 1, 0, 0, 0, 0),
  (17, .bipush 57, 19, 0, 0, 0, (57), 0),
  (19, .if_icmp .gt 7, 22, 26, 0, 0, 0, 0),
  (22, .iconst 1, 23, 0, 0, 0, (1), 0),
  (23, .goto 4, 26, 27, 0, 0, 0, 0),
  (26, .iconst 0, 27, 0, 0, 0, (0), 0),
  (27, .ireturn, 28, 0, 0, 1, 0, 0)]
def MX4_isFigure : mI := (4, ⟨"CornerFronts$Tape", "isFigure", "(I)Z"⟩, prog_6_method_9_code, 2, (some (.boolean)), oX4_isFigure)
def oX5_init : List (Nat × mE) := [(0, .aload_n 0, 1, 0, 0, 0, 0, 0),
  (1, .invokespecial 3, 4, 1001, 0, 0, 0, 0),
  (4, .aload_n 0, 5, 0, 0, 0, 0, 0),
  (5, .new 9, 8, 0, 0, 0, 0, 0),
  (8, .dup, 9, 0, 0, 0, 0, 0),
  (9, .invokespecial 11, 12, 0, 0, 0, 0, 0),
  (12, .putfield 12, 15, 5, 0, 2, 0, 0),
  (15, .aload_n 0, 16, 0, 0, 0, 0, 0),
  (16, .bipush 31, 18, 0, 0, 0, (31), 0),
  (18, .bipush 10, 20, 0, 0, 0, (10), 0),
  (20, .multianewarray 18 2, 24, 0, 0, 0, 0, 0),
  (24, .putfield 20, 27, 5, 1, 2, 0, 0),
  (27, .aload_n 0, 28, 0, 0, 0, 0, 0),
  (28, .bipush 30, 30, 0, 0, 0, (30), 0),
  (30, .newarray .int, 32, 0, 0, 0, 0, 0),
  (32, .putfield 23, 35, 5, 2, 2, 0, 0),
  (35, .aload_n 0, 36, 0, 0, 0, 0, 0),
  (36, .bipush 30, 38, 0, 0, 0, (30), 0),
  (38, .newarray .int, 40, 0, 0, 0, 0, 0),
  (40, .putfield 27, 43, 5, 3, 2, 0, 0),
  (43, .aload_n 0, 44, 0, 0, 0, 0, 0),
  (44, .bipush 30, 46, 0, 0, 0, (30), 0),
  (46, .newarray .boolean, 48, 0, 0, 0, 0, 0),
  (48, .putfield 30, 51, 5, 4, 2, 0, 0),
  (51, .aload_n 0, 52, 0, 0, 0, 0, 0),
  (52, .bipush 30, 54, 0, 0, 0, (30), 0),
  (54, .newarray .int, 56, 0, 0, 0, 0, 0),
  (56, .putfield 34, 59, 5, 5, 2, 0, 0),
  (59, .aload_n 0, 60, 0, 0, 0, 0, 0),
  (60, .bipush 30, 62, 0, 0, 0, (30), 0),
  (62, .newarray .boolean, 64, 0, 0, 0, 0, 0),
  (64, .putfield 37, 67, 5, 6, 2, 0, 0),
  (67, .aload_n 0, 68, 0, 0, 0, 0, 0),
  (68, .bipush 30, 70, 0, 0, 0, (30), 0),
  (70, .newarray .int, 72, 0, 0, 0, 0, 0),
  (72, .putfield 40, 75, 5, 7, 2, 0, 0),
  (75, .aload_n 0, 76, 0, 0, 0, 0, 0),
  (76, .iconst 0, 77, 0, 0, 0, (0), 0),
  (77, .putfield 43, 80, 5, 8, 0, 0, 0),
  (80, .aload_n 0, 81, 0, 0, 0, 0, 0),
  (81, .iconst 0, 82, 0, 0, 0, (0), 0),
  (82, .putfield 47, 85, 5, 9, 0, 0, 0),
  (85, .aload_n 0, 86, 0, 0, 0, 0, 0),
  (86, .bipush 15, 88, 0, 0, 0, (15), 0),
  (88, .newarray .int, 90, 0, 0, 0, 0, 0),
  (90, .putfield 50, 93, 5, 10, 2, 0, 0),
  (93, .aload_n 0, 94, 0, 0, 0, 0, 0),
  (94, .bipush 15, 96, 0, 0, 0, (15), 0),
  (96, .newarray .int, 98, 0, 0, 0, 0, 0),
  (98, .putfield 53, 101, 5, 11, 2, 0, 0),
  (101, .aload_n 0, 102, 0, 0, 0, 0, 0),
  (102, .bipush 15, 104, 0, 0, 0, (15), 0),
  (104, .newarray .int, 106, 0, 0, 0, 0, 0),
  (106, .putfield 56, 109, 5, 12, 2, 0, 0),
  (109, .return_, 110, 0, 0, 0, 0, 0)]
def MX5_init : mI := (5, ⟨"CornerFronts$Ways", "<init>", "()V"⟩, prog_7_method_1_code, 1, none, oX5_init)
def oX5_trace : List (Nat × mE) := [(0, .aload_n 0, 1, 0, 0, 0, 0, 0),
  (1, .aload_n 1, 2, 1, 0, 0, 0, 0),
  (2, .putfield 12, 5, 5, 0, 2, 0, 0),
  (5, .aload_n 0, 6, 0, 0, 0, 0, 0),
  (6, .invokevirtual 59, 9, 58, 0, 5, 0, 0),
  (9, .iconst 0, 10, 0, 0, 0, (0), 0),
  (10, .istore_n 2, 11, 2, 0, 0, 0, 0),
  (11, .iload_n 2, 12, 2, 0, 0, 0, 0),
  (12, .aload_n 0, 13, 0, 0, 0, 0, 0),
  (13, .getfield 43, 16, 5, 8, 0, 0, 0),
  (16, .if_icmp .ge 16, 19, 32, 0, 0, 0, 0),
  (19, .aload_n 0, 20, 0, 0, 0, 0, 0),
  (20, .getfield 34, 23, 5, 5, 0, 0, 0),
  (23, .iload_n 2, 24, 2, 0, 0, 0, 0),
  (24, .iconst (-1), 25, 0, 0, 0, (-1), 0),
  (25, .iastore, 26, 0, 0, 0, 0, 0),
  (26, .iinc 2 1, 29, 2, 0, 0, (1), 0),
  (29, .goto (-18), 32, 11, 0, 0, 0, 0),
  (32, .aload_n 0, 33, 0, 0, 0, 0, 0),
  (33, .iconst 0, 34, 0, 0, 0, (0), 0),
  (34, .putfield 47, 37, 5, 9, 0, 0, 0),
  (37, .iconst 1, 38, 0, 0, 0, (1), 0),
  (38, .istore_n 2, 39, 2, 0, 0, 0, 0),
  (39, .iload_n 2, 40, 2, 0, 0, 0, 0),
  (40, .aload_n 0, 41, 0, 0, 0, 0, 0),
  (41, .getfield 43, 44, 5, 8, 0, 0, 0),
  (44, .if_icmp .ge 33, 47, 77, 0, 0, 0, 0),
  (47, .aload_n 0, 48, 0, 0, 0, 0, 0),
  (48, .getfield 34, 51, 5, 5, 0, 0, 0),
  (51, .iload_n 2, 52, 2, 0, 0, 0, 0),
  (52, .iaload, 53, 0, 0, 0, 0, 0),
  (53, .iconst (-1), 54, 0, 0, 0, (-1), 0),
  (54, .if_icmp .ne 17, 57, 71, 0, 0, 0, 0),
  (57, .aload_n 0, 58, 0, 0, 0, 0, 0),
  (58, .getfield 47, 61, 5, 9, 0, 0, 0),
  (61, .bipush 15, 63, 0, 0, 0, (15), 0),
  (63, .if_icmp .ge 8, 66, 71, 0, 0, 0, 0),
  (66, .aload_n 0, 67, 0, 0, 0, 0, 0),
  (67, .iload_n 2, 68, 2, 0, 0, 0, 0),
  (68, .invokevirtual 62, 71, 61, 1, 5, 0, 0),
  (71, .iinc 2 2, 74, 2, 0, 0, (2), 0),
  (74, .goto (-35), 77, 39, 0, 0, 0, 0),
  (77, .return_, 78, 0, 0, 0, 0, 0)]
def MX5_trace : mI := (5, ⟨"CornerFronts$Ways", "trace", "(LCornerFronts$Front;)V"⟩, prog_7_method_2_code, 3, none, oX5_trace)
def oX5_layArcs : List (Nat × mE) := [(0, .aload_n 0, 1, 0, 0, 0, 0, 0),
  (1, .iconst 0, 2, 0, 0, 0, (0), 0),
  (2, .putfield 43, 5, 5, 8, 0, 0, 0),
  (5, .iconst 0, 6, 0, 0, 0, (0), 0),
  (6, .istore_n 1, 7, 1, 0, 0, 0, 0),
  (7, .iload_n 1, 8, 1, 0, 0, 0, 0),
  (8, .aload_n 0, 9, 0, 0, 0, 0, 0),
  (9, .getfield 12, 12, 5, 0, 0, 0, 0),
  (12, .getfield 66, 15, 0, 3, 0, 0, 0),
  (15, .if_icmp .ge 181, 18, 196, 0, 0, 0, 0),
  (18, .aload_n 0, 19, 0, 0, 0, 0, 0),
  (19, .getfield 20, 22, 5, 1, 0, 0, 0),
  (22, .iload_n 1, 23, 1, 0, 0, 0, 0),
  (23, .aaload, 24, 3, 0, 0, 0, 0),
  (24, .astore_n 2, 25, 2, 0, 0, 0, 0),
  (25, .aload_n 0, 26, 0, 0, 0, 0, 0),
  (26, .getfield 20, 29, 5, 1, 0, 0, 0),
  (29, .iload_n 1, 30, 1, 0, 0, 0, 0),
  (30, .iconst 1, 31, 0, 0, 0, (1), 0),
  (31, .iadd, 32, 0, 0, 0, 0, 0),
  (32, .aaload, 33, 3, 0, 0, 0, 0),
  (33, .astore_n 3, 34, 3, 0, 0, 0, 0),
  (34, .aload_n 0, 35, 0, 0, 0, 0, 0),
  (35, .getfield 12, 38, 5, 0, 0, 0, 0),
  (38, .getfield 69, 41, 0, 1, 0, 0, 0),
  (41, .iload_n 1, 42, 1, 0, 0, 0, 0),
  (42, .iaload, 43, 0, 0, 0, 0, 0),
  (43, .istore 4, 45, 4, 0, 0, 0, 0),
  (45, .aload_n 0, 46, 0, 0, 0, 0, 0),
  (46, .getfield 12, 49, 5, 0, 0, 0, 0),
  (49, .getfield 72, 52, 0, 2, 0, 0, 0),
  (52, .iload_n 1, 53, 1, 0, 0, 0, 0),
  (53, .iaload, 54, 0, 0, 0, 0, 0),
  (54, .istore 5, 56, 5, 0, 0, 0, 0),
  (56, .aload_n 0, 57, 0, 0, 0, 0, 0),
  (57, .getfield 12, 60, 5, 0, 0, 0, 0),
  (60, .getfield 75, 63, 0, 0, 0, 0, 0),
  (63, .iload_n 1, 64, 1, 0, 0, 0, 0),
  (64, .iaload, 65, 0, 0, 0, 0, 0),
  (65, .ifCond .ne 39, 68, 104, 0, 0, 0, 0),
  (68, .aload_n 2, 69, 2, 0, 0, 0, 0),
  (69, .iconst 0, 70, 0, 0, 0, (0), 0),
  (70, .aload_n 3, 71, 3, 0, 0, 0, 0),
  (71, .iconst 0, 72, 0, 0, 0, (0), 0),
  (72, .iload 4, 74, 4, 0, 0, 0, 0),
  (74, .invokestatic 78, 77, 1000, 0, 0, 0, 0),
  (77, .aload_n 2, 78, 2, 0, 0, 0, 0),
  (78, .iload 4, 80, 4, 0, 0, 0, 0),
  (80, .aload_n 3, 81, 3, 0, 0, 0, 0),
  (81, .iload 4, 83, 4, 0, 0, 0, 0),
  (83, .iconst 2, 84, 0, 0, 0, (2), 0),
  (84, .iadd, 85, 0, 0, 0, 0, 0),
  (85, .iload 5, 87, 5, 0, 0, 0, 0),
  (87, .iload 4, 89, 4, 0, 0, 0, 0),
  (89, .isub, 90, 0, 0, 0, 0, 0),
  (90, .invokestatic 78, 93, 1000, 0, 0, 0, 0),
  (93, .aload_n 0, 94, 0, 0, 0, 0, 0),
  (94, .iload_n 1, 95, 1, 0, 0, 0, 0),
  (95, .aload_n 3, 96, 3, 0, 0, 0, 0),
  (96, .iload 4, 98, 4, 0, 0, 0, 0),
  (98, .invokevirtual 84, 101, 59, 3, 5, 0, 0),
  (101, .goto 89, 104, 190, 0, 0, 0, 0),
  (104, .aload_n 0, 105, 0, 0, 0, 0, 0),
  (105, .getfield 12, 108, 5, 0, 0, 0, 0),
  (108, .getfield 75, 111, 0, 0, 0, 0, 0),
  (111, .iload_n 1, 112, 1, 0, 0, 0, 0),
  (112, .iaload, 113, 0, 0, 0, 0, 0),
  (113, .iconst 1, 114, 0, 0, 0, (1), 0),
  (114, .if_icmp .ne 35, 117, 149, 0, 0, 0, 0),
  (117, .aload_n 2, 118, 2, 0, 0, 0, 0),
  (118, .iconst 0, 119, 0, 0, 0, (0), 0),
  (119, .aload_n 3, 120, 3, 0, 0, 0, 0),
  (120, .iconst 0, 121, 0, 0, 0, (0), 0),
  (121, .iload 5, 123, 5, 0, 0, 0, 0),
  (123, .invokestatic 78, 126, 1000, 0, 0, 0, 0),
  (126, .aload_n 3, 127, 3, 0, 0, 0, 0),
  (127, .iload 4, 129, 4, 0, 0, 0, 0),
  (129, .aload_n 2, 130, 2, 0, 0, 0, 0),
  (130, .iload 4, 132, 4, 0, 0, 0, 0),
  (132, .iconst 1, 133, 0, 0, 0, (1), 0),
  (133, .iadd, 134, 0, 0, 0, 0, 0),
  (134, .iaload, 135, 0, 0, 0, 0, 0),
  (135, .iastore, 136, 0, 0, 0, 0, 0),
  (136, .aload_n 3, 137, 3, 0, 0, 0, 0),
  (137, .iload 4, 139, 4, 0, 0, 0, 0),
  (139, .iconst 1, 140, 0, 0, 0, (1), 0),
  (140, .iadd, 141, 0, 0, 0, 0, 0),
  (141, .aload_n 2, 142, 2, 0, 0, 0, 0),
  (142, .iload 4, 144, 4, 0, 0, 0, 0),
  (144, .iaload, 145, 0, 0, 0, 0, 0),
  (145, .iastore, 146, 0, 0, 0, 0, 0),
  (146, .goto 44, 149, 190, 0, 0, 0, 0),
  (149, .aload_n 2, 150, 2, 0, 0, 0, 0),
  (150, .iconst 0, 151, 0, 0, 0, (0), 0),
  (151, .aload_n 3, 152, 3, 0, 0, 0, 0),
  (152, .iconst 0, 153, 0, 0, 0, (0), 0),
  (153, .iload 4, 155, 4, 0, 0, 0, 0),
  (155, .invokestatic 78, 158, 1000, 0, 0, 0, 0),
  (158, .aload_n 2, 159, 2, 0, 0, 0, 0),
  (159, .iload 4, 161, 4, 0, 0, 0, 0),
  (161, .iconst 2, 162, 0, 0, 0, (2), 0),
  (162, .iadd, 163, 0, 0, 0, 0, 0),
  (163, .aload_n 3, 164, 3, 0, 0, 0, 0),
  (164, .iload 4, 166, 4, 0, 0, 0, 0),
  (166, .iload 5, 168, 5, 0, 0, 0, 0),
  (168, .iload 4, 170, 4, 0, 0, 0, 0),
  (170, .isub, 171, 0, 0, 0, 0, 0),
  (171, .iconst 2, 172, 0, 0, 0, (2), 0),
  (172, .isub, 173, 0, 0, 0, 0, 0),
  (173, .invokestatic 78, 176, 1000, 0, 0, 0, 0),
  (176, .aload_n 0, 177, 0, 0, 0, 0, 0),
  (177, .aload_n 2, 178, 2, 0, 0, 0, 0),
  (178, .iload 4, 180, 4, 0, 0, 0, 0),
  (180, .iaload, 181, 0, 0, 0, 0, 0),
  (181, .aload_n 2, 182, 2, 0, 0, 0, 0),
  (182, .iload 4, 184, 4, 0, 0, 0, 0),
  (184, .iconst 1, 185, 0, 0, 0, (1), 0),
  (185, .iadd, 186, 0, 0, 0, 0, 0),
  (186, .iaload, 187, 0, 0, 0, 0, 0),
  (187, .invokevirtual 88, 190, 60, 2, 5, 0, 0),
  (190, .iinc 1 1, 193, 1, 0, 0, (1), 0),
  (193, .goto (-186), 196, 7, 0, 0, 0, 0),
  (196, .return_, 197, 0, 0, 0, 0, 0)]
def MX5_layArcs : mI := (5, ⟨"CornerFronts$Ways", "layArcs", "()V"⟩, prog_7_method_3_code, 6, none, oX5_layArcs)
def oX5_beginArcs : List (Nat × mE) := [(0, .aload_n 2, 1, 2, 0, 0, 0, 0),
  (1, .iload_n 3, 2, 3, 0, 0, 0, 0),
  (2, .aload_n 0, 3, 0, 0, 0, 0, 0),
  (3, .getfield 43, 6, 5, 8, 0, 0, 0),
  (6, .iastore, 7, 0, 0, 0, 0, 0),
  (7, .aload_n 2, 8, 2, 0, 0, 0, 0),
  (8, .iload_n 3, 9, 3, 0, 0, 0, 0),
  (9, .iconst 1, 10, 0, 0, 0, (1), 0),
  (10, .iadd, 11, 0, 0, 0, 0, 0),
  (11, .aload_n 0, 12, 0, 0, 0, 0, 0),
  (12, .getfield 43, 15, 5, 8, 0, 0, 0),
  (15, .iconst 1, 16, 0, 0, 0, (1), 0),
  (16, .iadd, 17, 0, 0, 0, 0, 0),
  (17, .iastore, 18, 0, 0, 0, 0, 0),
  (18, .aload_n 0, 19, 0, 0, 0, 0, 0),
  (19, .getfield 23, 22, 5, 2, 0, 0, 0),
  (22, .aload_n 0, 23, 0, 0, 0, 0, 0),
  (23, .getfield 43, 26, 5, 8, 0, 0, 0),
  (26, .iload_n 1, 27, 1, 0, 0, 0, 0),
  (27, .iastore, 28, 0, 0, 0, 0, 0),
  (28, .aload_n 0, 29, 0, 0, 0, 0, 0),
  (29, .getfield 23, 32, 5, 2, 0, 0, 0),
  (32, .aload_n 0, 33, 0, 0, 0, 0, 0),
  (33, .getfield 43, 36, 5, 8, 0, 0, 0),
  (36, .iconst 1, 37, 0, 0, 0, (1), 0),
  (37, .iadd, 38, 0, 0, 0, 0, 0),
  (38, .iload_n 1, 39, 1, 0, 0, 0, 0),
  (39, .iastore, 40, 0, 0, 0, 0, 0),
  (40, .aload_n 0, 41, 0, 0, 0, 0, 0),
  (41, .dup, 42, 0, 0, 0, 0, 0),
  (42, .getfield 43, 45, 5, 8, 0, 0, 0),
  (45, .iconst 2, 46, 0, 0, 0, (2), 0),
  (46, .iadd, 47, 0, 0, 0, 0, 0),
  (47, .putfield 43, 50, 5, 8, 0, 0, 0),
  (50, .return_, 51, 0, 0, 0, 0, 0)]
def MX5_beginArcs : mI := (5, ⟨"CornerFronts$Ways", "beginArcs", "(I[II)V"⟩, prog_7_method_4_code, 4, none, oX5_beginArcs)
def oX5_endArcs : List (Nat × mE) := [(0, .aload_n 0, 1, 0, 0, 0, 0, 0),
  (1, .getfield 27, 4, 5, 3, 0, 0, 0),
  (4, .iload_n 1, 5, 1, 0, 0, 0, 0),
  (5, .iload_n 2, 6, 2, 0, 0, 0, 0),
  (6, .iastore, 7, 0, 0, 0, 0, 0),
  (7, .aload_n 0, 8, 0, 0, 0, 0, 0),
  (8, .getfield 27, 11, 5, 3, 0, 0, 0),
  (11, .iload_n 2, 12, 2, 0, 0, 0, 0),
  (12, .iload_n 1, 13, 1, 0, 0, 0, 0),
  (13, .iastore, 14, 0, 0, 0, 0, 0),
  (14, .aload_n 0, 15, 0, 0, 0, 0, 0),
  (15, .getfield 30, 18, 5, 4, 0, 0, 0),
  (18, .iload_n 1, 19, 1, 0, 0, 0, 0),
  (19, .iconst 0, 20, 0, 0, 0, (0), 0),
  (20, .bastore, 21, 2, 0, 0, 0, 0),
  (21, .aload_n 0, 22, 0, 0, 0, 0, 0),
  (22, .getfield 30, 25, 5, 4, 0, 0, 0),
  (25, .iload_n 2, 26, 2, 0, 0, 0, 0),
  (26, .iconst 1, 27, 0, 0, 0, (1), 0),
  (27, .bastore, 28, 2, 0, 0, 0, 0),
  (28, .return_, 29, 0, 0, 0, 0, 0)]
def MX5_endArcs : mI := (5, ⟨"CornerFronts$Ways", "endArcs", "(II)V"⟩, prog_7_method_5_code, 3, none, oX5_endArcs)
def oX5_walk : List (Nat × mE) := [(0, .aload_n 0, 1, 0, 0, 0, 0, 0),
  (1, .getfield 47, 4, 5, 9, 0, 0, 0),
  (4, .istore_n 2, 5, 2, 0, 0, 0, 0),
  (5, .aload_n 0, 6, 0, 0, 0, 0, 0),
  (6, .dup, 7, 0, 0, 0, 0, 0),
  (7, .getfield 47, 10, 5, 9, 0, 0, 0),
  (10, .iconst 1, 11, 0, 0, 0, (1), 0),
  (11, .iadd, 12, 0, 0, 0, 0, 0),
  (12, .putfield 47, 15, 5, 9, 0, 0, 0),
  (15, .aload_n 0, 16, 0, 0, 0, 0, 0),
  (16, .getfield 50, 19, 5, 10, 0, 0, 0),
  (19, .iload_n 2, 20, 2, 0, 0, 0, 0),
  (20, .aload_n 0, 21, 0, 0, 0, 0, 0),
  (21, .getfield 23, 24, 5, 2, 0, 0, 0),
  (24, .iload_n 1, 25, 1, 0, 0, 0, 0),
  (25, .iaload, 26, 0, 0, 0, 0, 0),
  (26, .iastore, 27, 0, 0, 0, 0, 0),
  (27, .aload_n 0, 28, 0, 0, 0, 0, 0),
  (28, .getfield 53, 31, 5, 11, 0, 0, 0),
  (31, .iload_n 2, 32, 2, 0, 0, 0, 0),
  (32, .iconst 0, 33, 0, 0, 0, (0), 0),
  (33, .iastore, 34, 0, 0, 0, 0, 0),
  (34, .aload_n 0, 35, 0, 0, 0, 0, 0),
  (35, .getfield 56, 38, 5, 12, 0, 0, 0),
  (38, .iload_n 2, 39, 2, 0, 0, 0, 0),
  (39, .iconst 0, 40, 0, 0, 0, (0), 0),
  (40, .iastore, 41, 0, 0, 0, 0, 0),
  (41, .iload_n 1, 42, 1, 0, 0, 0, 0),
  (42, .istore_n 3, 43, 3, 0, 0, 0, 0),
  (43, .iconst 0, 44, 0, 0, 0, (0), 0),
  (44, .istore 4, 46, 4, 0, 0, 0, 0),
  (46, .iconst 0, 47, 0, 0, 0, (0), 0),
  (47, .istore 5, 49, 5, 0, 0, 0, 0),
  (49, .iload 5, 51, 5, 0, 0, 0, 0),
  (51, .bipush 15, 53, 0, 0, 0, (15), 0),
  (53, .if_icmp .ge 86, 56, 139, 0, 0, 0, 0),
  (56, .aload_n 0, 57, 0, 0, 0, 0, 0),
  (57, .iload_n 3, 58, 3, 0, 0, 0, 0),
  (58, .iload_n 2, 59, 2, 0, 0, 0, 0),
  (59, .iconst 1, 60, 0, 0, 0, (1), 0),
  (60, .iload 4, 62, 4, 0, 0, 0, 0),
  (62, .invokevirtual 92, 65, 62, 4, 5, 0, 0),
  (65, .iload 4, 67, 4, 0, 0, 0, 0),
  (67, .aload_n 0, 68, 0, 0, 0, 0, 0),
  (68, .iload_n 2, 69, 2, 0, 0, 0, 0),
  (69, .aload_n 0, 70, 0, 0, 0, 0, 0),
  (70, .getfield 30, 73, 5, 4, 0, 0, 0),
  (73, .iload_n 3, 74, 3, 0, 0, 0, 0),
  (74, .baload, 75, 2, 0, 0, 0, 0),
  (75, .invokevirtual 96, 78, 63, 2, 5, 0, 0),
  (78, .iadd, 79, 0, 0, 0, 0, 0),
  (79, .istore 4, 81, 4, 0, 0, 0, 0),
  (81, .aload_n 0, 82, 0, 0, 0, 0, 0),
  (82, .getfield 27, 85, 5, 3, 0, 0, 0),
  (85, .iload_n 3, 86, 3, 0, 0, 0, 0),
  (86, .iaload, 87, 0, 0, 0, 0, 0),
  (87, .istore 6, 89, 6, 0, 0, 0, 0),
  (89, .aload_n 0, 90, 0, 0, 0, 0, 0),
  (90, .iload 6, 92, 6, 0, 0, 0, 0),
  (92, .iload_n 2, 93, 2, 0, 0, 0, 0),
  (93, .iconst 0, 94, 0, 0, 0, (0), 0),
  (94, .iload 4, 96, 4, 0, 0, 0, 0),
  (96, .invokevirtual 92, 99, 62, 4, 5, 0, 0),
  (99, .iload 4, 101, 4, 0, 0, 0, 0),
  (101, .aload_n 0, 102, 0, 0, 0, 0, 0),
  (102, .iload_n 2, 103, 2, 0, 0, 0, 0),
  (103, .iload 6, 105, 6, 0, 0, 0, 0),
  (105, .iconst 1, 106, 0, 0, 0, (1), 0),
  (106, .iand, 107, 0, 0, 0, 0, 0),
  (107, .iconst 1, 108, 0, 0, 0, (1), 0),
  (108, .if_icmp .ne 7, 111, 115, 0, 0, 0, 0),
  (111, .iconst 1, 112, 0, 0, 0, (1), 0),
  (112, .goto 4, 115, 116, 0, 0, 0, 0),
  (115, .iconst 0, 116, 0, 0, 0, (0), 0),
  (116, .invokevirtual 96, 119, 63, 2, 5, 0, 0),
  (119, .iadd, 120, 0, 0, 0, 0, 0),
  (120, .istore 4, 122, 4, 0, 0, 0, 0),
  (122, .iload 6, 124, 6, 0, 0, 0, 0),
  (124, .iconst 1, 125, 0, 0, 0, (1), 0),
  (125, .ixor, 126, 0, 0, 0, 0, 0),
  (126, .istore_n 3, 127, 3, 0, 0, 0, 0),
  (127, .iload_n 3, 128, 3, 0, 0, 0, 0),
  (128, .iload_n 1, 129, 1, 0, 0, 0, 0),
  (129, .if_icmp .ne 4, 132, 133, 0, 0, 0, 0),
  (132, .return_, 133, 0, 0, 0, 0, 0),
  (133, .iinc 5 1, 136, 5, 0, 0, (1), 0),
  (136, .goto (-87), 139, 49, 0, 0, 0, 0),
  (139, .return_, 140, 0, 0, 0, 0, 0)]
def MX5_walk : mI := (5, ⟨"CornerFronts$Ways", "walk", "(I)V"⟩, prog_7_method_6_code, 7, none, oX5_walk)
def oX5_mark : List (Nat × mE) := [(0, .aload_n 0, 1, 0, 0, 0, 0, 0),
  (1, .getfield 34, 4, 5, 5, 0, 0, 0),
  (4, .iload_n 1, 5, 1, 0, 0, 0, 0),
  (5, .iload_n 2, 6, 2, 0, 0, 0, 0),
  (6, .iastore, 7, 0, 0, 0, 0, 0),
  (7, .aload_n 0, 8, 0, 0, 0, 0, 0),
  (8, .getfield 37, 11, 5, 6, 0, 0, 0),
  (11, .iload_n 1, 12, 1, 0, 0, 0, 0),
  (12, .iload_n 3, 13, 3, 0, 0, 0, 0),
  (13, .bastore, 14, 2, 0, 0, 0, 0),
  (14, .aload_n 0, 15, 0, 0, 0, 0, 0),
  (15, .getfield 40, 18, 5, 7, 0, 0, 0),
  (18, .iload_n 1, 19, 1, 0, 0, 0, 0),
  (19, .iload 4, 21, 4, 0, 0, 0, 0),
  (21, .iastore, 22, 0, 0, 0, 0, 0),
  (22, .return_, 23, 0, 0, 0, 0, 0)]
def MX5_mark : mI := (5, ⟨"CornerFronts$Ways", "mark", "(IIZI)V"⟩, prog_7_method_7_code, 5, none, oX5_mark)
def oX5_turnCorner : List (Nat × mE) := [(0, .iload_n 2, 1, 2, 0, 0, 0, 0),
  (1, .ifCond .eq 15, 4, 16, 0, 0, 0, 0),
  (4, .aload_n 0, 5, 0, 0, 0, 0, 0),
  (5, .getfield 53, 8, 5, 11, 0, 0, 0),
  (8, .iload_n 1, 9, 1, 0, 0, 0, 0),
  (9, .dup2, 10, 0, 0, 0, 0, 0),
  (10, .iaload, 11, 0, 0, 0, 0, 0),
  (11, .iconst 1, 12, 0, 0, 0, (1), 0),
  (12, .iadd, 13, 0, 0, 0, 0, 0),
  (13, .iastore, 14, 0, 0, 0, 0, 0),
  (14, .iconst (-1), 15, 0, 0, 0, (-1), 0),
  (15, .ireturn, 16, 0, 0, 0, 0, 0),
  (16, .aload_n 0, 17, 0, 0, 0, 0, 0),
  (17, .getfield 56, 20, 5, 12, 0, 0, 0),
  (20, .iload_n 1, 21, 1, 0, 0, 0, 0),
  (21, .dup2, 22, 0, 0, 0, 0, 0),
  (22, .iaload, 23, 0, 0, 0, 0, 0),
  (23, .iconst 1, 24, 0, 0, 0, (1), 0),
  (24, .iadd, 25, 0, 0, 0, 0, 0),
  (25, .iastore, 26, 0, 0, 0, 0, 0),
  (26, .iconst 1, 27, 0, 0, 0, (1), 0),
  (27, .ireturn, 28, 0, 0, 0, 0, 0)]
def MX5_turnCorner : mI := (5, ⟨"CornerFronts$Ways", "turnCorner", "(IZ)I"⟩, prog_7_method_8_code, 3, (some (.int)), oX5_turnCorner)
def oX5_isPiece : List (Nat × mE) := [(0, .iload_n 1, 1, 1, 0, 0, 0, 0),
  (1, .ifCond .lt 15, 4, 16, 0, 0, 0, 0),
  (4, .iload_n 1, 5, 1, 0, 0, 0, 0),
  (5, .aload_n 0, 6, 0, 0, 0, 0, 0),
  (6, .getfield 47, 9, 5, 9, 0, 0, 0),
  (9, .if_icmp .ge 7, 12, 16, 0, 0, 0, 0),
  (12, .iconst 1, 13, 0, 0, 0, (1), 0),
  (13, .goto 4, 16, 17, 0, 0, 0, 0),
  (16, .iconst 0, 17, 0, 0, 0, (0), 0),
  (17, .ireturn, 18, 0, 0, 1, 0, 0)]
def MX5_isPiece : mI := (5, ⟨"CornerFronts$Ways", "isPiece", "(I)Z"⟩, prog_7_method_9_code, 2, (some (.boolean)), oX5_isPiece)
def oX5_pieceAt : List (Nat × mE) := [(0, .aload_n 0, 1, 0, 0, 0, 0, 0),
  (1, .getfield 34, 4, 5, 5, 0, 0, 0),
  (4, .aload_n 0, 5, 0, 0, 0, 0, 0),
  (5, .getfield 20, 8, 5, 1, 0, 0, 0),
  (8, .iload_n 1, 9, 1, 0, 0, 0, 0),
  (9, .aaload, 10, 3, 0, 0, 0, 0),
  (10, .iload_n 2, 11, 2, 0, 0, 0, 0),
  (11, .iaload, 12, 0, 0, 0, 0, 0),
  (12, .iaload, 13, 0, 0, 0, 0, 0),
  (13, .ireturn, 14, 0, 0, 0, 0, 0)]
def MX5_pieceAt : mI := (5, ⟨"CornerFronts$Ways", "pieceAt", "(II)I"⟩, prog_7_method_10_code, 3, (some (.int)), oX5_pieceAt)
def oX5_lowerArc : List (Nat × mE) := [(0, .aload_n 0, 1, 0, 0, 0, 0, 0),
  (1, .getfield 20, 4, 5, 1, 0, 0, 0),
  (4, .iload_n 1, 5, 1, 0, 0, 0, 0),
  (5, .aaload, 6, 3, 0, 0, 0, 0),
  (6, .aload_n 0, 7, 0, 0, 0, 0, 0),
  (7, .getfield 12, 10, 5, 0, 0, 0, 0),
  (10, .getfield 69, 13, 0, 1, 0, 0, 0),
  (13, .iload_n 1, 14, 1, 0, 0, 0, 0),
  (14, .iaload, 15, 0, 0, 0, 0, 0),
  (15, .iaload, 16, 0, 0, 0, 0, 0),
  (16, .ireturn, 17, 0, 0, 0, 0, 0)]
def MX5_lowerArc : mI := (5, ⟨"CornerFronts$Ways", "lowerArc", "(I)I"⟩, prog_7_method_11_code, 2, (some (.int)), oX5_lowerArc)
def oX5_upperArc : List (Nat × mE) := [(0, .aload_n 0, 1, 0, 0, 0, 0, 0),
  (1, .getfield 20, 4, 5, 1, 0, 0, 0),
  (4, .iload_n 1, 5, 1, 0, 0, 0, 0),
  (5, .aaload, 6, 3, 0, 0, 0, 0),
  (6, .aload_n 0, 7, 0, 0, 0, 0, 0),
  (7, .getfield 12, 10, 5, 0, 0, 0, 0),
  (10, .getfield 69, 13, 0, 1, 0, 0, 0),
  (13, .iload_n 1, 14, 1, 0, 0, 0, 0),
  (14, .iaload, 15, 0, 0, 0, 0, 0),
  (15, .iconst 1, 16, 0, 0, 0, (1), 0),
  (16, .iadd, 17, 0, 0, 0, 0, 0),
  (17, .iaload, 18, 0, 0, 0, 0, 0),
  (18, .ireturn, 19, 0, 0, 0, 0, 0)]
def MX5_upperArc : mI := (5, ⟨"CornerFronts$Ways", "upperArc", "(I)I"⟩, prog_7_method_12_code, 2, (some (.int)), oX5_upperArc)
def oX5_isPlus : List (Nat × mE) := [(0, .aload_n 0, 1, 0, 0, 0, 0, 0),
  (1, .getfield 37, 4, 5, 6, 0, 0, 0),
  (4, .aload_n 0, 5, 0, 0, 0, 0, 0),
  (5, .iload_n 1, 6, 1, 0, 0, 0, 0),
  (6, .invokevirtual 100, 9, 66, 1, 5, 0, 0),
  (9, .baload, 10, 2, 0, 0, 0, 0),
  (10, .aload_n 0, 11, 0, 0, 0, 0, 0),
  (11, .getfield 37, 14, 5, 6, 0, 0, 0),
  (14, .aload_n 0, 15, 0, 0, 0, 0, 0),
  (15, .iload_n 1, 16, 1, 0, 0, 0, 0),
  (16, .invokevirtual 104, 19, 67, 1, 5, 0, 0),
  (19, .baload, 20, 2, 0, 0, 0, 0),
  (20, .if_icmp .ne 7, 23, 27, 0, 0, 0, 0),
  (23, .iconst 1, 24, 0, 0, 0, (1), 0),
  (24, .goto 4, 27, 28, 0, 0, 0, 0),
  (27, .iconst 0, 28, 0, 0, 0, (0), 0),
  (28, .ireturn, 29, 0, 0, 1, 0, 0)]
def MX5_isPlus : mI := (5, ⟨"CornerFronts$Ways", "isPlus", "(I)Z"⟩, prog_7_method_13_code, 2, (some (.boolean)), oX5_isPlus)
def oX5_plusCrosses : List (Nat × mE) := [(0, .iconst 0, 1, 0, 0, 0, (0), 0),
  (1, .istore_n 1, 2, 1, 0, 0, 0, 0),
  (2, .iconst 0, 3, 0, 0, 0, (0), 0),
  (3, .istore_n 2, 4, 2, 0, 0, 0, 0),
  (4, .iload_n 2, 5, 2, 0, 0, 0, 0),
  (5, .aload_n 0, 6, 0, 0, 0, 0, 0),
  (6, .getfield 12, 9, 5, 0, 0, 0, 0),
  (9, .getfield 66, 12, 0, 3, 0, 0, 0),
  (12, .if_icmp .ge 33, 15, 45, 0, 0, 0, 0),
  (15, .aload_n 0, 16, 0, 0, 0, 0, 0),
  (16, .getfield 12, 19, 5, 0, 0, 0, 0),
  (19, .getfield 75, 22, 0, 0, 0, 0, 0),
  (22, .iload_n 2, 23, 2, 0, 0, 0, 0),
  (23, .iaload, 24, 0, 0, 0, 0, 0),
  (24, .iconst 1, 25, 0, 0, 0, (1), 0),
  (25, .if_icmp .ne 14, 28, 39, 0, 0, 0, 0),
  (28, .aload_n 0, 29, 0, 0, 0, 0, 0),
  (29, .iload_n 2, 30, 2, 0, 0, 0, 0),
  (30, .invokevirtual 107, 33, 68, 1, 5, 0, 0),
  (33, .ifCond .eq 6, 36, 39, 0, 0, 0, 0),
  (36, .iinc 1 1, 39, 1, 0, 0, (1), 0),
  (39, .iinc 2 1, 42, 2, 0, 0, (1), 0),
  (42, .goto (-38), 45, 4, 0, 0, 0, 0),
  (45, .iload_n 1, 46, 1, 0, 0, 0, 0),
  (46, .ireturn, 47, 0, 0, 0, 0, 0)]
def MX5_plusCrosses : mI := (5, ⟨"CornerFronts$Ways", "plusCrosses", "()I"⟩, prog_7_method_14_code, 3, (some (.int)), oX5_plusCrosses)
def oX5_writhe : List (Nat × mE) := [(0, .aload_n 0, 1, 0, 0, 0, 0, 0),
  (1, .iload_n 1, 2, 1, 0, 0, 0, 0),
  (2, .iload_n 1, 3, 1, 0, 0, 0, 0),
  (3, .invokevirtual 111, 6, 72, 2, 5, 0, 0),
  (6, .ireturn, 7, 0, 0, 0, 0, 0)]
def MX5_writhe : mI := (5, ⟨"CornerFronts$Ways", "writhe", "(I)I"⟩, prog_7_method_15_code, 2, (some (.int)), oX5_writhe)
def oX5_linking : List (Nat × mE) := [(0, .aload_n 0, 1, 0, 0, 0, 0, 0),
  (1, .iload_n 1, 2, 1, 0, 0, 0, 0),
  (2, .iload_n 2, 3, 2, 0, 0, 0, 0),
  (3, .invokevirtual 111, 6, 72, 2, 5, 0, 0),
  (6, .aload_n 0, 7, 0, 0, 0, 0, 0),
  (7, .iload_n 2, 8, 2, 0, 0, 0, 0),
  (8, .iload_n 1, 9, 1, 0, 0, 0, 0),
  (9, .invokevirtual 111, 12, 72, 2, 5, 0, 0),
  (12, .iadd, 13, 0, 0, 0, 0, 0),
  (13, .iconst 2, 14, 0, 0, 0, (2), 0),
  (14, .idiv, 15, 0, 0, 0, 0, 0),
  (15, .ireturn, 16, 0, 0, 0, 0, 0)]
def MX5_linking : mI := (5, ⟨"CornerFronts$Ways", "linking", "(II)I"⟩, prog_7_method_16_code, 3, (some (.int)), oX5_linking)
def oX5_signSum : List (Nat × mE) := [(0, .iconst 0, 1, 0, 0, 0, (0), 0),
  (1, .istore_n 3, 2, 3, 0, 0, 0, 0),
  (2, .iconst 0, 3, 0, 0, 0, (0), 0),
  (3, .istore 4, 5, 4, 0, 0, 0, 0),
  (5, .iload 4, 7, 4, 0, 0, 0, 0),
  (7, .aload_n 0, 8, 0, 0, 0, 0, 0),
  (8, .getfield 12, 11, 5, 0, 0, 0, 0),
  (11, .getfield 66, 14, 0, 3, 0, 0, 0),
  (14, .if_icmp .ge 70, 17, 84, 0, 0, 0, 0),
  (17, .aload_n 0, 18, 0, 0, 0, 0, 0),
  (18, .getfield 12, 21, 5, 0, 0, 0, 0),
  (21, .getfield 75, 24, 0, 0, 0, 0, 0),
  (24, .iload 4, 26, 4, 0, 0, 0, 0),
  (26, .iaload, 27, 0, 0, 0, 0, 0),
  (27, .iconst 1, 28, 0, 0, 0, (1), 0),
  (28, .if_icmp .ne 50, 31, 78, 0, 0, 0, 0),
  (31, .aload_n 0, 32, 0, 0, 0, 0, 0),
  (32, .getfield 34, 35, 5, 5, 0, 0, 0),
  (35, .aload_n 0, 36, 0, 0, 0, 0, 0),
  (36, .iload 4, 38, 4, 0, 0, 0, 0),
  (38, .invokevirtual 100, 41, 66, 1, 5, 0, 0),
  (41, .iaload, 42, 0, 0, 0, 0, 0),
  (42, .iload_n 1, 43, 1, 0, 0, 0, 0),
  (43, .if_icmp .ne 35, 46, 78, 0, 0, 0, 0),
  (46, .aload_n 0, 47, 0, 0, 0, 0, 0),
  (47, .getfield 34, 50, 5, 5, 0, 0, 0),
  (50, .aload_n 0, 51, 0, 0, 0, 0, 0),
  (51, .iload 4, 53, 4, 0, 0, 0, 0),
  (53, .invokevirtual 104, 56, 67, 1, 5, 0, 0),
  (56, .iaload, 57, 0, 0, 0, 0, 0),
  (57, .iload_n 2, 58, 2, 0, 0, 0, 0),
  (58, .if_icmp .ne 20, 61, 78, 0, 0, 0, 0),
  (61, .iload_n 3, 62, 3, 0, 0, 0, 0),
  (62, .aload_n 0, 63, 0, 0, 0, 0, 0),
  (63, .iload 4, 65, 4, 0, 0, 0, 0),
  (65, .invokevirtual 107, 68, 68, 1, 5, 0, 0),
  (68, .ifCond .eq 7, 71, 75, 0, 0, 0, 0),
  (71, .iconst 1, 72, 0, 0, 0, (1), 0),
  (72, .goto 4, 75, 76, 0, 0, 0, 0),
  (75, .iconst (-1), 76, 0, 0, 0, (-1), 0),
  (76, .iadd, 77, 0, 0, 0, 0, 0),
  (77, .istore_n 3, 78, 3, 0, 0, 0, 0),
  (78, .iinc 4 1, 81, 4, 0, 0, (1), 0),
  (81, .goto (-76), 84, 5, 0, 0, 0, 0),
  (84, .iload_n 3, 85, 3, 0, 0, 0, 0),
  (85, .ireturn, 86, 0, 0, 0, 0, 0)]
def MX5_signSum : mI := (5, ⟨"CornerFronts$Ways", "signSum", "(II)I"⟩, prog_7_method_17_code, 5, (some (.int)), oX5_signSum)
def oX5_deaths : List (Nat × mE) := [(0, .aload_n 0, 1, 0, 0, 0, 0, 0),
  (1, .getfield 53, 4, 5, 11, 0, 0, 0),
  (4, .iload_n 1, 5, 1, 0, 0, 0, 0),
  (5, .iaload, 6, 0, 0, 0, 0, 0),
  (6, .aload_n 0, 7, 0, 0, 0, 0, 0),
  (7, .getfield 56, 10, 5, 12, 0, 0, 0),
  (10, .iload_n 1, 11, 1, 0, 0, 0, 0),
  (11, .iaload, 12, 0, 0, 0, 0, 0),
  (12, .iadd, 13, 0, 0, 0, 0, 0),
  (13, .iconst 2, 14, 0, 0, 0, (2), 0),
  (14, .idiv, 15, 0, 0, 0, 0, 0),
  (15, .ireturn, 16, 0, 0, 0, 0, 0)]
def MX5_deaths : mI := (5, ⟨"CornerFronts$Ways", "deaths", "(I)I"⟩, prog_7_method_18_code, 2, (some (.int)), oX5_deaths)
def oX5_turn : List (Nat × mE) := [(0, .aload_n 0, 1, 0, 0, 0, 0, 0),
  (1, .getfield 53, 4, 5, 11, 0, 0, 0),
  (4, .iload_n 1, 5, 1, 0, 0, 0, 0),
  (5, .iaload, 6, 0, 0, 0, 0, 0),
  (6, .aload_n 0, 7, 0, 0, 0, 0, 0),
  (7, .getfield 56, 10, 5, 12, 0, 0, 0),
  (10, .iload_n 1, 11, 1, 0, 0, 0, 0),
  (11, .iaload, 12, 0, 0, 0, 0, 0),
  (12, .isub, 13, 0, 0, 0, 0, 0),
  (13, .iconst 2, 14, 0, 0, 0, (2), 0),
  (14, .idiv, 15, 0, 0, 0, 0, 0),
  (15, .ireturn, 16, 0, 0, 0, 0, 0)]
def MX5_turn : mI := (5, ⟨"CornerFronts$Ways", "turn", "(I)I"⟩, prog_7_method_19_code, 2, (some (.int)), oX5_turn)
def oX5_levelStep : List (Nat × mE) := [(0, .aload_n 0, 1, 0, 0, 0, 0, 0),
  (1, .getfield 40, 4, 5, 7, 0, 0, 0),
  (4, .aload_n 0, 5, 0, 0, 0, 0, 0),
  (5, .iload_n 1, 6, 1, 0, 0, 0, 0),
  (6, .invokevirtual 104, 9, 67, 1, 5, 0, 0),
  (9, .iaload, 10, 0, 0, 0, 0, 0),
  (10, .aload_n 0, 11, 0, 0, 0, 0, 0),
  (11, .getfield 40, 14, 5, 7, 0, 0, 0),
  (14, .aload_n 0, 15, 0, 0, 0, 0, 0),
  (15, .iload_n 1, 16, 1, 0, 0, 0, 0),
  (16, .invokevirtual 100, 19, 66, 1, 5, 0, 0),
  (19, .iaload, 20, 0, 0, 0, 0, 0),
  (20, .isub, 21, 0, 0, 0, 0, 0),
  (21, .istore_n 2, 22, 2, 0, 0, 0, 0),
  (22, .iconst 2, 23, 0, 0, 0, (2), 0),
  (23, .aload_n 0, 24, 0, 0, 0, 0, 0),
  (24, .iconst 0, 25, 0, 0, 0, (0), 0),
  (25, .invokevirtual 115, 28, 74, 1, 5, 0, 0),
  (28, .invokestatic 118, 31, 1012, 0, 0, 0, 0),
  (31, .imul, 32, 0, 0, 0, 0, 0),
  (32, .istore_n 3, 33, 3, 0, 0, 0, 0),
  (33, .iload_n 3, 34, 3, 0, 0, 0, 0),
  (34, .ifCond .ne 7, 37, 41, 0, 0, 0, 0),
  (37, .iload_n 2, 38, 2, 0, 0, 0, 0),
  (38, .goto 8, 41, 46, 0, 0, 0, 0),
  (41, .iload_n 2, 42, 2, 0, 0, 0, 0),
  (42, .iload_n 3, 43, 3, 0, 0, 0, 0),
  (43, .invokestatic 123, 46, 1013, 0, 0, 0, 0),
  (46, .ireturn, 47, 0, 0, 0, 0, 0)]
def MX5_levelStep : mI := (5, ⟨"CornerFronts$Ways", "levelStep", "(I)I"⟩, prog_7_method_20_code, 4, (some (.int)), oX5_levelStep)
def oX6_init : List (Nat × mE) := [(0, .aload_n 0, 1, 0, 0, 0, 0, 0),
  (1, .invokespecial 3, 4, 1001, 0, 0, 0, 0),
  (4, .aload_n 0, 5, 0, 0, 0, 0, 0),
  (5, .new 9, 8, 0, 0, 0, 0, 0),
  (8, .dup, 9, 0, 0, 0, 0, 0),
  (9, .invokespecial 11, 12, 47, 0, 4, 0, 0),
  (12, .putfield 12, 15, 6, 0, 2, 0, 0),
  (15, .aload_n 0, 16, 0, 0, 0, 0, 0),
  (16, .iconst 4, 17, 0, 0, 0, (4), 0),
  (17, .anewarray 16, 20, 0, 0, 0, 0, 0),
  (20, .putfield 18, 23, 6, 1, 2, 0, 0),
  (23, .aload_n 0, 24, 0, 0, 0, 0, 0),
  (24, .bipush 8, 26, 0, 0, 0, (8), 0),
  (26, .anewarray 22, 29, 0, 0, 0, 0, 0),
  (29, .putfield 24, 32, 6, 2, 2, 0, 0),
  (32, .aload_n 0, 33, 0, 0, 0, 0, 0),
  (33, .new 22, 36, 0, 0, 0, 0, 0),
  (36, .dup, 37, 0, 0, 0, 0, 0),
  (37, .invokespecial 28, 40, 0, 0, 0, 0, 0),
  (40, .putfield 29, 43, 6, 3, 2, 0, 0),
  (43, .aload_n 0, 44, 0, 0, 0, 0, 0),
  (44, .new 33, 47, 0, 0, 0, 0, 0),
  (47, .dup, 48, 0, 0, 0, 0, 0),
  (48, .invokespecial 35, 51, 12, 0, 1, 0, 0),
  (51, .putfield 36, 54, 6, 4, 2, 0, 0),
  (54, .aload_n 0, 55, 0, 0, 0, 0, 0),
  (55, .new 40, 58, 0, 0, 0, 0, 0),
  (58, .dup, 59, 0, 0, 0, 0, 0),
  (59, .invokespecial 42, 62, 56, 0, 5, 0, 0),
  (62, .putfield 43, 65, 6, 5, 2, 0, 0),
  (65, .aload_n 0, 66, 0, 0, 0, 0, 0),
  (66, .new 47, 69, 0, 0, 0, 0, 0),
  (69, .dup, 70, 0, 0, 0, 0, 0),
  (70, .invokespecial 49, 73, 33, 0, 3, 0, 0),
  (73, .putfield 50, 76, 6, 6, 2, 0, 0),
  (76, .aload_n 0, 77, 0, 0, 0, 0, 0),
  (77, .iconst 0, 78, 0, 0, 0, (0), 0),
  (78, .putfield 54, 81, 6, 7, 0, 0, 0),
  (81, .aload_n 0, 82, 0, 0, 0, 0, 0),
  (82, .iconst 0, 83, 0, 0, 0, (0), 0),
  (83, .putfield 58, 86, 6, 8, 0, 0, 0),
  (86, .iconst 0, 87, 0, 0, 0, (0), 0),
  (87, .istore_n 1, 88, 1, 0, 0, 0, 0),
  (88, .iload_n 1, 89, 1, 0, 0, 0, 0),
  (89, .iconst 4, 90, 0, 0, 0, (4), 0),
  (90, .if_icmp .ge 22, 93, 112, 0, 0, 0, 0),
  (93, .aload_n 0, 94, 0, 0, 0, 0, 0),
  (94, .getfield 18, 97, 6, 1, 0, 0, 0),
  (97, .iload_n 1, 98, 1, 0, 0, 0, 0),
  (98, .new 16, 101, 0, 0, 0, 0, 0),
  (101, .dup, 102, 0, 0, 0, 0, 0),
  (102, .invokespecial 61, 105, 28, 0, 2, 0, 0),
  (105, .aastore, 106, 0, 0, 0, 0, 0),
  (106, .iinc 1 1, 109, 1, 0, 0, (1), 0),
  (109, .goto (-21), 112, 88, 0, 0, 0, 0),
  (112, .iconst 0, 113, 0, 0, 0, (0), 0),
  (113, .istore_n 1, 114, 1, 0, 0, 0, 0),
  (114, .iload_n 1, 115, 1, 0, 0, 0, 0),
  (115, .bipush 8, 117, 0, 0, 0, (8), 0),
  (117, .if_icmp .ge 22, 120, 139, 0, 0, 0, 0),
  (120, .aload_n 0, 121, 0, 0, 0, 0, 0),
  (121, .getfield 24, 124, 6, 2, 0, 0, 0),
  (124, .iload_n 1, 125, 1, 0, 0, 0, 0),
  (125, .new 22, 128, 0, 0, 0, 0, 0),
  (128, .dup, 129, 0, 0, 0, 0, 0),
  (129, .invokespecial 28, 132, 0, 0, 0, 0, 0),
  (132, .aastore, 133, 0, 0, 0, 0, 0),
  (133, .iinc 1 1, 136, 1, 0, 0, (1), 0),
  (136, .goto (-22), 139, 114, 0, 0, 0, 0),
  (139, .return_, 140, 0, 0, 0, 0, 0)]
def MX6_init : mI := (6, ⟨"CornerFronts", "<init>", "()V"⟩, prog_1_method_1_code, 2, none, oX6_init)
def oX6_feed : List (Nat × mE) := [(0, .aload_n 0, 1, 0, 0, 0, 0, 0),
  (1, .getfield 12, 4, 6, 0, 0, 0, 0),
  (4, .getfield 62, 7, 4, 1, 0, 0, 0),
  (7, .bipush 112, 9, 0, 0, 0, (112), 0),
  (9, .if_icmp .le 6, 12, 15, 0, 0, 0, 0),
  (12, .bipush (-3), 14, 0, 0, 0, (-3), 0),
  (14, .ireturn, 15, 0, 0, 0, 0, 0),
  (15, .aload_n 0, 16, 0, 0, 0, 0, 0),
  (16, .getfield 12, 19, 6, 0, 0, 0, 0),
  (19, .lload_n 1, 20, 1, 0, 0, 0, 0),
  (20, .invokevirtual 65, 23, 48, 1, 4, 0, 0),
  (23, .aload_n 0, 24, 0, 0, 0, 0, 0),
  (24, .getfield 12, 27, 6, 0, 0, 0, 0),
  (27, .getfield 62, 30, 4, 1, 0, 0, 0),
  (30, .ireturn, 31, 0, 0, 0, 0, 0)]
def MX6_feed : mI := (6, ⟨"CornerFronts", "feed", "(J)I"⟩, prog_1_method_2_code, 3, (some (.int)), oX6_feed)
def oX6_end : List (Nat × mE) := [(0, .iload_n 1, 1, 1, 0, 0, 0, 0),
  (1, .ifCond .lt 14, 4, 15, 0, 0, 0, 0),
  (4, .iload_n 1, 5, 1, 0, 0, 0, 0),
  (5, .aload_n 0, 6, 0, 0, 0, 0, 0),
  (6, .getfield 12, 9, 6, 0, 0, 0, 0),
  (9, .getfield 62, 12, 4, 1, 0, 0, 0),
  (12, .if_icmp .le 5, 15, 17, 0, 0, 0, 0),
  (15, .iconst (-1), 16, 0, 0, 0, (-1), 0),
  (16, .ireturn, 17, 0, 0, 0, 0, 0),
  (17, .aload_n 0, 18, 0, 0, 0, 0, 0),
  (18, .getfield 12, 21, 6, 0, 0, 0, 0),
  (21, .getfield 62, 24, 4, 1, 0, 0, 0),
  (24, .istore_n 2, 25, 2, 0, 0, 0, 0),
  (25, .aload_n 0, 26, 0, 0, 0, 0, 0),
  (26, .getfield 12, 29, 6, 0, 0, 0, 0),
  (29, .iload_n 1, 30, 1, 0, 0, 0, 0),
  (30, .putfield 62, 33, 4, 1, 0, 0, 0),
  (33, .iload_n 2, 34, 2, 0, 0, 0, 0),
  (34, .ireturn, 35, 0, 0, 0, 0, 0)]
def MX6_end : mI := (6, ⟨"CornerFronts", "end", "(I)I"⟩, prog_1_method_3_code, 3, (some (.int)), oX6_end)
def oX6_front : List (Nat × mE) := [(0, .aload_n 0, 1, 0, 0, 0, 0, 0),
  (1, .getfield 54, 4, 6, 7, 0, 0, 0),
  (4, .bipush 8, 6, 0, 0, 0, (8), 0),
  (6, .if_icmp .lt 6, 9, 12, 0, 0, 0, 0),
  (9, .bipush (-3), 11, 0, 0, 0, (-3), 0),
  (11, .ireturn, 12, 0, 0, 0, 0, 0),
  (12, .aload_n 0, 13, 0, 0, 0, 0, 0),
  (13, .aload_n 0, 14, 0, 0, 0, 0, 0),
  (14, .getfield 12, 17, 6, 0, 0, 0, 0),
  (17, .aload_n 0, 18, 0, 0, 0, 0, 0),
  (18, .getfield 29, 21, 6, 3, 0, 0, 0),
  (21, .invokevirtual 69, 24, 49, 1, 4, 0, 0),
  (24, .putfield 58, 27, 6, 8, 0, 0, 0),
  (27, .aload_n 0, 28, 0, 0, 0, 0, 0),
  (28, .getfield 12, 31, 6, 0, 0, 0, 0),
  (31, .iconst 0, 32, 0, 0, 0, (0), 0),
  (32, .putfield 62, 35, 4, 1, 0, 0, 0),
  (35, .aload_n 0, 36, 0, 0, 0, 0, 0),
  (36, .getfield 58, 39, 6, 8, 0, 0, 0),
  (39, .ifCond .ne 10, 42, 49, 0, 0, 0, 0),
  (42, .aload_n 0, 43, 0, 0, 0, 0, 0),
  (43, .invokevirtual 73, 46, 109, 0, 6, 0, 0),
  (46, .goto 13, 49, 59, 0, 0, 0, 0),
  (49, .bipush (-10), 51, 0, 0, 0, (-10), 0),
  (51, .aload_n 0, 52, 0, 0, 0, 0, 0),
  (52, .getfield 12, 55, 6, 0, 0, 0, 0),
  (55, .getfield 77, 58, 4, 4, 0, 0, 0),
  (58, .isub, 59, 0, 0, 0, 0, 0),
  (59, .ireturn, 60, 0, 0, 0, 0, 0)]
def MX6_front : mI := (6, ⟨"CornerFronts", "front", "()I"⟩, prog_1_method_4_code, 1, (some (.int)), oX6_front)
def oX6_fault : List (Nat × mE) := [(0, .aload_n 0, 1, 0, 0, 0, 0, 0),
  (1, .getfield 58, 4, 6, 8, 0, 0, 0),
  (4, .ireturn, 5, 0, 0, 0, 0, 0)]
def MX6_fault : mI := (6, ⟨"CornerFronts", "fault", "()I"⟩, prog_1_method_5_code, 1, (some (.int)), oX6_fault)
def oX6_sheet : List (Nat × mE) := [(0, .iload_n 1, 1, 1, 0, 0, 0, 0),
  (1, .invokestatic 80, 4, 104, 1, 6, 0, 0),
  (4, .ifCond .eq 16, 7, 20, 0, 0, 0, 0),
  (7, .iload_n 2, 8, 2, 0, 0, 0, 0),
  (8, .invokestatic 84, 11, 105, 1, 6, 0, 0),
  (11, .ifCond .eq 9, 14, 20, 0, 0, 0, 0),
  (14, .iload_n 3, 15, 3, 0, 0, 0, 0),
  (15, .bipush 62, 17, 0, 0, 0, (62), 0),
  (17, .if_icmp .le 5, 20, 22, 0, 0, 0, 0),
  (20, .iconst (-1), 21, 0, 0, 0, (-1), 0),
  (21, .ireturn, 22, 0, 0, 0, 0, 0),
  (22, .iload_n 3, 23, 3, 0, 0, 0, 0),
  (23, .ifCond .ge 6, 26, 29, 0, 0, 0, 0),
  (26, .bipush (-14), 28, 0, 0, 0, (-14), 0),
  (28, .ireturn, 29, 0, 0, 0, 0, 0),
  (29, .aload_n 0, 30, 0, 0, 0, 0, 0),
  (30, .getfield 18, 33, 6, 1, 0, 0, 0),
  (33, .iload_n 1, 34, 1, 0, 0, 0, 0),
  (34, .aaload, 35, 5, 0, 0, 0, 0),
  (35, .iload_n 2, 36, 2, 0, 0, 0, 0),
  (36, .iload_n 3, 37, 3, 0, 0, 0, 0),
  (37, .invokevirtual 87, 40, 29, 2, 2, 0, 0),
  (40, .iconst 1, 41, 0, 0, 0, (1), 0),
  (41, .ireturn, 42, 0, 0, 0, 0, 0)]
def MX6_sheet : mI := (6, ⟨"CornerFronts", "sheet", "(III)I"⟩, prog_1_method_6_code, 4, (some (.int)), oX6_sheet)
def oX6_lay : List (Nat × mE) := [(0, .iload_n 1, 1, 1, 0, 0, 0, 0),
  (1, .invokestatic 80, 4, 104, 1, 6, 0, 0),
  (4, .ifCond .ne 5, 7, 9, 0, 0, 0, 0),
  (7, .iconst (-1), 8, 0, 0, 0, (-1), 0),
  (8, .ireturn, 9, 0, 0, 0, 0, 0),
  (9, .aload_n 0, 10, 0, 0, 0, 0, 0),
  (10, .getfield 18, 13, 6, 1, 0, 0, 0),
  (13, .iload_n 1, 14, 1, 0, 0, 0, 0),
  (14, .aaload, 15, 5, 0, 0, 0, 0),
  (15, .iload_n 2, 16, 2, 0, 0, 0, 0),
  (16, .iload_n 3, 17, 3, 0, 0, 0, 0),
  (17, .invokevirtual 91, 20, 30, 2, 2, 0, 0),
  (20, .istore 4, 22, 4, 0, 0, 0, 0),
  (22, .iload 4, 24, 4, 0, 0, 0, 0),
  (24, .ifCond .ne 7, 27, 31, 0, 0, 0, 0),
  (27, .iconst 1, 28, 0, 0, 0, (1), 0),
  (28, .goto 8, 31, 36, 0, 0, 0, 0),
  (31, .bipush (-10), 33, 0, 0, 0, (-10), 0),
  (33, .iload 4, 35, 4, 0, 0, 0, 0),
  (35, .isub, 36, 0, 0, 0, 0, 0),
  (36, .ireturn, 37, 0, 0, 0, 0, 0)]
def MX6_lay : mI := (6, ⟨"CornerFronts", "lay", "(III)I"⟩, prog_1_method_7_code, 5, (some (.int)), oX6_lay)
def oX6_draw : List (Nat × mE) := [(0, .iload_n 1, 1, 1, 0, 0, 0, 0),
  (1, .invokestatic 80, 4, 104, 1, 6, 0, 0),
  (4, .ifCond .eq 23, 7, 27, 0, 0, 0, 0),
  (7, .iload_n 2, 8, 2, 0, 0, 0, 0),
  (8, .invokestatic 84, 11, 105, 1, 6, 0, 0),
  (11, .ifCond .eq 16, 14, 27, 0, 0, 0, 0),
  (14, .iload 4, 16, 4, 0, 0, 0, 0),
  (16, .iconst 1, 17, 0, 0, 0, (1), 0),
  (17, .if_icmp .lt 10, 20, 27, 0, 0, 0, 0),
  (20, .iload 4, 22, 4, 0, 0, 0, 0),
  (22, .bipush 30, 24, 0, 0, 0, (30), 0),
  (24, .if_icmp .le 5, 27, 29, 0, 0, 0, 0),
  (27, .iconst (-1), 28, 0, 0, 0, (-1), 0),
  (28, .ireturn, 29, 0, 0, 0, 0, 0),
  (29, .aload_n 0, 30, 0, 0, 0, 0, 0),
  (30, .getfield 18, 33, 6, 1, 0, 0, 0),
  (33, .iload_n 1, 34, 1, 0, 0, 0, 0),
  (34, .aaload, 35, 5, 0, 0, 0, 0),
  (35, .aload_n 0, 36, 0, 0, 0, 0, 0),
  (36, .getfield 29, 39, 6, 3, 0, 0, 0),
  (39, .iload_n 2, 40, 2, 0, 0, 0, 0),
  (40, .iload_n 3, 41, 3, 0, 0, 0, 0),
  (41, .iload 4, 43, 4, 0, 0, 0, 0),
  (43, .invokevirtual 95, 46, 32, 4, 2, 0, 0),
  (46, .istore 5, 48, 5, 0, 0, 0, 0),
  (48, .iload 5, 50, 5, 0, 0, 0, 0),
  (50, .ifCond .ne 10, 53, 60, 0, 0, 0, 0),
  (53, .aload_n 0, 54, 0, 0, 0, 0, 0),
  (54, .invokevirtual 73, 57, 109, 0, 6, 0, 0),
  (57, .goto 5, 60, 62, 0, 0, 0, 0),
  (60, .iload 5, 62, 5, 0, 0, 0, 0),
  (62, .ireturn, 63, 0, 0, 0, 0, 0)]
def MX6_draw : mI := (6, ⟨"CornerFronts", "draw", "(IIII)I"⟩, prog_1_method_8_code, 6, (some (.int)), oX6_draw)
def oX6_copy : List (Nat × mE) := [(0, .aload_n 0, 1, 0, 0, 0, 0, 0),
  (1, .iload_n 1, 2, 1, 0, 0, 0, 0),
  (2, .invokevirtual 98, 5, 101, 1, 6, 0, 0),
  (5, .ifCond .ne 5, 8, 10, 0, 0, 0, 0),
  (8, .iconst (-1), 9, 0, 0, 0, (-1), 0),
  (9, .ireturn, 10, 0, 0, 0, 0, 0),
  (10, .aload_n 0, 11, 0, 0, 0, 0, 0),
  (11, .getfield 29, 14, 6, 3, 0, 0, 0),
  (14, .aload_n 0, 15, 0, 0, 0, 0, 0),
  (15, .getfield 24, 18, 6, 2, 0, 0, 0),
  (18, .iload_n 1, 19, 1, 0, 0, 0, 0),
  (19, .aaload, 20, 4, 0, 0, 0, 0),
  (20, .invokevirtual 101, 23, 2, 1, 0, 0, 0),
  (23, .aload_n 0, 24, 0, 0, 0, 0, 0),
  (24, .invokevirtual 73, 27, 109, 0, 6, 0, 0),
  (27, .ireturn, 28, 0, 0, 0, 0, 0)]
def MX6_copy : mI := (6, ⟨"CornerFronts", "copy", "(I)I"⟩, prog_1_method_9_code, 2, (some (.int)), oX6_copy)
def oX6_drop : List (Nat × mE) := [(0, .aload_n 0, 1, 0, 0, 0, 0, 0),
  (1, .getfield 54, 4, 6, 7, 0, 0, 0),
  (4, .ifCond .ne 6, 7, 10, 0, 0, 0, 0),
  (7, .bipush (-4), 9, 0, 0, 0, (-4), 0),
  (9, .ireturn, 10, 0, 0, 0, 0, 0),
  (10, .aload_n 0, 11, 0, 0, 0, 0, 0),
  (11, .dup, 12, 0, 0, 0, 0, 0),
  (12, .getfield 54, 15, 6, 7, 0, 0, 0),
  (15, .iconst 1, 16, 0, 0, 0, (1), 0),
  (16, .isub, 17, 0, 0, 0, 0, 0),
  (17, .putfield 54, 20, 6, 7, 0, 0, 0),
  (20, .aload_n 0, 21, 0, 0, 0, 0, 0),
  (21, .getfield 54, 24, 6, 7, 0, 0, 0),
  (24, .ireturn, 25, 0, 0, 0, 0, 0)]
def MX6_drop : mI := (6, ⟨"CornerFronts", "drop", "()I"⟩, prog_1_method_10_code, 1, (some (.int)), oX6_drop)
def oX6_event : List (Nat × mE) := [(0, .aload_n 0, 1, 0, 0, 0, 0, 0),
  (1, .iload_n 1, 2, 1, 0, 0, 0, 0),
  (2, .iload_n 2, 3, 2, 0, 0, 0, 0),
  (3, .invokevirtual 105, 6, 102, 2, 6, 0, 0),
  (6, .ifCond .ne 5, 9, 11, 0, 0, 0, 0),
  (9, .iconst (-1), 10, 0, 0, 0, (-1), 0),
  (10, .ireturn, 11, 0, 0, 0, 0, 0),
  (11, .iload_n 3, 12, 3, 0, 0, 0, 0),
  (12, .tableswitch 64 0 2 #[28, 40, 52], 40, 0, 0, 0, 0, 0),
  (40, .aload_n 0, 41, 0, 0, 0, 0, 0),
  (41, .getfield 24, 44, 6, 2, 0, 0, 0),
  (44, .iload_n 1, 45, 1, 0, 0, 0, 0),
  (45, .aaload, 46, 4, 0, 0, 0, 0),
  (46, .getfield 109, 49, 0, 0, 0, 0, 0),
  (49, .iload_n 2, 50, 2, 0, 0, 0, 0),
  (50, .iaload, 51, 0, 0, 0, 0, 0),
  (51, .ireturn, 52, 0, 0, 0, 0, 0),
  (52, .aload_n 0, 53, 0, 0, 0, 0, 0),
  (53, .getfield 24, 56, 6, 2, 0, 0, 0),
  (56, .iload_n 1, 57, 1, 0, 0, 0, 0),
  (57, .aaload, 58, 4, 0, 0, 0, 0),
  (58, .getfield 113, 61, 0, 1, 0, 0, 0),
  (61, .iload_n 2, 62, 2, 0, 0, 0, 0),
  (62, .iaload, 63, 0, 0, 0, 0, 0),
  (63, .ireturn, 64, 0, 0, 0, 0, 0),
  (64, .aload_n 0, 65, 0, 0, 0, 0, 0),
  (65, .getfield 24, 68, 6, 2, 0, 0, 0),
  (68, .iload_n 1, 69, 1, 0, 0, 0, 0),
  (69, .aaload, 70, 4, 0, 0, 0, 0),
  (70, .getfield 116, 73, 0, 2, 0, 0, 0),
  (73, .iload_n 2, 74, 2, 0, 0, 0, 0),
  (74, .iaload, 75, 0, 0, 0, 0, 0),
  (75, .ireturn, 76, 0, 0, 0, 0, 0),
  (76, .iconst (-1), 77, 0, 0, 0, (-1), 0),
  (77, .ireturn, 78, 0, 0, 0, 0, 0)]
def MX6_event : mI := (6, ⟨"CornerFronts", "event", "(III)I"⟩, prog_1_method_11_code, 4, (some (.int)), oX6_event)
def oX6_about : List (Nat × mE) := [(0, .aload_n 0, 1, 0, 0, 0, 0, 0),
  (1, .iload_n 1, 2, 1, 0, 0, 0, 0),
  (2, .invokevirtual 98, 5, 101, 1, 6, 0, 0),
  (5, .ifCond .ne 5, 8, 10, 0, 0, 0, 0),
  (8, .iconst (-1), 9, 0, 0, 0, (-1), 0),
  (9, .ireturn, 10, 0, 0, 0, 0, 0),
  (10, .aload_n 0, 11, 0, 0, 0, 0, 0),
  (11, .getfield 24, 14, 6, 2, 0, 0, 0),
  (14, .iload_n 1, 15, 1, 0, 0, 0, 0),
  (15, .aaload, 16, 4, 0, 0, 0, 0),
  (16, .astore_n 3, 17, 3, 0, 0, 0, 0),
  (17, .iload_n 2, 18, 2, 0, 0, 0, 0),
  (18, .tableswitch 83 0 5 #[38, 43, 48, 60, 69, 74], 56, 0, 0, 0, 0, 0),
  (56, .aload_n 3, 57, 3, 0, 0, 0, 0),
  (57, .getfield 119, 60, 0, 3, 0, 0, 0),
  (60, .ireturn, 61, 0, 0, 0, 0, 0),
  (61, .aload_n 3, 62, 3, 0, 0, 0, 0),
  (62, .getfield 122, 65, 0, 4, 0, 0, 0),
  (65, .ireturn, 66, 0, 0, 0, 0, 0),
  (66, .aload_n 3, 67, 3, 0, 0, 0, 0),
  (67, .getfield 119, 70, 0, 3, 0, 0, 0),
  (70, .aload_n 3, 71, 3, 0, 0, 0, 0),
  (71, .getfield 122, 74, 0, 4, 0, 0, 0),
  (74, .isub, 75, 0, 0, 0, 0, 0),
  (75, .iconst 2, 76, 0, 0, 0, (2), 0),
  (76, .idiv, 77, 0, 0, 0, 0, 0),
  (77, .ireturn, 78, 0, 0, 0, 0, 0),
  (78, .aload_n 0, 79, 0, 0, 0, 0, 0),
  (79, .iload_n 1, 80, 1, 0, 0, 0, 0),
  (80, .invokevirtual 125, 83, 108, 1, 6, 0, 0),
  (83, .getfield 129, 86, 5, 9, 0, 0, 0),
  (86, .ireturn, 87, 0, 0, 0, 0, 0),
  (87, .aload_n 3, 88, 3, 0, 0, 0, 0),
  (88, .invokevirtual 132, 91, 9, 0, 0, 0, 0),
  (91, .ireturn, 92, 0, 0, 0, 0, 0),
  (92, .aload_n 0, 93, 0, 0, 0, 0, 0),
  (93, .iload_n 1, 94, 1, 0, 0, 0, 0),
  (94, .invokevirtual 125, 97, 108, 1, 6, 0, 0),
  (97, .invokevirtual 135, 100, 69, 0, 5, 0, 0),
  (100, .ireturn, 101, 0, 0, 0, 0, 0),
  (101, .iconst (-1), 102, 0, 0, 0, (-1), 0),
  (102, .ireturn, 103, 0, 0, 0, 0, 0)]
def MX6_about : mI := (6, ⟨"CornerFronts", "about", "(II)I"⟩, prog_1_method_12_code, 4, (some (.int)), oX6_about)
def oX6_piece : List (Nat × mE) := [(0, .aload_n 0, 1, 0, 0, 0, 0, 0),
  (1, .iload_n 1, 2, 1, 0, 0, 0, 0),
  (2, .iload_n 2, 3, 2, 0, 0, 0, 0),
  (3, .invokevirtual 105, 6, 102, 2, 6, 0, 0),
  (6, .ifCond .eq 22, 9, 28, 0, 0, 0, 0),
  (9, .iload_n 3, 10, 3, 0, 0, 0, 0),
  (10, .ifCond .lt 18, 13, 28, 0, 0, 0, 0),
  (13, .iload_n 3, 14, 3, 0, 0, 0, 0),
  (14, .aload_n 0, 15, 0, 0, 0, 0, 0),
  (15, .getfield 24, 18, 6, 2, 0, 0, 0),
  (18, .iload_n 1, 19, 1, 0, 0, 0, 0),
  (19, .aaload, 20, 4, 0, 0, 0, 0),
  (20, .getfield 116, 23, 0, 2, 0, 0, 0),
  (23, .iload_n 2, 24, 2, 0, 0, 0, 0),
  (24, .iaload, 25, 0, 0, 0, 0, 0),
  (25, .if_icmp .lt 5, 28, 30, 0, 0, 0, 0),
  (28, .iconst (-1), 29, 0, 0, 0, (-1), 0),
  (29, .ireturn, 30, 0, 0, 0, 0, 0),
  (30, .aload_n 0, 31, 0, 0, 0, 0, 0),
  (31, .iload_n 1, 32, 1, 0, 0, 0, 0),
  (32, .invokevirtual 125, 35, 108, 1, 6, 0, 0),
  (35, .iload_n 2, 36, 2, 0, 0, 0, 0),
  (36, .iload_n 3, 37, 3, 0, 0, 0, 0),
  (37, .invokevirtual 138, 40, 65, 2, 5, 0, 0),
  (40, .ireturn, 41, 0, 0, 0, 0, 0)]
def MX6_piece : mI := (6, ⟨"CornerFronts", "piece", "(III)I"⟩, prog_1_method_13_code, 4, (some (.int)), oX6_piece)
def oX6_number : List (Nat × mE) := [(0, .aload_n 0, 1, 0, 0, 0, 0, 0),
  (1, .iload_n 1, 2, 1, 0, 0, 0, 0),
  (2, .invokevirtual 98, 5, 101, 1, 6, 0, 0),
  (5, .ifCond .eq 15, 8, 20, 0, 0, 0, 0),
  (8, .aload_n 0, 9, 0, 0, 0, 0, 0),
  (9, .iload_n 1, 10, 1, 0, 0, 0, 0),
  (10, .invokevirtual 125, 13, 108, 1, 6, 0, 0),
  (13, .iload_n 2, 14, 2, 0, 0, 0, 0),
  (14, .invokevirtual 141, 17, 64, 1, 5, 0, 0),
  (17, .ifCond .ne 7, 20, 24, 0, 0, 0, 0),
  (20, .sipush (-1000), 23, 0, 0, 0, (-1000), 0),
  (23, .ireturn, 24, 0, 0, 0, 0, 0),
  (24, .iload_n 3, 25, 3, 0, 0, 0, 0),
  (25, .tableswitch 101 0 4 #[35, 44, 62, 71, 91], 60, 0, 0, 0, 0, 0),
  (60, .aload_n 0, 61, 0, 0, 0, 0, 0),
  (61, .getfield 43, 64, 6, 5, 0, 0, 0),
  (64, .iload_n 2, 65, 2, 0, 0, 0, 0),
  (65, .invokevirtual 144, 68, 70, 1, 5, 0, 0),
  (68, .ireturn, 69, 0, 0, 0, 0, 0),
  (69, .aload_n 0, 70, 0, 0, 0, 0, 0),
  (70, .getfield 43, 73, 6, 5, 0, 0, 0),
  (73, .iload_n 2, 74, 2, 0, 0, 0, 0),
  (74, .invokevirtual 144, 77, 70, 1, 5, 0, 0),
  (77, .aload_n 0, 78, 0, 0, 0, 0, 0),
  (78, .getfield 43, 81, 6, 5, 0, 0, 0),
  (81, .iload_n 2, 82, 2, 0, 0, 0, 0),
  (82, .invokevirtual 148, 85, 73, 1, 5, 0, 0),
  (85, .isub, 86, 0, 0, 0, 0, 0),
  (86, .ireturn, 87, 0, 0, 0, 0, 0),
  (87, .aload_n 0, 88, 0, 0, 0, 0, 0),
  (88, .getfield 43, 91, 6, 5, 0, 0, 0),
  (91, .iload_n 2, 92, 2, 0, 0, 0, 0),
  (92, .invokevirtual 151, 95, 74, 1, 5, 0, 0),
  (95, .ireturn, 96, 0, 0, 0, 0, 0),
  (96, .aload_n 0, 97, 0, 0, 0, 0, 0),
  (97, .getfield 43, 100, 6, 5, 0, 0, 0),
  (100, .getfield 154, 103, 5, 11, 0, 0, 0),
  (103, .iload_n 2, 104, 2, 0, 0, 0, 0),
  (104, .iaload, 105, 0, 0, 0, 0, 0),
  (105, .aload_n 0, 106, 0, 0, 0, 0, 0),
  (106, .getfield 43, 109, 6, 5, 0, 0, 0),
  (109, .getfield 157, 112, 5, 12, 0, 0, 0),
  (112, .iload_n 2, 113, 2, 0, 0, 0, 0),
  (113, .iaload, 114, 0, 0, 0, 0, 0),
  (114, .iadd, 115, 0, 0, 0, 0, 0),
  (115, .ireturn, 116, 0, 0, 0, 0, 0),
  (116, .aload_n 0, 117, 0, 0, 0, 0, 0),
  (117, .getfield 43, 120, 6, 5, 0, 0, 0),
  (120, .getfield 160, 123, 5, 10, 0, 0, 0),
  (123, .iload_n 2, 124, 2, 0, 0, 0, 0),
  (124, .iaload, 125, 0, 0, 0, 0, 0),
  (125, .ireturn, 126, 0, 0, 0, 0, 0),
  (126, .sipush (-1000), 129, 0, 0, 0, (-1000), 0),
  (129, .ireturn, 130, 0, 0, 0, 0, 0)]
def MX6_number : mI := (6, ⟨"CornerFronts", "number", "(III)I"⟩, prog_1_method_14_code, 4, (some (.int)), oX6_number)
def oX6_link : List (Nat × mE) := [(0, .aload_n 0, 1, 0, 0, 0, 0, 0),
  (1, .iload_n 1, 2, 1, 0, 0, 0, 0),
  (2, .invokevirtual 98, 5, 101, 1, 6, 0, 0),
  (5, .ifCond .eq 31, 8, 36, 0, 0, 0, 0),
  (8, .aload_n 0, 9, 0, 0, 0, 0, 0),
  (9, .iload_n 1, 10, 1, 0, 0, 0, 0),
  (10, .invokevirtual 125, 13, 108, 1, 6, 0, 0),
  (13, .iload_n 2, 14, 2, 0, 0, 0, 0),
  (14, .invokevirtual 141, 17, 64, 1, 5, 0, 0),
  (17, .ifCond .eq 19, 20, 36, 0, 0, 0, 0),
  (20, .aload_n 0, 21, 0, 0, 0, 0, 0),
  (21, .getfield 43, 24, 6, 5, 0, 0, 0),
  (24, .iload_n 3, 25, 3, 0, 0, 0, 0),
  (25, .invokevirtual 141, 28, 64, 1, 5, 0, 0),
  (28, .ifCond .eq 8, 31, 36, 0, 0, 0, 0),
  (31, .iload_n 2, 32, 2, 0, 0, 0, 0),
  (32, .iload_n 3, 33, 3, 0, 0, 0, 0),
  (33, .if_icmp .ne 7, 36, 40, 0, 0, 0, 0),
  (36, .sipush (-1000), 39, 0, 0, 0, (-1000), 0),
  (39, .ireturn, 40, 0, 0, 0, 0, 0),
  (40, .aload_n 0, 41, 0, 0, 0, 0, 0),
  (41, .getfield 43, 44, 6, 5, 0, 0, 0),
  (44, .iload_n 2, 45, 2, 0, 0, 0, 0),
  (45, .iload_n 3, 46, 3, 0, 0, 0, 0),
  (46, .invokevirtual 163, 49, 71, 2, 5, 0, 0),
  (49, .ireturn, 50, 0, 0, 0, 0, 0)]
def MX6_link : mI := (6, ⟨"CornerFronts", "link", "(III)I"⟩, prog_1_method_15_code, 4, (some (.int)), oX6_link)
def oX6_sign : List (Nat × mE) := [(0, .aload_n 0, 1, 0, 0, 0, 0, 0),
  (1, .iload_n 1, 2, 1, 0, 0, 0, 0),
  (2, .iload_n 2, 3, 2, 0, 0, 0, 0),
  (3, .invokevirtual 166, 6, 103, 2, 6, 0, 0),
  (6, .ifCond .ne 5, 9, 11, 0, 0, 0, 0),
  (9, .iconst (-1), 10, 0, 0, 0, (-1), 0),
  (10, .ireturn, 11, 0, 0, 0, 0, 0),
  (11, .aload_n 0, 12, 0, 0, 0, 0, 0),
  (12, .iload_n 1, 13, 1, 0, 0, 0, 0),
  (13, .invokevirtual 125, 16, 108, 1, 6, 0, 0),
  (16, .iload_n 2, 17, 2, 0, 0, 0, 0),
  (17, .invokevirtual 169, 20, 68, 1, 5, 0, 0),
  (20, .ifCond .eq 7, 23, 27, 0, 0, 0, 0),
  (23, .iconst 1, 24, 0, 0, 0, (1), 0),
  (24, .goto 4, 27, 28, 0, 0, 0, 0),
  (27, .iconst 0, 28, 0, 0, 0, (0), 0),
  (28, .ireturn, 29, 0, 0, 0, 0, 0)]
def MX6_sign : mI := (6, ⟨"CornerFronts", "sign", "(II)I"⟩, prog_1_method_16_code, 3, (some (.int)), oX6_sign)
def oX6_degree : List (Nat × mE) := [(0, .aload_n 0, 1, 0, 0, 0, 0, 0),
  (1, .iload_n 1, 2, 1, 0, 0, 0, 0),
  (2, .iload_n 2, 3, 2, 0, 0, 0, 0),
  (3, .invokevirtual 166, 6, 103, 2, 6, 0, 0),
  (6, .ifCond .ne 7, 9, 13, 0, 0, 0, 0),
  (9, .sipush (-1000), 12, 0, 0, 0, (-1000), 0),
  (12, .ireturn, 13, 0, 0, 0, 0, 0),
  (13, .aload_n 0, 14, 0, 0, 0, 0, 0),
  (14, .iload_n 1, 15, 1, 0, 0, 0, 0),
  (15, .invokevirtual 125, 18, 108, 1, 6, 0, 0),
  (18, .getfield 129, 21, 5, 9, 0, 0, 0),
  (21, .iconst 1, 22, 0, 0, 0, (1), 0),
  (22, .if_icmp .eq 7, 25, 29, 0, 0, 0, 0),
  (25, .sipush (-1002), 28, 0, 0, 0, (-1002), 0),
  (28, .ireturn, 29, 0, 0, 0, 0, 0),
  (29, .aload_n 0, 30, 0, 0, 0, 0, 0),
  (30, .getfield 43, 33, 6, 5, 0, 0, 0),
  (33, .iload_n 2, 34, 2, 0, 0, 0, 0),
  (34, .invokevirtual 172, 37, 75, 1, 5, 0, 0),
  (37, .ireturn, 38, 0, 0, 0, 0, 0)]
def MX6_degree : mI := (6, ⟨"CornerFronts", "degree", "(II)I"⟩, prog_1_method_17_code, 3, (some (.int)), oX6_degree)
def oX6_rulings : List (Nat × mE) := [(0, .aload_n 0, 1, 0, 0, 0, 0, 0),
  (1, .iload_n 1, 2, 1, 0, 0, 0, 0),
  (2, .invokevirtual 98, 5, 101, 1, 6, 0, 0),
  (5, .ifCond .eq 15, 8, 20, 0, 0, 0, 0),
  (8, .iload_n 2, 9, 2, 0, 0, 0, 0),
  (9, .invokestatic 175, 12, 106, 1, 6, 0, 0),
  (12, .ifCond .eq 8, 15, 20, 0, 0, 0, 0),
  (15, .iload_n 3, 16, 3, 0, 0, 0, 0),
  (16, .iconst (-1), 17, 0, 0, 0, (-1), 0),
  (17, .if_icmp .ge 5, 20, 22, 0, 0, 0, 0),
  (20, .iconst (-1), 21, 0, 0, 0, (-1), 0),
  (21, .ireturn, 22, 0, 0, 0, 0, 0),
  (22, .aload_n 0, 23, 0, 0, 0, 0, 0),
  (23, .iload_n 1, 24, 1, 0, 0, 0, 0),
  (24, .iload_n 2, 25, 2, 0, 0, 0, 0),
  (25, .invokevirtual 178, 28, 107, 2, 6, 0, 0),
  (28, .ifCond .ne 6, 31, 34, 0, 0, 0, 0),
  (31, .bipush (-2), 33, 0, 0, 0, (-2), 0),
  (33, .ireturn, 34, 0, 0, 0, 0, 0),
  (34, .aload_n 0, 35, 0, 0, 0, 0, 0),
  (35, .getfield 50, 38, 6, 6, 0, 0, 0),
  (38, .aload_n 0, 39, 0, 0, 0, 0, 0),
  (39, .getfield 43, 42, 6, 5, 0, 0, 0),
  (42, .iload_n 2, 43, 2, 0, 0, 0, 0),
  (43, .invokevirtual 181, 46, 34, 2, 3, 0, 0),
  (46, .iload_n 3, 47, 3, 0, 0, 0, 0),
  (47, .iconst (-1), 48, 0, 0, 0, (-1), 0),
  (48, .if_icmp .ne 13, 51, 61, 0, 0, 0, 0),
  (51, .aload_n 0, 52, 0, 0, 0, 0, 0),
  (52, .getfield 50, 55, 6, 6, 0, 0, 0),
  (55, .getfield 185, 58, 3, 5, 0, 0, 0),
  (58, .goto 11, 61, 69, 0, 0, 0, 0),
  (61, .aload_n 0, 62, 0, 0, 0, 0, 0),
  (62, .getfield 50, 65, 6, 6, 0, 0, 0),
  (65, .iload_n 3, 66, 3, 0, 0, 0, 0),
  (66, .invokevirtual 188, 69, 36, 1, 3, 0, 0),
  (69, .ireturn, 70, 0, 0, 0, 0, 0)]
def MX6_rulings : mI := (6, ⟨"CornerFronts", "rulings", "(III)I"⟩, prog_1_method_18_code, 4, (some (.int)), oX6_rulings)
def oX6_first : List (Nat × mE) := [(0, .aload_n 0, 1, 0, 0, 0, 0, 0),
  (1, .iload_n 1, 2, 1, 0, 0, 0, 0),
  (2, .invokevirtual 98, 5, 101, 1, 6, 0, 0),
  (5, .ifCond .eq 27, 8, 32, 0, 0, 0, 0),
  (8, .iload_n 2, 9, 2, 0, 0, 0, 0),
  (9, .invokestatic 175, 12, 106, 1, 6, 0, 0),
  (12, .ifCond .eq 20, 15, 32, 0, 0, 0, 0),
  (15, .iload_n 3, 16, 3, 0, 0, 0, 0),
  (16, .ifCond .lt 16, 19, 32, 0, 0, 0, 0),
  (19, .iload_n 3, 20, 3, 0, 0, 0, 0),
  (20, .aload_n 0, 21, 0, 0, 0, 0, 0),
  (21, .getfield 24, 24, 6, 2, 0, 0, 0),
  (24, .iload_n 1, 25, 1, 0, 0, 0, 0),
  (25, .aaload, 26, 4, 0, 0, 0, 0),
  (26, .getfield 122, 29, 0, 4, 0, 0, 0),
  (29, .if_icmp .lt 5, 32, 34, 0, 0, 0, 0),
  (32, .iconst (-1), 33, 0, 0, 0, (-1), 0),
  (33, .ireturn, 34, 0, 0, 0, 0, 0),
  (34, .aload_n 0, 35, 0, 0, 0, 0, 0),
  (35, .iload_n 1, 36, 1, 0, 0, 0, 0),
  (36, .iload_n 2, 37, 2, 0, 0, 0, 0),
  (37, .invokevirtual 178, 40, 107, 2, 6, 0, 0),
  (40, .ifCond .ne 6, 43, 46, 0, 0, 0, 0),
  (43, .bipush (-2), 45, 0, 0, 0, (-2), 0),
  (45, .ireturn, 46, 0, 0, 0, 0, 0),
  (46, .aload_n 0, 47, 0, 0, 0, 0, 0),
  (47, .getfield 50, 50, 6, 6, 0, 0, 0),
  (50, .aload_n 0, 51, 0, 0, 0, 0, 0),
  (51, .getfield 43, 54, 6, 5, 0, 0, 0),
  (54, .iload_n 2, 55, 2, 0, 0, 0, 0),
  (55, .invokevirtual 191, 58, 35, 2, 3, 0, 0),
  (58, .aload_n 0, 59, 0, 0, 0, 0, 0),
  (59, .getfield 50, 62, 6, 6, 0, 0, 0),
  (62, .getfield 185, 65, 3, 5, 0, 0, 0),
  (65, .ifCond .ne 6, 68, 71, 0, 0, 0, 0),
  (68, .bipush (-4), 70, 0, 0, 0, (-4), 0),
  (70, .ireturn, 71, 0, 0, 0, 0, 0),
  (71, .aload_n 0, 72, 0, 0, 0, 0, 0),
  (72, .getfield 50, 75, 6, 6, 0, 0, 0),
  (75, .getfield 194, 78, 3, 6, 0, 0, 0),
  (78, .iload_n 3, 79, 3, 0, 0, 0, 0),
  (79, .ishr, 80, 0, 0, 0, 0, 0),
  (80, .iconst 1, 81, 0, 0, 0, (1), 0),
  (81, .iand, 82, 0, 0, 0, 0, 0),
  (82, .ireturn, 83, 0, 0, 0, 0, 0)]
def MX6_first : mI := (6, ⟨"CornerFronts", "first", "(III)I"⟩, prog_1_method_19_code, 4, (some (.int)), oX6_first)
def oX6_move : List (Nat × mE) := [(0, .aload_n 0, 1, 0, 0, 0, 0, 0),
  (1, .iload_n 1, 2, 1, 0, 0, 0, 0),
  (2, .iload_n 3, 3, 3, 0, 0, 0, 0),
  (3, .invokevirtual 105, 6, 102, 2, 6, 0, 0),
  (6, .ifCond .eq 12, 9, 18, 0, 0, 0, 0),
  (9, .iload_n 2, 10, 2, 0, 0, 0, 0),
  (10, .ifCond .lt 8, 13, 18, 0, 0, 0, 0),
  (13, .iload_n 2, 14, 2, 0, 0, 0, 0),
  (14, .iconst 4, 15, 0, 0, 0, (4), 0),
  (15, .if_icmp .le 5, 18, 20, 0, 0, 0, 0),
  (18, .iconst (-1), 19, 0, 0, 0, (-1), 0),
  (19, .ireturn, 20, 0, 0, 0, 0, 0),
  (20, .aload_n 0, 21, 0, 0, 0, 0, 0),
  (21, .getfield 36, 24, 6, 4, 0, 0, 0),
  (24, .aload_n 0, 25, 0, 0, 0, 0, 0),
  (25, .getfield 24, 28, 6, 2, 0, 0, 0),
  (28, .iload_n 1, 29, 1, 0, 0, 0, 0),
  (29, .aaload, 30, 4, 0, 0, 0, 0),
  (30, .iload_n 2, 31, 2, 0, 0, 0, 0),
  (31, .iload_n 3, 32, 3, 0, 0, 0, 0),
  (32, .invokevirtual 197, 35, 16, 3, 1, 0, 0),
  (35, .ifCond .eq 12, 38, 47, 0, 0, 0, 0),
  (38, .aload_n 0, 39, 0, 0, 0, 0, 0),
  (39, .iload_n 1, 40, 1, 0, 0, 0, 0),
  (40, .iload_n 3, 41, 3, 0, 0, 0, 0),
  (41, .invokevirtual 201, 44, 110, 2, 6, 0, 0),
  (44, .goto 5, 47, 49, 0, 0, 0, 0),
  (47, .bipush (-2), 49, 0, 0, 0, (-2), 0),
  (49, .ireturn, 50, 0, 0, 0, 0, 0)]
def MX6_move : mI := (6, ⟨"CornerFronts", "move", "(III)I"⟩, prog_1_method_20_code, 4, (some (.int)), oX6_move)
def oX6_add : List (Nat × mE) := [(0, .aload_n 0, 1, 0, 0, 0, 0, 0),
  (1, .iload_n 1, 2, 1, 0, 0, 0, 0),
  (2, .invokevirtual 98, 5, 101, 1, 6, 0, 0),
  (5, .ifCond .eq 29, 8, 34, 0, 0, 0, 0),
  (8, .iload_n 2, 9, 2, 0, 0, 0, 0),
  (9, .ifCond .lt 25, 12, 34, 0, 0, 0, 0),
  (12, .iload_n 2, 13, 2, 0, 0, 0, 0),
  (13, .iconst 3, 14, 0, 0, 0, (3), 0),
  (14, .if_icmp .gt 20, 17, 34, 0, 0, 0, 0),
  (17, .iload_n 3, 18, 3, 0, 0, 0, 0),
  (18, .ifCond .lt 16, 21, 34, 0, 0, 0, 0),
  (21, .iload_n 3, 22, 3, 0, 0, 0, 0),
  (22, .aload_n 0, 23, 0, 0, 0, 0, 0),
  (23, .getfield 24, 26, 6, 2, 0, 0, 0),
  (26, .iload_n 1, 27, 1, 0, 0, 0, 0),
  (27, .aaload, 28, 4, 0, 0, 0, 0),
  (28, .getfield 119, 31, 0, 3, 0, 0, 0),
  (31, .if_icmp .le 5, 34, 36, 0, 0, 0, 0),
  (34, .iconst (-1), 35, 0, 0, 0, (-1), 0),
  (35, .ireturn, 36, 0, 0, 0, 0, 0),
  (36, .iload 4, 38, 4, 0, 0, 0, 0),
  (38, .ifCond .lt 19, 41, 57, 0, 0, 0, 0),
  (41, .iload 4, 43, 4, 0, 0, 0, 0),
  (43, .aload_n 0, 44, 0, 0, 0, 0, 0),
  (44, .getfield 24, 47, 6, 2, 0, 0, 0),
  (47, .iload_n 1, 48, 1, 0, 0, 0, 0),
  (48, .aaload, 49, 4, 0, 0, 0, 0),
  (49, .getfield 116, 52, 0, 2, 0, 0, 0),
  (52, .iload_n 3, 53, 3, 0, 0, 0, 0),
  (53, .iaload, 54, 0, 0, 0, 0, 0),
  (54, .if_icmp .lt 5, 57, 59, 0, 0, 0, 0),
  (57, .iconst (-1), 58, 0, 0, 0, (-1), 0),
  (58, .ireturn, 59, 0, 0, 0, 0, 0),
  (59, .aload_n 0, 60, 0, 0, 0, 0, 0),
  (60, .getfield 36, 63, 6, 4, 0, 0, 0),
  (63, .iload_n 2, 64, 2, 0, 0, 0, 0),
  (64, .iload 4, 66, 4, 0, 0, 0, 0),
  (66, .invokevirtual 204, 69, 24, 2, 1, 0, 0),
  (69, .aload_n 0, 70, 0, 0, 0, 0, 0),
  (70, .iload_n 1, 71, 1, 0, 0, 0, 0),
  (71, .iload_n 3, 72, 3, 0, 0, 0, 0),
  (72, .invokevirtual 201, 75, 110, 2, 6, 0, 0),
  (75, .ireturn, 76, 0, 0, 0, 0, 0)]
def MX6_add : mI := (6, ⟨"CornerFronts", "add", "(IIII)I"⟩, prog_1_method_21_code, 5, (some (.int)), oX6_add)
def oX6_push : List (Nat × mE) := [(0, .aload_n 0, 1, 0, 0, 0, 0, 0),
  (1, .iload_n 1, 2, 1, 0, 0, 0, 0),
  (2, .iload_n 3, 3, 3, 0, 0, 0, 0),
  (3, .invokevirtual 105, 6, 102, 2, 6, 0, 0),
  (6, .ifCond .eq 12, 9, 18, 0, 0, 0, 0),
  (9, .iload_n 2, 10, 2, 0, 0, 0, 0),
  (10, .ifCond .lt 8, 13, 18, 0, 0, 0, 0),
  (13, .iload_n 2, 14, 2, 0, 0, 0, 0),
  (14, .iconst 1, 15, 0, 0, 0, (1), 0),
  (15, .if_icmp .le 5, 18, 20, 0, 0, 0, 0),
  (18, .iconst (-1), 19, 0, 0, 0, (-1), 0),
  (19, .ireturn, 20, 0, 0, 0, 0, 0),
  (20, .aload_n 0, 21, 0, 0, 0, 0, 0),
  (21, .getfield 36, 24, 6, 4, 0, 0, 0),
  (24, .aload_n 0, 25, 0, 0, 0, 0, 0),
  (25, .getfield 24, 28, 6, 2, 0, 0, 0),
  (28, .iload_n 1, 29, 1, 0, 0, 0, 0),
  (29, .aaload, 30, 4, 0, 0, 0, 0),
  (30, .iload_n 2, 31, 2, 0, 0, 0, 0),
  (31, .iload_n 3, 32, 3, 0, 0, 0, 0),
  (32, .invokevirtual 207, 35, 25, 3, 1, 0, 0),
  (35, .ifCond .eq 12, 38, 47, 0, 0, 0, 0),
  (38, .aload_n 0, 39, 0, 0, 0, 0, 0),
  (39, .iload_n 1, 40, 1, 0, 0, 0, 0),
  (40, .iload_n 3, 41, 3, 0, 0, 0, 0),
  (41, .invokevirtual 201, 44, 110, 2, 6, 0, 0),
  (44, .goto 5, 47, 49, 0, 0, 0, 0),
  (47, .bipush (-2), 49, 0, 0, 0, (-2), 0),
  (49, .ireturn, 50, 0, 0, 0, 0, 0)]
def MX6_push : mI := (6, ⟨"CornerFronts", "push", "(III)I"⟩, prog_1_method_22_code, 4, (some (.int)), oX6_push)
def oX6_join : List (Nat × mE) := [(0, .aload_n 0, 1, 0, 0, 0, 0, 0),
  (1, .iload_n 1, 2, 1, 0, 0, 0, 0),
  (2, .invokevirtual 98, 5, 101, 1, 6, 0, 0),
  (5, .ifCond .eq 11, 8, 16, 0, 0, 0, 0),
  (8, .aload_n 0, 9, 0, 0, 0, 0, 0),
  (9, .iload_n 2, 10, 2, 0, 0, 0, 0),
  (10, .invokevirtual 98, 13, 101, 1, 6, 0, 0),
  (13, .ifCond .ne 5, 16, 18, 0, 0, 0, 0),
  (16, .iconst (-1), 17, 0, 0, 0, (-1), 0),
  (17, .ireturn, 18, 0, 0, 0, 0, 0),
  (18, .aload_n 0, 19, 0, 0, 0, 0, 0),
  (19, .getfield 29, 22, 6, 3, 0, 0, 0),
  (22, .invokevirtual 210, 25, 1, 0, 0, 0, 0),
  (25, .aload_n 0, 26, 0, 0, 0, 0, 0),
  (26, .getfield 29, 29, 6, 3, 0, 0, 0),
  (29, .aload_n 0, 30, 0, 0, 0, 0, 0),
  (30, .getfield 24, 33, 6, 2, 0, 0, 0),
  (33, .iload_n 1, 34, 1, 0, 0, 0, 0),
  (34, .aaload, 35, 4, 0, 0, 0, 0),
  (35, .iconst 0, 36, 0, 0, 0, (0), 0),
  (36, .aload_n 0, 37, 0, 0, 0, 0, 0),
  (37, .getfield 24, 40, 6, 2, 0, 0, 0),
  (40, .iload_n 1, 41, 1, 0, 0, 0, 0),
  (41, .aaload, 42, 4, 0, 0, 0, 0),
  (42, .getfield 119, 45, 0, 3, 0, 0, 0),
  (45, .iconst 1, 46, 0, 0, 0, (1), 0),
  (46, .isub, 47, 0, 0, 0, 0, 0),
  (47, .invokevirtual 213, 50, 7, 3, 0, 0, 0),
  (50, .ifCond .eq 33, 53, 83, 0, 0, 0, 0),
  (53, .aload_n 0, 54, 0, 0, 0, 0, 0),
  (54, .getfield 29, 57, 6, 3, 0, 0, 0),
  (57, .aload_n 0, 58, 0, 0, 0, 0, 0),
  (58, .getfield 24, 61, 6, 2, 0, 0, 0),
  (61, .iload_n 2, 62, 2, 0, 0, 0, 0),
  (62, .aaload, 63, 4, 0, 0, 0, 0),
  (63, .iconst 1, 64, 0, 0, 0, (1), 0),
  (64, .aload_n 0, 65, 0, 0, 0, 0, 0),
  (65, .getfield 24, 68, 6, 2, 0, 0, 0),
  (68, .iload_n 2, 69, 2, 0, 0, 0, 0),
  (69, .aaload, 70, 4, 0, 0, 0, 0),
  (70, .getfield 119, 73, 0, 3, 0, 0, 0),
  (73, .invokevirtual 213, 76, 7, 3, 0, 0, 0),
  (76, .ifCond .eq 7, 79, 83, 0, 0, 0, 0),
  (79, .iconst 1, 80, 0, 0, 0, (1), 0),
  (80, .goto 4, 83, 84, 0, 0, 0, 0),
  (83, .iconst 0, 84, 0, 0, 0, (0), 0),
  (84, .istore_n 3, 85, 3, 0, 0, 0, 0),
  (85, .iload_n 3, 86, 3, 0, 0, 0, 0),
  (86, .ifCond .eq 10, 89, 96, 0, 0, 0, 0),
  (89, .aload_n 0, 90, 0, 0, 0, 0, 0),
  (90, .invokevirtual 73, 93, 109, 0, 6, 0, 0),
  (93, .goto 5, 96, 98, 0, 0, 0, 0),
  (96, .bipush (-3), 98, 0, 0, 0, (-3), 0),
  (98, .ireturn, 99, 0, 0, 0, 0, 0)]
def MX6_join : mI := (6, ⟨"CornerFronts", "join", "(II)I"⟩, prog_1_method_23_code, 4, (some (.int)), oX6_join)
def oX6_unlike : List (Nat × mE) := [(0, .aload_n 0, 1, 0, 0, 0, 0, 0),
  (1, .iload_n 1, 2, 1, 0, 0, 0, 0),
  (2, .invokevirtual 98, 5, 101, 1, 6, 0, 0),
  (5, .ifCond .eq 11, 8, 16, 0, 0, 0, 0),
  (8, .aload_n 0, 9, 0, 0, 0, 0, 0),
  (9, .iload_n 2, 10, 2, 0, 0, 0, 0),
  (10, .invokevirtual 98, 13, 101, 1, 6, 0, 0),
  (13, .ifCond .ne 5, 16, 18, 0, 0, 0, 0),
  (16, .iconst (-1), 17, 0, 0, 0, (-1), 0),
  (17, .ireturn, 18, 0, 0, 0, 0, 0),
  (18, .aload_n 0, 19, 0, 0, 0, 0, 0),
  (19, .getfield 24, 22, 6, 2, 0, 0, 0),
  (22, .iload_n 1, 23, 1, 0, 0, 0, 0),
  (23, .aaload, 24, 4, 0, 0, 0, 0),
  (24, .aload_n 0, 25, 0, 0, 0, 0, 0),
  (25, .getfield 24, 28, 6, 2, 0, 0, 0),
  (28, .iload_n 2, 29, 2, 0, 0, 0, 0),
  (29, .aaload, 30, 4, 0, 0, 0, 0),
  (30, .invokevirtual 216, 33, 10, 1, 0, 0, 0),
  (33, .ireturn, 34, 0, 0, 0, 0, 0)]
def MX6_unlike : mI := (6, ⟨"CornerFronts", "unlike", "(II)I"⟩, prog_1_method_24_code, 3, (some (.int)), oX6_unlike)
def oX6_count : List (Nat × mE) := [(0, .iload_n 1, 1, 1, 0, 0, 0, 0),
  (1, .tableswitch 68 0 2 #[27, 32, 60], 28, 0, 0, 0, 0, 0),
  (28, .aload_n 0, 29, 0, 0, 0, 0, 0),
  (29, .getfield 54, 32, 6, 7, 0, 0, 0),
  (32, .ireturn, 33, 0, 0, 0, 0, 0),
  (33, .aload_n 0, 34, 0, 0, 0, 0, 0),
  (34, .getfield 18, 37, 6, 1, 0, 0, 0),
  (37, .iconst 0, 38, 0, 0, 0, (0), 0),
  (38, .aaload, 39, 5, 0, 0, 0, 0),
  (39, .getfield 219, 42, 2, 1, 0, 0, 0),
  (42, .iconst (-1), 43, 0, 0, 0, (-1), 0),
  (43, .if_icmp .ne 8, 46, 51, 0, 0, 0, 0),
  (46, .bipush (-4), 48, 0, 0, 0, (-4), 0),
  (48, .goto 12, 51, 60, 0, 0, 0, 0),
  (51, .aload_n 0, 52, 0, 0, 0, 0, 0),
  (52, .getfield 18, 55, 6, 1, 0, 0, 0),
  (55, .iconst 0, 56, 0, 0, 0, (0), 0),
  (56, .aaload, 57, 5, 0, 0, 0, 0),
  (57, .getfield 222, 60, 2, 2, 0, 0, 0),
  (60, .ireturn, 61, 0, 0, 0, 0, 0),
  (61, .aload_n 0, 62, 0, 0, 0, 0, 0),
  (62, .getfield 12, 65, 6, 0, 0, 0, 0),
  (65, .getfield 62, 68, 4, 1, 0, 0, 0),
  (68, .ireturn, 69, 0, 0, 0, 0, 0),
  (69, .iconst (-1), 70, 0, 0, 0, (-1), 0),
  (70, .ireturn, 71, 0, 0, 0, 0, 0)]
def MX6_count : mI := (6, ⟨"CornerFronts", "count", "(I)I"⟩, prog_1_method_25_code, 2, (some (.int)), oX6_count)
def oX6_isFront : List (Nat × mE) := [(0, .iload_n 1, 1, 1, 0, 0, 0, 0),
  (1, .ifCond .lt 15, 4, 16, 0, 0, 0, 0),
  (4, .iload_n 1, 5, 1, 0, 0, 0, 0),
  (5, .aload_n 0, 6, 0, 0, 0, 0, 0),
  (6, .getfield 54, 9, 6, 7, 0, 0, 0),
  (9, .if_icmp .ge 7, 12, 16, 0, 0, 0, 0),
  (12, .iconst 1, 13, 0, 0, 0, (1), 0),
  (13, .goto 4, 16, 17, 0, 0, 0, 0),
  (16, .iconst 0, 17, 0, 0, 0, (0), 0),
  (17, .ireturn, 18, 0, 0, 1, 0, 0)]
def MX6_isFront : mI := (6, ⟨"CornerFronts", "isFront", "(I)Z"⟩, prog_1_method_26_code, 2, (some (.boolean)), oX6_isFront)
def oX6_isEvent : List (Nat × mE) := [(0, .aload_n 0, 1, 0, 0, 0, 0, 0),
  (1, .iload_n 1, 2, 1, 0, 0, 0, 0),
  (2, .invokevirtual 98, 5, 101, 1, 6, 0, 0),
  (5, .ifCond .eq 24, 8, 29, 0, 0, 0, 0),
  (8, .iload_n 2, 9, 2, 0, 0, 0, 0),
  (9, .ifCond .lt 20, 12, 29, 0, 0, 0, 0),
  (12, .iload_n 2, 13, 2, 0, 0, 0, 0),
  (13, .aload_n 0, 14, 0, 0, 0, 0, 0),
  (14, .getfield 24, 17, 6, 2, 0, 0, 0),
  (17, .iload_n 1, 18, 1, 0, 0, 0, 0),
  (18, .aaload, 19, 4, 0, 0, 0, 0),
  (19, .getfield 119, 22, 0, 3, 0, 0, 0),
  (22, .if_icmp .ge 7, 25, 29, 0, 0, 0, 0),
  (25, .iconst 1, 26, 0, 0, 0, (1), 0),
  (26, .goto 4, 29, 30, 0, 0, 0, 0),
  (29, .iconst 0, 30, 0, 0, 0, (0), 0),
  (30, .ireturn, 31, 0, 0, 1, 0, 0)]
def MX6_isEvent : mI := (6, ⟨"CornerFronts", "isEvent", "(II)Z"⟩, prog_1_method_27_code, 3, (some (.boolean)), oX6_isEvent)
def oX6_isCross : List (Nat × mE) := [(0, .aload_n 0, 1, 0, 0, 0, 0, 0),
  (1, .iload_n 1, 2, 1, 0, 0, 0, 0),
  (2, .iload_n 2, 3, 2, 0, 0, 0, 0),
  (3, .invokevirtual 105, 6, 102, 2, 6, 0, 0),
  (6, .ifCond .eq 22, 9, 28, 0, 0, 0, 0),
  (9, .aload_n 0, 10, 0, 0, 0, 0, 0),
  (10, .getfield 24, 13, 6, 2, 0, 0, 0),
  (13, .iload_n 1, 14, 1, 0, 0, 0, 0),
  (14, .aaload, 15, 4, 0, 0, 0, 0),
  (15, .getfield 109, 18, 0, 0, 0, 0, 0),
  (18, .iload_n 2, 19, 2, 0, 0, 0, 0),
  (19, .iaload, 20, 0, 0, 0, 0, 0),
  (20, .iconst 1, 21, 0, 0, 0, (1), 0),
  (21, .if_icmp .ne 7, 24, 28, 0, 0, 0, 0),
  (24, .iconst 1, 25, 0, 0, 0, (1), 0),
  (25, .goto 4, 28, 29, 0, 0, 0, 0),
  (28, .iconst 0, 29, 0, 0, 0, (0), 0),
  (29, .ireturn, 30, 0, 0, 1, 0, 0)]
def MX6_isCross : mI := (6, ⟨"CornerFronts", "isCross", "(II)Z"⟩, prog_1_method_28_code, 3, (some (.boolean)), oX6_isCross)
def oX6_isSheet : List (Nat × mE) := [(0, .iload_n 0, 1, 0, 0, 0, 0, 0),
  (1, .ifCond .lt 12, 4, 13, 0, 0, 0, 0),
  (4, .iload_n 0, 5, 0, 0, 0, 0, 0),
  (5, .iconst 4, 6, 0, 0, 0, (4), 0),
  (6, .if_icmp .ge 7, 9, 13, 0, 0, 0, 0),
  (9, .iconst 1, 10, 0, 0, 0, (1), 0),
  (10, .goto 4, 13, 14, 0, 0, 0, 0),
  (13, .iconst 0, 14, 0, 0, 0, (0), 0),
  (14, .ireturn, 15, 0, 0, 1, 0, 0)]
def MX6_isSheet : mI := (6, ⟨"CornerFronts", "isSheet", "(I)Z"⟩, prog_1_method_29_code, 1, (some (.boolean)), oX6_isSheet)
def oX6_isLane : List (Nat × mE) := [(0, .iload_n 0, 1, 0, 0, 0, 0, 0),
  (1, .ifCond .lt 12, 4, 13, 0, 0, 0, 0),
  (4, .iload_n 0, 5, 0, 0, 0, 0, 0),
  (5, .iconst 2, 6, 0, 0, 0, (2), 0),
  (6, .if_icmp .gt 7, 9, 13, 0, 0, 0, 0),
  (9, .iconst 1, 10, 0, 0, 0, (1), 0),
  (10, .goto 4, 13, 14, 0, 0, 0, 0),
  (13, .iconst 0, 14, 0, 0, 0, (0), 0),
  (14, .ireturn, 15, 0, 0, 1, 0, 0)]
def MX6_isLane : mI := (6, ⟨"CornerFronts", "isLane", "(I)Z"⟩, prog_1_method_30_code, 1, (some (.boolean)), oX6_isLane)
def oX6_isSort : List (Nat × mE) := [(0, .iload_n 0, 1, 0, 0, 0, 0, 0),
  (1, .ifCond .lt 12, 4, 13, 0, 0, 0, 0),
  (4, .iload_n 0, 5, 0, 0, 0, 0, 0),
  (5, .iconst 2, 6, 0, 0, 0, (2), 0),
  (6, .if_icmp .gt 7, 9, 13, 0, 0, 0, 0),
  (9, .iconst 1, 10, 0, 0, 0, (1), 0),
  (10, .goto 4, 13, 14, 0, 0, 0, 0),
  (13, .iconst 0, 14, 0, 0, 0, (0), 0),
  (14, .ireturn, 15, 0, 0, 1, 0, 0)]
def MX6_isSort : mI := (6, ⟨"CornerFronts", "isSort", "(I)Z"⟩, prog_1_method_31_code, 1, (some (.boolean)), oX6_isSort)
def oX6_hasSort : List (Nat × mE) := [(0, .aload_n 0, 1, 0, 0, 0, 0, 0),
  (1, .iload_n 1, 2, 1, 0, 0, 0, 0),
  (2, .invokevirtual 125, 5, 108, 1, 6, 0, 0),
  (5, .getfield 129, 8, 5, 9, 0, 0, 0),
  (8, .iconst 1, 9, 0, 0, 0, (1), 0),
  (9, .if_icmp .eq 8, 12, 17, 0, 0, 0, 0),
  (12, .iload_n 2, 13, 2, 0, 0, 0, 0),
  (13, .iconst 2, 14, 0, 0, 0, (2), 0),
  (14, .if_icmp .eq 7, 17, 21, 0, 0, 0, 0),
  (17, .iconst 1, 18, 0, 0, 0, (1), 0),
  (18, .goto 4, 21, 22, 0, 0, 0, 0),
  (21, .iconst 0, 22, 0, 0, 0, (0), 0),
  (22, .ireturn, 23, 0, 0, 1, 0, 0)]
def MX6_hasSort : mI := (6, ⟨"CornerFronts", "hasSort", "(II)Z"⟩, prog_1_method_32_code, 3, (some (.boolean)), oX6_hasSort)
def oX6_traced : List (Nat × mE) := [(0, .aload_n 0, 1, 0, 0, 0, 0, 0),
  (1, .getfield 43, 4, 6, 5, 0, 0, 0),
  (4, .aload_n 0, 5, 0, 0, 0, 0, 0),
  (5, .getfield 24, 8, 6, 2, 0, 0, 0),
  (8, .iload_n 1, 9, 1, 0, 0, 0, 0),
  (9, .aaload, 10, 4, 0, 0, 0, 0),
  (10, .invokevirtual 223, 13, 57, 1, 5, 0, 0),
  (13, .aload_n 0, 14, 0, 0, 0, 0, 0),
  (14, .getfield 43, 17, 6, 5, 0, 0, 0),
  (17, .areturn, 18, 0, 0, 0, 0, 0)]
def MX6_traced : mI := (6, ⟨"CornerFronts", "traced", "(I)LCornerFronts$Ways;"⟩, prog_1_method_33_code, 2, (some (.object "CornerFronts$Ways")), oX6_traced)
def oX6_keepDraft : List (Nat × mE) := [(0, .aload_n 0, 1, 0, 0, 0, 0, 0),
  (1, .getfield 54, 4, 6, 7, 0, 0, 0),
  (4, .bipush 8, 6, 0, 0, 0, (8), 0),
  (6, .if_icmp .lt 6, 9, 12, 0, 0, 0, 0),
  (9, .bipush (-3), 11, 0, 0, 0, (-3), 0),
  (11, .ireturn, 12, 0, 0, 0, 0, 0),
  (12, .aload_n 0, 13, 0, 0, 0, 0, 0),
  (13, .getfield 24, 16, 6, 2, 0, 0, 0),
  (16, .aload_n 0, 17, 0, 0, 0, 0, 0),
  (17, .getfield 54, 20, 6, 7, 0, 0, 0),
  (20, .aaload, 21, 4, 0, 0, 0, 0),
  (21, .aload_n 0, 22, 0, 0, 0, 0, 0),
  (22, .getfield 29, 25, 6, 3, 0, 0, 0),
  (25, .invokevirtual 101, 28, 2, 1, 0, 0, 0),
  (28, .aload_n 0, 29, 0, 0, 0, 0, 0),
  (29, .dup, 30, 0, 0, 0, 0, 0),
  (30, .getfield 54, 33, 6, 7, 0, 0, 0),
  (33, .iconst 1, 34, 0, 0, 0, (1), 0),
  (34, .iadd, 35, 0, 0, 0, 0, 0),
  (35, .putfield 54, 38, 6, 7, 0, 0, 0),
  (38, .aload_n 0, 39, 0, 0, 0, 0, 0),
  (39, .getfield 54, 42, 6, 7, 0, 0, 0),
  (42, .iconst 1, 43, 0, 0, 0, (1), 0),
  (43, .isub, 44, 0, 0, 0, 0, 0),
  (44, .ireturn, 45, 0, 0, 0, 0, 0)]
def MX6_keepDraft : mI := (6, ⟨"CornerFronts", "keepDraft", "()I"⟩, prog_1_method_34_code, 1, (some (.int)), oX6_keepDraft)
def oX6_applyPatch : List (Nat × mE) := [(0, .aload_n 0, 1, 0, 0, 0, 0, 0),
  (1, .getfield 24, 4, 6, 2, 0, 0, 0),
  (4, .iload_n 1, 5, 1, 0, 0, 0, 0),
  (5, .aaload, 6, 4, 0, 0, 0, 0),
  (6, .astore_n 3, 7, 3, 0, 0, 0, 0),
  (7, .aload_n 0, 8, 0, 0, 0, 0, 0),
  (8, .getfield 29, 11, 6, 3, 0, 0, 0),
  (11, .invokevirtual 210, 14, 1, 0, 0, 0, 0),
  (14, .aload_n 0, 15, 0, 0, 0, 0, 0),
  (15, .getfield 29, 18, 6, 3, 0, 0, 0),
  (18, .aload_n 3, 19, 3, 0, 0, 0, 0),
  (19, .iconst 0, 20, 0, 0, 0, (0), 0),
  (20, .iload_n 2, 21, 2, 0, 0, 0, 0),
  (21, .invokevirtual 213, 24, 7, 3, 0, 0, 0),
  (24, .ifCond .eq 45, 27, 69, 0, 0, 0, 0),
  (27, .aload_n 0, 28, 0, 0, 0, 0, 0),
  (28, .getfield 29, 31, 6, 3, 0, 0, 0),
  (31, .aload_n 0, 32, 0, 0, 0, 0, 0),
  (32, .getfield 36, 35, 6, 4, 0, 0, 0),
  (35, .invokevirtual 226, 38, 8, 1, 0, 0, 0),
  (38, .ifCond .eq 31, 41, 69, 0, 0, 0, 0),
  (41, .aload_n 0, 42, 0, 0, 0, 0, 0),
  (42, .getfield 29, 45, 6, 3, 0, 0, 0),
  (45, .aload_n 3, 46, 3, 0, 0, 0, 0),
  (46, .iload_n 2, 47, 2, 0, 0, 0, 0),
  (47, .aload_n 0, 48, 0, 0, 0, 0, 0),
  (48, .getfield 36, 51, 6, 4, 0, 0, 0),
  (51, .getfield 230, 54, 1, 3, 0, 0, 0),
  (54, .iadd, 55, 0, 0, 0, 0, 0),
  (55, .aload_n 3, 56, 3, 0, 0, 0, 0),
  (56, .getfield 119, 59, 0, 3, 0, 0, 0),
  (59, .invokevirtual 213, 62, 7, 3, 0, 0, 0),
  (62, .ifCond .eq 7, 65, 69, 0, 0, 0, 0),
  (65, .iconst 1, 66, 0, 0, 0, (1), 0),
  (66, .goto 4, 69, 70, 0, 0, 0, 0),
  (69, .iconst 0, 70, 0, 0, 0, (0), 0),
  (70, .istore 4, 72, 4, 0, 0, 0, 0),
  (72, .iload 4, 74, 4, 0, 0, 0, 0),
  (74, .ifCond .ne 6, 77, 80, 0, 0, 0, 0),
  (77, .bipush (-3), 79, 0, 0, 0, (-3), 0),
  (79, .ireturn, 80, 0, 0, 0, 0, 0),
  (80, .aload_n 3, 81, 3, 0, 0, 0, 0),
  (81, .aload_n 0, 82, 0, 0, 0, 0, 0),
  (82, .getfield 29, 85, 6, 3, 0, 0, 0),
  (85, .invokevirtual 101, 88, 2, 1, 0, 0, 0),
  (88, .aload_n 3, 89, 3, 0, 0, 0, 0),
  (89, .getfield 119, 92, 0, 3, 0, 0, 0),
  (92, .ireturn, 93, 0, 0, 0, 0, 0)]
def MX6_applyPatch : mI := (6, ⟨"CornerFronts", "applyPatch", "(II)I"⟩, prog_1_method_35_code, 5, (some (.int)), oX6_applyPatch)
def oX7_init : List (Nat × mE) := [(0, .aload_n 0, 1, 0, 0, 0, 0, 0),
  (1, .invokespecial 1, 4, 1001, 0, 0, 0, 0),
  (4, .aload_n 0, 5, 0, 0, 0, 0, 0),
  (5, .bipush 8, 7, 0, 0, 0, (8), 0),
  (7, .newarray .int, 9, 0, 0, 0, 0, 0),
  (9, .putfield 7, 12, 7, 1, 2, 0, 0),
  (12, .aload_n 0, 13, 0, 0, 0, 0, 0),
  (13, .sipush 240, 16, 0, 0, 0, (240), 0),
  (16, .newarray .int, 18, 0, 0, 0, 0, 0),
  (18, .putfield 13, 21, 7, 2, 2, 0, 0),
  (21, .aload_n 0, 22, 0, 0, 0, 0, 0),
  (22, .sipush 240, 25, 0, 0, 0, (240), 0),
  (25, .newarray .int, 27, 0, 0, 0, 0, 0),
  (27, .putfield 16, 30, 7, 3, 2, 0, 0),
  (30, .aload_n 0, 31, 0, 0, 0, 0, 0),
  (31, .bipush 64, 33, 0, 0, 0, (64), 0),
  (33, .newarray .int, 35, 0, 0, 0, 0, 0),
  (35, .putfield 19, 38, 7, 5, 2, 0, 0),
  (38, .aload_n 0, 39, 0, 0, 0, 0, 0),
  (39, .bipush 64, 41, 0, 0, 0, (64), 0),
  (41, .newarray .int, 43, 0, 0, 0, 0, 0),
  (43, .putfield 22, 46, 7, 6, 2, 0, 0),
  (46, .aload_n 0, 47, 0, 0, 0, 0, 0),
  (47, .bipush 120, 49, 0, 0, 0, (120), 0),
  (49, .newarray .int, 51, 0, 0, 0, 0, 0),
  (51, .putfield 25, 54, 7, 7, 2, 0, 0),
  (54, .aload_n 0, 55, 0, 0, 0, 0, 0),
  (55, .iconst 4, 56, 0, 0, 0, (4), 0),
  (56, .newarray .int, 58, 0, 0, 0, 0, 0),
  (58, .dup, 59, 0, 0, 0, 0, 0),
  (59, .iconst 0, 60, 0, 0, 0, (0), 0),
  (60, .bipush (-4), 62, 0, 0, 0, (-4), 0),
  (62, .iastore, 63, 0, 0, 0, 0, 0),
  (63, .dup, 64, 0, 0, 0, 0, 0),
  (64, .iconst 1, 65, 0, 0, 0, (1), 0),
  (65, .bipush (-4), 67, 0, 0, 0, (-4), 0),
  (67, .iastore, 68, 0, 0, 0, 0, 0),
  (68, .dup, 69, 0, 0, 0, 0, 0),
  (69, .iconst 2, 70, 0, 0, 0, (2), 0),
  (70, .bipush (-4), 72, 0, 0, 0, (-4), 0),
  (72, .iastore, 73, 0, 0, 0, 0, 0),
  (73, .dup, 74, 0, 0, 0, 0, 0),
  (74, .iconst 3, 75, 0, 0, 0, (3), 0),
  (75, .bipush (-4), 77, 0, 0, 0, (-4), 0),
  (77, .iastore, 78, 0, 0, 0, 0, 0),
  (78, .putfield 28, 81, 7, 18, 2, 0, 0),
  (81, .aload_n 0, 82, 0, 0, 0, 0, 0),
  (82, .iconst 4, 83, 0, 0, 0, (4), 0),
  (83, .newarray .int, 85, 0, 0, 0, 0, 0),
  (85, .putfield 31, 88, 7, 19, 2, 0, 0),
  (88, .aload_n 0, 89, 0, 0, 0, 0, 0),
  (89, .sipush 248, 92, 0, 0, 0, (248), 0),
  (92, .newarray .int, 94, 0, 0, 0, 0, 0),
  (94, .putfield 34, 97, 7, 20, 2, 0, 0),
  (97, .aload_n 0, 98, 0, 0, 0, 0, 0),
  (98, .sipush 310, 101, 0, 0, 0, (310), 0),
  (101, .newarray .int, 103, 0, 0, 0, 0, 0),
  (103, .putfield 37, 106, 7, 21, 2, 0, 0),
  (106, .aload_n 0, 107, 0, 0, 0, 0, 0),
  (107, .sipush 310, 110, 0, 0, 0, (310), 0),
  (110, .newarray .int, 112, 0, 0, 0, 0, 0),
  (112, .putfield 40, 115, 7, 22, 2, 0, 0),
  (115, .aload_n 0, 116, 0, 0, 0, 0, 0),
  (116, .sipush 310, 119, 0, 0, 0, (310), 0),
  (119, .newarray .int, 121, 0, 0, 0, 0, 0),
  (121, .putfield 43, 124, 7, 23, 2, 0, 0),
  (124, .aload_n 0, 125, 0, 0, 0, 0, 0),
  (125, .bipush 15, 127, 0, 0, 0, (15), 0),
  (127, .newarray .int, 129, 0, 0, 0, 0, 0),
  (129, .putfield 46, 132, 7, 25, 2, 0, 0),
  (132, .aload_n 0, 133, 0, 0, 0, 0, 0),
  (133, .bipush 15, 135, 0, 0, 0, (15), 0),
  (135, .newarray .int, 137, 0, 0, 0, 0, 0),
  (137, .putfield 49, 140, 7, 26, 2, 0, 0),
  (140, .aload_n 0, 141, 0, 0, 0, 0, 0),
  (141, .bipush 15, 143, 0, 0, 0, (15), 0),
  (143, .newarray .int, 145, 0, 0, 0, 0, 0),
  (145, .putfield 52, 148, 7, 27, 2, 0, 0),
  (148, .aload_n 0, 149, 0, 0, 0, 0, 0),
  (149, .bipush 10, 151, 0, 0, 0, (10), 0),
  (151, .newarray .int, 153, 0, 0, 0, 0, 0),
  (153, .putfield 55, 156, 7, 28, 2, 0, 0),
  (156, .aload_n 0, 157, 0, 0, 0, 0, 0),
  (157, .bipush 30, 159, 0, 0, 0, (30), 0),
  (159, .newarray .boolean, 161, 0, 0, 0, 0, 0),
  (161, .putfield 58, 164, 7, 29, 2, 0, 0),
  (164, .return_, 165, 0, 0, 0, 0, 0)]
def MX7_init : mI := (7, ⟨"CornerFrontsModel", "<init>", "()V"⟩, prog_9_method_1_code, 1, none, oX7_init)
def oX7_in : List (Nat × mE) := [(0, .lload_n 0, 1, 0, 0, 0, 0, 0),
  (1, .lload_n 2, 2, 2, 0, 0, 0, 0),
  (2, .lcmp, 3, 0, 0, 0, 0, 0),
  (3, .ifCond .lt 14, 6, 17, 0, 0, 0, 0),
  (6, .lload_n 0, 7, 0, 0, 0, 0, 0),
  (7, .lload 4, 9, 4, 0, 0, 0, 0),
  (9, .lcmp, 10, 0, 0, 0, 0, 0),
  (10, .ifCond .gt 7, 13, 17, 0, 0, 0, 0),
  (13, .iconst 1, 14, 0, 0, 0, (1), 0),
  (14, .goto 4, 17, 18, 0, 0, 0, 0),
  (17, .iconst 0, 18, 0, 0, 0, (0), 0),
  (18, .ireturn, 19, 0, 0, 1, 0, 0)]
def MX7_in : mI := (7, ⟨"CornerFrontsModel", "in", "(JJJ)Z"⟩, prog_9_method_3_code, 6, (some (.boolean)), oX7_in)
def oX7_is : List (Nat × mE) := [(0, .iload_n 1, 1, 1, 0, 0, 0, 0),
  (1, .i2l, 2, 0, 0, 0, 0, 0),
  (2, .lconst 0, 3, 0, 0, 0, 0, 0),
  (3, .aload_n 0, 4, 0, 0, 0, 0, 0),
  (4, .getfield 62, 7, 7, 0, 0, 0, 0),
  (7, .iconst 1, 8, 0, 0, 0, (1), 0),
  (8, .isub, 9, 0, 0, 0, 0, 0),
  (9, .i2l, 10, 0, 0, 0, 0, 0),
  (10, .invokestatic 66, 13, 112, 3, 7, 0, 0),
  (13, .ireturn, 14, 0, 0, 1, 0, 0)]
def MX7_is : mI := (7, ⟨"CornerFrontsModel", "is", "(I)Z"⟩, prog_9_method_4_code, 2, (some (.boolean)), oX7_is)
def oX7_isEvent : List (Nat × mE) := [(0, .aload_n 0, 1, 0, 0, 0, 0, 0),
  (1, .iload_n 1, 2, 1, 0, 0, 0, 0),
  (2, .invokevirtual 70, 5, 113, 1, 7, 0, 0),
  (5, .ifCond .eq 25, 8, 30, 0, 0, 0, 0),
  (8, .iload_n 2, 9, 2, 0, 0, 0, 0),
  (9, .i2l, 10, 0, 0, 0, 0, 0),
  (10, .lconst 0, 11, 0, 0, 0, 0, 0),
  (11, .aload_n 0, 12, 0, 0, 0, 0, 0),
  (12, .getfield 7, 15, 7, 1, 0, 0, 0),
  (15, .iload_n 1, 16, 1, 0, 0, 0, 0),
  (16, .iaload, 17, 0, 0, 0, 0, 0),
  (17, .iconst 1, 18, 0, 0, 0, (1), 0),
  (18, .isub, 19, 0, 0, 0, 0, 0),
  (19, .i2l, 20, 0, 0, 0, 0, 0),
  (20, .invokestatic 66, 23, 112, 3, 7, 0, 0),
  (23, .ifCond .eq 7, 26, 30, 0, 0, 0, 0),
  (26, .iconst 1, 27, 0, 0, 0, (1), 0),
  (27, .goto 4, 30, 31, 0, 0, 0, 0),
  (30, .iconst 0, 31, 0, 0, 0, (0), 0),
  (31, .ireturn, 32, 0, 0, 1, 0, 0)]
def MX7_isEvent : mI := (7, ⟨"CornerFrontsModel", "isEvent", "(II)Z"⟩, prog_9_method_5_code, 3, (some (.boolean)), oX7_isEvent)
def oX7_put : List (Nat × mE) := [(0, .aload_n 0, 1, 0, 0, 0, 0, 0),
  (1, .getfield 19, 4, 7, 5, 0, 0, 0),
  (4, .aload_n 0, 5, 0, 0, 0, 0, 0),
  (5, .getfield 74, 8, 7, 4, 0, 0, 0),
  (8, .iload_n 1, 9, 1, 0, 0, 0, 0),
  (9, .iastore, 10, 0, 0, 0, 0, 0),
  (10, .aload_n 0, 11, 0, 0, 0, 0, 0),
  (11, .getfield 22, 14, 7, 6, 0, 0, 0),
  (14, .aload_n 0, 15, 0, 0, 0, 0, 0),
  (15, .getfield 74, 18, 7, 4, 0, 0, 0),
  (18, .iload_n 2, 19, 2, 0, 0, 0, 0),
  (19, .iastore, 20, 0, 0, 0, 0, 0),
  (20, .aload_n 0, 21, 0, 0, 0, 0, 0),
  (21, .dup, 22, 0, 0, 0, 0, 0),
  (22, .getfield 74, 25, 7, 4, 0, 0, 0),
  (25, .iconst 1, 26, 0, 0, 0, (1), 0),
  (26, .iadd, 27, 0, 0, 0, 0, 0),
  (27, .putfield 74, 30, 7, 4, 0, 0, 0),
  (30, .return_, 31, 0, 0, 0, 0, 0)]
def MX7_put : mI := (7, ⟨"CornerFrontsModel", "put", "(II)V"⟩, prog_9_method_6_code, 3, none, oX7_put)
def oX7_putOf : List (Nat × mE) := [(0, .iload_n 2, 1, 2, 0, 0, 0, 0),
  (1, .istore 4, 3, 4, 0, 0, 0, 0),
  (3, .iload 4, 5, 4, 0, 0, 0, 0),
  (5, .iload_n 3, 6, 3, 0, 0, 0, 0),
  (6, .if_icmp .ge 37, 9, 43, 0, 0, 0, 0),
  (9, .aload_n 0, 10, 0, 0, 0, 0, 0),
  (10, .aload_n 0, 11, 0, 0, 0, 0, 0),
  (11, .getfield 13, 14, 7, 2, 0, 0, 0),
  (14, .bipush 30, 16, 0, 0, 0, (30), 0),
  (16, .iload_n 1, 17, 1, 0, 0, 0, 0),
  (17, .imul, 18, 0, 0, 0, 0, 0),
  (18, .iload 4, 20, 4, 0, 0, 0, 0),
  (20, .iadd, 21, 0, 0, 0, 0, 0),
  (21, .iaload, 22, 0, 0, 0, 0, 0),
  (22, .aload_n 0, 23, 0, 0, 0, 0, 0),
  (23, .getfield 16, 26, 7, 3, 0, 0, 0),
  (26, .bipush 30, 28, 0, 0, 0, (30), 0),
  (28, .iload_n 1, 29, 1, 0, 0, 0, 0),
  (29, .imul, 30, 0, 0, 0, 0, 0),
  (30, .iload 4, 32, 4, 0, 0, 0, 0),
  (32, .iadd, 33, 0, 0, 0, 0, 0),
  (33, .iaload, 34, 0, 0, 0, 0, 0),
  (34, .invokevirtual 77, 37, 115, 2, 7, 0, 0),
  (37, .iinc 4 1, 40, 4, 0, 0, (1), 0),
  (40, .goto (-37), 43, 3, 0, 0, 0, 0),
  (43, .return_, 44, 0, 0, 0, 0, 0)]
def MX7_putOf : mI := (7, ⟨"CornerFrontsModel", "putOf", "(III)V"⟩, prog_9_method_7_code, 5, none, oX7_putOf)
def oX7_store : List (Nat × mE) := [(0, .aload_n 0, 1, 0, 0, 0, 0, 0),
  (1, .getfield 7, 4, 7, 1, 0, 0, 0),
  (4, .iload_n 1, 5, 1, 0, 0, 0, 0),
  (5, .aload_n 0, 6, 0, 0, 0, 0, 0),
  (6, .getfield 74, 9, 7, 4, 0, 0, 0),
  (9, .iastore, 10, 0, 0, 0, 0, 0),
  (10, .iconst 0, 11, 0, 0, 0, (0), 0),
  (11, .istore_n 2, 12, 2, 0, 0, 0, 0),
  (12, .iload_n 2, 13, 2, 0, 0, 0, 0),
  (13, .aload_n 0, 14, 0, 0, 0, 0, 0),
  (14, .getfield 74, 17, 7, 4, 0, 0, 0),
  (17, .if_icmp .ge 43, 20, 60, 0, 0, 0, 0),
  (20, .aload_n 0, 21, 0, 0, 0, 0, 0),
  (21, .getfield 13, 24, 7, 2, 0, 0, 0),
  (24, .bipush 30, 26, 0, 0, 0, (30), 0),
  (26, .iload_n 1, 27, 1, 0, 0, 0, 0),
  (27, .imul, 28, 0, 0, 0, 0, 0),
  (28, .iload_n 2, 29, 2, 0, 0, 0, 0),
  (29, .iadd, 30, 0, 0, 0, 0, 0),
  (30, .aload_n 0, 31, 0, 0, 0, 0, 0),
  (31, .getfield 19, 34, 7, 5, 0, 0, 0),
  (34, .iload_n 2, 35, 2, 0, 0, 0, 0),
  (35, .iaload, 36, 0, 0, 0, 0, 0),
  (36, .iastore, 37, 0, 0, 0, 0, 0),
  (37, .aload_n 0, 38, 0, 0, 0, 0, 0),
  (38, .getfield 16, 41, 7, 3, 0, 0, 0),
  (41, .bipush 30, 43, 0, 0, 0, (30), 0),
  (43, .iload_n 1, 44, 1, 0, 0, 0, 0),
  (44, .imul, 45, 0, 0, 0, 0, 0),
  (45, .iload_n 2, 46, 2, 0, 0, 0, 0),
  (46, .iadd, 47, 0, 0, 0, 0, 0),
  (47, .aload_n 0, 48, 0, 0, 0, 0, 0),
  (48, .getfield 22, 51, 7, 6, 0, 0, 0),
  (51, .iload_n 2, 52, 2, 0, 0, 0, 0),
  (52, .iaload, 53, 0, 0, 0, 0, 0),
  (53, .iastore, 54, 0, 0, 0, 0, 0),
  (54, .iinc 2 1, 57, 2, 0, 0, (1), 0),
  (57, .goto (-45), 60, 12, 0, 0, 0, 0),
  (60, .return_, 61, 0, 0, 0, 0, 0)]
def MX7_store : mI := (7, ⟨"CornerFrontsModel", "store", "(I)V"⟩, prog_9_method_8_code, 3, none, oX7_store)
def oX7_added : List (Nat × mE) := [(0, .aload_n 0, 1, 0, 0, 0, 0, 0),
  (1, .aload_n 0, 2, 0, 0, 0, 0, 0),
  (2, .getfield 62, 5, 7, 0, 0, 0, 0),
  (5, .invokevirtual 81, 8, 117, 1, 7, 0, 0),
  (8, .aload_n 0, 9, 0, 0, 0, 0, 0),
  (9, .dup, 10, 0, 0, 0, 0, 0),
  (10, .getfield 62, 13, 7, 0, 0, 0, 0),
  (13, .iconst 1, 14, 0, 0, 0, (1), 0),
  (14, .iadd, 15, 0, 0, 0, 0, 0),
  (15, .putfield 62, 18, 7, 0, 0, 0, 0),
  (18, .aload_n 0, 19, 0, 0, 0, 0, 0),
  (19, .getfield 62, 22, 7, 0, 0, 0, 0),
  (22, .iconst 1, 23, 0, 0, 0, (1), 0),
  (23, .isub, 24, 0, 0, 0, 0, 0),
  (24, .ireturn, 25, 0, 0, 0, 0, 0)]
def MX7_added : mI := (7, ⟨"CornerFrontsModel", "added", "()I"⟩, prog_9_method_9_code, 1, (some (.int)), oX7_added)
def oX7_adds : List (Nat × mE) := [(0, .iload_n 0, 1, 0, 0, 0, 0, 0),
  (1, .ifCond .ne 7, 4, 8, 0, 0, 0, 0),
  (4, .iconst 2, 5, 0, 0, 0, (2), 0),
  (5, .goto 14, 8, 19, 0, 0, 0, 0),
  (8, .iload_n 0, 9, 0, 0, 0, 0, 0),
  (9, .iconst 2, 10, 0, 0, 0, (2), 0),
  (10, .if_icmp .ne 8, 13, 18, 0, 0, 0, 0),
  (13, .bipush (-2), 15, 0, 0, 0, (-2), 0),
  (15, .goto 4, 18, 19, 0, 0, 0, 0),
  (18, .iconst 0, 19, 0, 0, 0, (0), 0),
  (19, .ireturn, 20, 0, 0, 0, 0, 0)]
def MX7_adds : mI := (7, ⟨"CornerFrontsModel", "adds", "(I)I"⟩, prog_9_method_10_code, 1, (some (.int)), oX7_adds)
def oX7_ahead : List (Nat × mE) := [(0, .iconst 0, 1, 0, 0, 0, (0), 0),
  (1, .istore_n 3, 2, 3, 0, 0, 0, 0),
  (2, .iconst 0, 3, 0, 0, 0, (0), 0),
  (3, .istore 4, 5, 4, 0, 0, 0, 0),
  (5, .iload 4, 7, 4, 0, 0, 0, 0),
  (7, .iload_n 2, 8, 2, 0, 0, 0, 0),
  (8, .if_icmp .ge 27, 11, 35, 0, 0, 0, 0),
  (11, .iload_n 3, 12, 3, 0, 0, 0, 0),
  (12, .aload_n 0, 13, 0, 0, 0, 0, 0),
  (13, .getfield 13, 16, 7, 2, 0, 0, 0),
  (16, .bipush 30, 18, 0, 0, 0, (30), 0),
  (18, .iload_n 1, 19, 1, 0, 0, 0, 0),
  (19, .imul, 20, 0, 0, 0, 0, 0),
  (20, .iload 4, 22, 4, 0, 0, 0, 0),
  (22, .iadd, 23, 0, 0, 0, 0, 0),
  (23, .iaload, 24, 0, 0, 0, 0, 0),
  (24, .invokestatic 85, 27, 119, 1, 7, 0, 0),
  (27, .iadd, 28, 0, 0, 0, 0, 0),
  (28, .istore_n 3, 29, 3, 0, 0, 0, 0),
  (29, .iinc 4 1, 32, 4, 0, 0, (1), 0),
  (32, .goto (-27), 35, 5, 0, 0, 0, 0),
  (35, .iload_n 3, 36, 3, 0, 0, 0, 0),
  (36, .ireturn, 37, 0, 0, 0, 0, 0)]
def MX7_ahead : mI := (7, ⟨"CornerFrontsModel", "ahead", "(II)I"⟩, prog_9_method_11_code, 5, (some (.int)), oX7_ahead)
def oX7_crossesOf : List (Nat × mE) := [(0, .iconst 0, 1, 0, 0, 0, (0), 0),
  (1, .istore_n 2, 2, 2, 0, 0, 0, 0),
  (2, .iconst 0, 3, 0, 0, 0, (0), 0),
  (3, .istore_n 3, 4, 3, 0, 0, 0, 0),
  (4, .iload_n 3, 5, 3, 0, 0, 0, 0),
  (5, .aload_n 0, 6, 0, 0, 0, 0, 0),
  (6, .getfield 7, 9, 7, 1, 0, 0, 0),
  (9, .iload_n 1, 10, 1, 0, 0, 0, 0),
  (10, .iaload, 11, 0, 0, 0, 0, 0),
  (11, .if_icmp .ge 32, 14, 43, 0, 0, 0, 0),
  (14, .iload_n 2, 15, 2, 0, 0, 0, 0),
  (15, .aload_n 0, 16, 0, 0, 0, 0, 0),
  (16, .getfield 13, 19, 7, 2, 0, 0, 0),
  (19, .bipush 30, 21, 0, 0, 0, (30), 0),
  (21, .iload_n 1, 22, 1, 0, 0, 0, 0),
  (22, .imul, 23, 0, 0, 0, 0, 0),
  (23, .iload_n 3, 24, 3, 0, 0, 0, 0),
  (24, .iadd, 25, 0, 0, 0, 0, 0),
  (25, .iaload, 26, 0, 0, 0, 0, 0),
  (26, .iconst 1, 27, 0, 0, 0, (1), 0),
  (27, .if_icmp .ne 7, 30, 34, 0, 0, 0, 0),
  (30, .iconst 1, 31, 0, 0, 0, (1), 0),
  (31, .goto 4, 34, 35, 0, 0, 0, 0),
  (34, .iconst 0, 35, 0, 0, 0, (0), 0),
  (35, .iadd, 36, 0, 0, 0, 0, 0),
  (36, .istore_n 2, 37, 2, 0, 0, 0, 0),
  (37, .iinc 3 1, 40, 3, 0, 0, (1), 0),
  (40, .goto (-36), 43, 4, 0, 0, 0, 0),
  (43, .iload_n 2, 44, 2, 0, 0, 0, 0),
  (44, .ireturn, 45, 0, 0, 0, 0, 0)]
def MX7_crossesOf : mI := (7, ⟨"CornerFrontsModel", "crossesOf", "(I)I"⟩, prog_9_method_12_code, 4, (some (.int)), oX7_crossesOf)
def oX7_feed : List (Nat × mE) := [(0, .aload_n 0, 1, 0, 0, 0, 0, 0),
  (1, .getfield 89, 4, 7, 8, 0, 0, 0),
  (4, .bipush 8, 6, 0, 0, 0, (8), 0),
  (6, .iadd, 7, 0, 0, 0, 0, 0),
  (7, .bipush 120, 9, 0, 0, 0, (120), 0),
  (9, .if_icmp .le 6, 12, 15, 0, 0, 0, 0),
  (12, .bipush (-3), 14, 0, 0, 0, (-3), 0),
  (14, .ireturn, 15, 0, 0, 0, 0, 0),
  (15, .bipush 56, 17, 0, 0, 0, (56), 0),
  (17, .istore_n 3, 18, 3, 0, 0, 0, 0),
  (18, .iload_n 3, 19, 3, 0, 0, 0, 0),
  (19, .ifCond .lt 36, 22, 55, 0, 0, 0, 0),
  (22, .aload_n 0, 23, 0, 0, 0, 0, 0),
  (23, .getfield 25, 26, 7, 7, 0, 0, 0),
  (26, .aload_n 0, 27, 0, 0, 0, 0, 0),
  (27, .getfield 89, 30, 7, 8, 0, 0, 0),
  (30, .lload_n 1, 31, 1, 0, 0, 0, 0),
  (31, .iload_n 3, 32, 3, 0, 0, 0, 0),
  (32, .lshr, 33, 0, 0, 0, 0, 0),
  (33, .l2i, 34, 0, 0, 0, 0, 0),
  (34, .sipush 255, 37, 0, 0, 0, (255), 0),
  (37, .iand, 38, 0, 0, 0, 0, 0),
  (38, .iastore, 39, 0, 0, 0, 0, 0),
  (39, .aload_n 0, 40, 0, 0, 0, 0, 0),
  (40, .dup, 41, 0, 0, 0, 0, 0),
  (41, .getfield 89, 44, 7, 8, 0, 0, 0),
  (44, .iconst 1, 45, 0, 0, 0, (1), 0),
  (45, .iadd, 46, 0, 0, 0, 0, 0),
  (46, .putfield 89, 49, 7, 8, 0, 0, 0),
  (49, .iinc 3 (-8), 52, 3, 0, 0, (-8), 0),
  (52, .goto (-34), 55, 18, 0, 0, 0, 0),
  (55, .aload_n 0, 56, 0, 0, 0, 0, 0),
  (56, .getfield 89, 59, 7, 8, 0, 0, 0),
  (59, .ireturn, 60, 0, 0, 0, 0, 0)]
def MX7_feed : mI := (7, ⟨"CornerFrontsModel", "feed", "(J)I"⟩, prog_9_method_13_code, 4, (some (.int)), oX7_feed)
def oX7_end : List (Nat × mE) := [(0, .iload_n 1, 1, 1, 0, 0, 0, 0),
  (1, .i2l, 2, 0, 0, 0, 0, 0),
  (2, .lconst 0, 3, 0, 0, 0, 0, 0),
  (3, .aload_n 0, 4, 0, 0, 0, 0, 0),
  (4, .getfield 89, 7, 7, 8, 0, 0, 0),
  (7, .i2l, 8, 0, 0, 0, 0, 0),
  (8, .invokestatic 66, 11, 112, 3, 7, 0, 0),
  (11, .ifCond .ne 5, 14, 16, 0, 0, 0, 0),
  (14, .iconst (-1), 15, 0, 0, 0, (-1), 0),
  (15, .ireturn, 16, 0, 0, 0, 0, 0),
  (16, .aload_n 0, 17, 0, 0, 0, 0, 0),
  (17, .getfield 89, 20, 7, 8, 0, 0, 0),
  (20, .istore_n 2, 21, 2, 0, 0, 0, 0),
  (21, .aload_n 0, 22, 0, 0, 0, 0, 0),
  (22, .iload_n 1, 23, 1, 0, 0, 0, 0),
  (23, .putfield 89, 26, 7, 8, 0, 0, 0),
  (26, .iload_n 2, 27, 2, 0, 0, 0, 0),
  (27, .ireturn, 28, 0, 0, 0, 0, 0)]
def MX7_end : mI := (7, ⟨"CornerFrontsModel", "end", "(I)I"⟩, prog_9_method_14_code, 3, (some (.int)), oX7_end)
def oX7_byteAt : List (Nat × mE) := [(0, .iload_n 1, 1, 1, 0, 0, 0, 0),
  (1, .aload_n 0, 2, 0, 0, 0, 0, 0),
  (2, .getfield 89, 5, 7, 8, 0, 0, 0),
  (5, .if_icmp .ge 12, 8, 17, 0, 0, 0, 0),
  (8, .aload_n 0, 9, 0, 0, 0, 0, 0),
  (9, .getfield 25, 12, 7, 7, 0, 0, 0),
  (12, .iload_n 1, 13, 1, 0, 0, 0, 0),
  (13, .iaload, 14, 0, 0, 0, 0, 0),
  (14, .goto 5, 17, 19, 0, 0, 0, 0),
  (17, .bipush (-4), 19, 0, 0, 0, (-4), 0),
  (19, .ireturn, 20, 0, 0, 0, 0, 0)]
def MX7_byteAt : mI := (7, ⟨"CornerFrontsModel", "byteAt", "(I)I"⟩, prog_9_method_15_code, 2, (some (.int)), oX7_byteAt)
def oX7_fails : List (Nat × mE) := [(0, .aload_n 0, 1, 0, 0, 0, 0, 0),
  (1, .getfield 92, 4, 7, 10, 0, 0, 0),
  (4, .ifCond .ne 16, 7, 20, 0, 0, 0, 0),
  (7, .aload_n 0, 8, 0, 0, 0, 0, 0),
  (8, .iload_n 1, 9, 1, 0, 0, 0, 0),
  (9, .putfield 92, 12, 7, 10, 0, 0, 0),
  (12, .aload_n 0, 13, 0, 0, 0, 0, 0),
  (13, .aload_n 0, 14, 0, 0, 0, 0, 0),
  (14, .getfield 95, 17, 7, 13, 0, 0, 0),
  (17, .putfield 98, 20, 7, 11, 0, 0, 0),
  (20, .return_, 21, 0, 0, 0, 0, 0)]
def MX7_fails : mI := (7, ⟨"CornerFrontsModel", "fails", "(I)V"⟩, prog_9_method_16_code, 2, none, oX7_fails)
def oX7_next : List (Nat × mE) := [(0, .aload_n 0, 1, 0, 0, 0, 0, 0),
  (1, .getfield 92, 4, 7, 10, 0, 0, 0),
  (4, .ifCond .le 4, 7, 8, 0, 0, 0, 0),
  (7, .return_, 8, 0, 0, 0, 0, 0),
  (8, .aload_n 0, 9, 0, 0, 0, 0, 0),
  (9, .aload_n 0, 10, 0, 0, 0, 0, 0),
  (10, .getfield 101, 13, 7, 12, 0, 0, 0),
  (13, .invokevirtual 104, 16, 124, 1, 7, 0, 0),
  (16, .bipush 32, 18, 0, 0, 0, (32), 0),
  (18, .if_icmp .ne 16, 21, 34, 0, 0, 0, 0),
  (21, .aload_n 0, 22, 0, 0, 0, 0, 0),
  (22, .dup, 23, 0, 0, 0, 0, 0),
  (23, .getfield 101, 26, 7, 12, 0, 0, 0),
  (26, .iconst 1, 27, 0, 0, 0, (1), 0),
  (27, .iadd, 28, 0, 0, 0, 0, 0),
  (28, .putfield 101, 31, 7, 12, 0, 0, 0),
  (31, .goto (-23), 34, 8, 0, 0, 0, 0),
  (34, .aload_n 0, 35, 0, 0, 0, 0, 0),
  (35, .aload_n 0, 36, 0, 0, 0, 0, 0),
  (36, .getfield 101, 39, 7, 12, 0, 0, 0),
  (39, .putfield 95, 42, 7, 13, 0, 0, 0),
  (42, .aload_n 0, 43, 0, 0, 0, 0, 0),
  (43, .aload_n 0, 44, 0, 0, 0, 0, 0),
  (44, .getfield 101, 47, 7, 12, 0, 0, 0),
  (47, .invokevirtual 104, 50, 124, 1, 7, 0, 0),
  (50, .istore_n 1, 51, 1, 0, 0, 0, 0),
  (51, .iload_n 1, 52, 1, 0, 0, 0, 0),
  (52, .bipush (-4), 54, 0, 0, 0, (-4), 0),
  (54, .if_icmp .ne 11, 57, 65, 0, 0, 0, 0),
  (57, .aload_n 0, 58, 0, 0, 0, 0, 0),
  (58, .iconst 0, 59, 0, 0, 0, (0), 0),
  (59, .putfield 107, 62, 7, 14, 0, 0, 0),
  (62, .goto 191, 65, 253, 0, 0, 0, 0),
  (65, .iload_n 1, 66, 1, 0, 0, 0, 0),
  (66, .bipush 98, 68, 0, 0, 0, (98), 0),
  (68, .if_icmp .eq 15, 71, 83, 0, 0, 0, 0),
  (71, .iload_n 1, 72, 1, 0, 0, 0, 0),
  (72, .bipush 120, 74, 0, 0, 0, (120), 0),
  (74, .if_icmp .eq 9, 77, 83, 0, 0, 0, 0),
  (77, .iload_n 1, 78, 1, 0, 0, 0, 0),
  (78, .bipush 100, 80, 0, 0, 0, (100), 0),
  (80, .if_icmp .ne 46, 83, 126, 0, 0, 0, 0),
  (83, .aload_n 0, 84, 0, 0, 0, 0, 0),
  (84, .iconst 1, 85, 0, 0, 0, (1), 0),
  (85, .putfield 107, 88, 7, 14, 0, 0, 0),
  (88, .aload_n 0, 89, 0, 0, 0, 0, 0),
  (89, .iload_n 1, 90, 1, 0, 0, 0, 0),
  (90, .bipush 98, 92, 0, 0, 0, (98), 0),
  (92, .if_icmp .ne 7, 95, 99, 0, 0, 0, 0),
  (95, .iconst 0, 96, 0, 0, 0, (0), 0),
  (96, .goto 14, 99, 110, 0, 0, 0, 0),
  (99, .iload_n 1, 100, 1, 0, 0, 0, 0),
  (100, .bipush 120, 102, 0, 0, 0, (120), 0),
  (102, .if_icmp .ne 7, 105, 109, 0, 0, 0, 0),
  (105, .iconst 1, 106, 0, 0, 0, (1), 0),
  (106, .goto 4, 109, 110, 0, 0, 0, 0),
  (109, .iconst 2, 110, 0, 0, 0, (2), 0),
  (110, .putfield 110, 113, 7, 15, 0, 0, 0),
  (113, .aload_n 0, 114, 0, 0, 0, 0, 0),
  (114, .dup, 115, 0, 0, 0, 0, 0),
  (115, .getfield 101, 118, 7, 12, 0, 0, 0),
  (118, .iconst 1, 119, 0, 0, 0, (1), 0),
  (119, .iadd, 120, 0, 0, 0, 0, 0),
  (120, .putfield 101, 123, 7, 12, 0, 0, 0),
  (123, .goto 130, 126, 253, 0, 0, 0, 0),
  (126, .iload_n 1, 127, 1, 0, 0, 0, 0),
  (127, .i2l, 128, 0, 0, 0, 0, 0),
  (128, .ldc2_w 113, 131, 0, 0, 0, 0, (48)),
  (131, .ldc2_w 115, 134, 0, 0, 0, 0, (57)),
  (134, .invokestatic 66, 137, 112, 3, 7, 0, 0),
  (137, .ifCond .eq 111, 140, 248, 0, 0, 0, 0),
  (140, .aload_n 0, 141, 0, 0, 0, 0, 0),
  (141, .iconst 2, 142, 0, 0, 0, (2), 0),
  (142, .putfield 107, 145, 7, 14, 0, 0, 0),
  (145, .aload_n 0, 146, 0, 0, 0, 0, 0),
  (146, .iconst 0, 147, 0, 0, 0, (0), 0),
  (147, .putfield 110, 150, 7, 15, 0, 0, 0),
  (150, .aload_n 0, 151, 0, 0, 0, 0, 0),
  (151, .aload_n 0, 152, 0, 0, 0, 0, 0),
  (152, .getfield 101, 155, 7, 12, 0, 0, 0),
  (155, .invokevirtual 104, 158, 124, 1, 7, 0, 0),
  (158, .i2l, 159, 0, 0, 0, 0, 0),
  (159, .ldc2_w 113, 162, 0, 0, 0, 0, (48)),
  (162, .ldc2_w 115, 165, 0, 0, 0, 0, (57)),
  (165, .invokestatic 66, 168, 112, 3, 7, 0, 0),
  (168, .ifCond .eq 59, 171, 227, 0, 0, 0, 0),
  (171, .aload_n 0, 172, 0, 0, 0, 0, 0),
  (172, .aload_n 0, 173, 0, 0, 0, 0, 0),
  (173, .getfield 101, 176, 7, 12, 0, 0, 0),
  (176, .aload_n 0, 177, 0, 0, 0, 0, 0),
  (177, .getfield 95, 180, 7, 13, 0, 0, 0),
  (180, .isub, 181, 0, 0, 0, 0, 0),
  (181, .iconst 2, 182, 0, 0, 0, (2), 0),
  (182, .if_icmp .ge 25, 185, 207, 0, 0, 0, 0),
  (185, .bipush 10, 187, 0, 0, 0, (10), 0),
  (187, .aload_n 0, 188, 0, 0, 0, 0, 0),
  (188, .getfield 110, 191, 7, 15, 0, 0, 0),
  (191, .imul, 192, 0, 0, 0, 0, 0),
  (192, .aload_n 0, 193, 0, 0, 0, 0, 0),
  (193, .aload_n 0, 194, 0, 0, 0, 0, 0),
  (194, .getfield 101, 197, 7, 12, 0, 0, 0),
  (197, .invokevirtual 104, 200, 124, 1, 7, 0, 0),
  (200, .iadd, 201, 0, 0, 0, 0, 0),
  (201, .bipush 48, 203, 0, 0, 0, (48), 0),
  (203, .isub, 204, 0, 0, 0, 0, 0),
  (204, .goto 7, 207, 211, 0, 0, 0, 0),
  (207, .aload_n 0, 208, 0, 0, 0, 0, 0),
  (208, .getfield 110, 211, 7, 15, 0, 0, 0),
  (211, .putfield 110, 214, 7, 15, 0, 0, 0),
  (214, .aload_n 0, 215, 0, 0, 0, 0, 0),
  (215, .dup, 216, 0, 0, 0, 0, 0),
  (216, .getfield 101, 219, 7, 12, 0, 0, 0),
  (219, .iconst 1, 220, 0, 0, 0, (1), 0),
  (220, .iadd, 221, 0, 0, 0, 0, 0),
  (221, .putfield 101, 224, 7, 12, 0, 0, 0),
  (224, .goto (-74), 227, 150, 0, 0, 0, 0),
  (227, .aload_n 0, 228, 0, 0, 0, 0, 0),
  (228, .getfield 101, 231, 7, 12, 0, 0, 0),
  (231, .aload_n 0, 232, 0, 0, 0, 0, 0),
  (232, .getfield 95, 235, 7, 13, 0, 0, 0),
  (235, .isub, 236, 0, 0, 0, 0, 0),
  (236, .iconst 2, 237, 0, 0, 0, (2), 0),
  (237, .if_icmp .le 16, 240, 253, 0, 0, 0, 0),
  (240, .aload_n 0, 241, 0, 0, 0, 0, 0),
  (241, .iconst 1, 242, 0, 0, 0, (1), 0),
  (242, .invokevirtual 117, 245, 125, 1, 7, 0, 0),
  (245, .goto 8, 248, 253, 0, 0, 0, 0),
  (248, .aload_n 0, 249, 0, 0, 0, 0, 0),
  (249, .iconst 1, 250, 0, 0, 0, (1), 0),
  (250, .invokevirtual 117, 253, 125, 1, 7, 0, 0),
  (253, .return_, 254, 0, 0, 0, 0, 0)]
def MX7_next : mI := (7, ⟨"CornerFrontsModel", "next", "()V"⟩, prog_9_method_17_code, 2, none, oX7_next)
def oX7_isTooMuch : List (Nat × mE) := [(0, .aload_n 0, 1, 0, 0, 0, 0, 0),
  (1, .getfield 74, 4, 7, 4, 0, 0, 0),
  (4, .bipush 30, 6, 0, 0, 0, (30), 0),
  (6, .if_icmp .eq 32, 9, 38, 0, 0, 0, 0),
  (9, .iload_n 1, 10, 1, 0, 0, 0, 0),
  (10, .iconst 1, 11, 0, 0, 0, (1), 0),
  (11, .if_icmp .ne 12, 14, 23, 0, 0, 0, 0),
  (14, .aload_n 0, 15, 0, 0, 0, 0, 0),
  (15, .getfield 120, 18, 7, 17, 0, 0, 0),
  (18, .bipush 12, 20, 0, 0, 0, (12), 0),
  (20, .if_icmp .eq 18, 23, 38, 0, 0, 0, 0),
  (23, .iload_n 1, 24, 1, 0, 0, 0, 0),
  (24, .ifCond .ne 18, 27, 42, 0, 0, 0, 0),
  (27, .aload_n 0, 28, 0, 0, 0, 0, 0),
  (28, .getfield 123, 31, 7, 16, 0, 0, 0),
  (31, .iconst 2, 32, 0, 0, 0, (2), 0),
  (32, .iadd, 33, 0, 0, 0, 0, 0),
  (33, .bipush 10, 35, 0, 0, 0, (10), 0),
  (35, .if_icmp .le 7, 38, 42, 0, 0, 0, 0),
  (38, .iconst 1, 39, 0, 0, 0, (1), 0),
  (39, .goto 4, 42, 43, 0, 0, 0, 0),
  (42, .iconst 0, 43, 0, 0, 0, (0), 0),
  (43, .ireturn, 44, 0, 0, 1, 0, 0)]
def MX7_isTooMuch : mI := (7, ⟨"CornerFrontsModel", "isTooMuch", "(I)Z"⟩, prog_9_method_18_code, 2, (some (.boolean)), oX7_isTooMuch)
def oX7_hasPlace : List (Nat × mE) := [(0, .iload_n 2, 1, 2, 0, 0, 0, 0),
  (1, .i2l, 2, 0, 0, 0, 0, 0),
  (2, .lconst 0, 3, 0, 0, 0, 0, 0),
  (3, .iload_n 1, 4, 1, 0, 0, 0, 0),
  (4, .ifCond .ne 11, 7, 15, 0, 0, 0, 0),
  (7, .aload_n 0, 8, 0, 0, 0, 0, 0),
  (8, .getfield 123, 11, 7, 16, 0, 0, 0),
  (11, .i2l, 12, 0, 0, 0, 0, 0),
  (12, .goto 10, 15, 22, 0, 0, 0, 0),
  (15, .aload_n 0, 16, 0, 0, 0, 0, 0),
  (16, .getfield 123, 19, 7, 16, 0, 0, 0),
  (19, .iconst 2, 20, 0, 0, 0, (2), 0),
  (20, .isub, 21, 0, 0, 0, 0, 0),
  (21, .i2l, 22, 0, 0, 0, 0, 0),
  (22, .invokestatic 66, 25, 112, 3, 7, 0, 0),
  (25, .ireturn, 26, 0, 0, 1, 0, 0)]
def MX7_hasPlace : mI := (7, ⟨"CornerFrontsModel", "hasPlace", "(II)Z"⟩, prog_9_method_19_code, 3, (some (.boolean)), oX7_hasPlace)
def oX7_comes : List (Nat × mE) := [(0, .aload_n 0, 1, 0, 0, 0, 0, 0),
  (1, .iload_n 1, 2, 1, 0, 0, 0, 0),
  (2, .iload_n 2, 3, 2, 0, 0, 0, 0),
  (3, .invokevirtual 77, 6, 115, 2, 7, 0, 0),
  (6, .aload_n 0, 7, 0, 0, 0, 0, 0),
  (7, .dup, 8, 0, 0, 0, 0, 0),
  (8, .getfield 123, 11, 7, 16, 0, 0, 0),
  (11, .iload_n 1, 12, 1, 0, 0, 0, 0),
  (12, .invokestatic 85, 15, 119, 1, 7, 0, 0),
  (15, .iadd, 16, 0, 0, 0, 0, 0),
  (16, .putfield 123, 19, 7, 16, 0, 0, 0),
  (19, .aload_n 0, 20, 0, 0, 0, 0, 0),
  (20, .dup, 21, 0, 0, 0, 0, 0),
  (21, .getfield 120, 24, 7, 17, 0, 0, 0),
  (24, .iload_n 1, 25, 1, 0, 0, 0, 0),
  (25, .iconst 1, 26, 0, 0, 0, (1), 0),
  (26, .if_icmp .ne 7, 29, 33, 0, 0, 0, 0),
  (29, .iconst 1, 30, 0, 0, 0, (1), 0),
  (30, .goto 4, 33, 34, 0, 0, 0, 0),
  (33, .iconst 0, 34, 0, 0, 0, (0), 0),
  (34, .iadd, 35, 0, 0, 0, 0, 0),
  (35, .putfield 120, 38, 7, 17, 0, 0, 0),
  (38, .return_, 39, 0, 0, 0, 0, 0)]
def MX7_comes : mI := (7, ⟨"CornerFrontsModel", "comes", "(II)V"⟩, prog_9_method_20_code, 3, none, oX7_comes)
def oX7_begin : List (Nat × mE) := [(0, .aload_n 0, 1, 0, 0, 0, 0, 0),
  (1, .iconst 0, 2, 0, 0, 0, (0), 0),
  (2, .putfield 74, 5, 7, 4, 0, 0, 0),
  (5, .aload_n 0, 6, 0, 0, 0, 0, 0),
  (6, .iconst 0, 7, 0, 0, 0, (0), 0),
  (7, .putfield 123, 10, 7, 16, 0, 0, 0),
  (10, .aload_n 0, 11, 0, 0, 0, 0, 0),
  (11, .iconst 0, 12, 0, 0, 0, (0), 0),
  (12, .putfield 120, 15, 7, 17, 0, 0, 0),
  (15, .return_, 16, 0, 0, 0, 0, 0)]
def MX7_begin : mI := (7, ⟨"CornerFrontsModel", "begin", "()V"⟩, prog_9_method_21_code, 1, none, oX7_begin)
def oX7_front : List (Nat × mE) := [(0, .aload_n 0, 1, 0, 0, 0, 0, 0),
  (1, .getfield 62, 4, 7, 0, 0, 0, 0),
  (4, .bipush 8, 6, 0, 0, 0, (8), 0),
  (6, .if_icmp .ne 6, 9, 12, 0, 0, 0, 0),
  (9, .bipush (-3), 11, 0, 0, 0, (-3), 0),
  (11, .ireturn, 12, 0, 0, 0, 0, 0),
  (12, .aload_n 0, 13, 0, 0, 0, 0, 0),
  (13, .iconst 0, 14, 0, 0, 0, (0), 0),
  (14, .putfield 92, 17, 7, 10, 0, 0, 0),
  (17, .aload_n 0, 18, 0, 0, 0, 0, 0),
  (18, .iconst 0, 19, 0, 0, 0, (0), 0),
  (19, .putfield 101, 22, 7, 12, 0, 0, 0),
  (22, .aload_n 0, 23, 0, 0, 0, 0, 0),
  (23, .invokevirtual 126, 26, 130, 0, 7, 0, 0),
  (26, .aload_n 0, 27, 0, 0, 0, 0, 0),
  (27, .invokevirtual 129, 30, 126, 0, 7, 0, 0),
  (30, .aload_n 0, 31, 0, 0, 0, 0, 0),
  (31, .getfield 92, 34, 7, 10, 0, 0, 0),
  (34, .ifCond .ne 118, 37, 152, 0, 0, 0, 0),
  (37, .aload_n 0, 38, 0, 0, 0, 0, 0),
  (38, .getfield 107, 41, 7, 14, 0, 0, 0),
  (41, .ifCond .ne 10, 44, 51, 0, 0, 0, 0),
  (44, .aload_n 0, 45, 0, 0, 0, 0, 0),
  (45, .getfield 74, 48, 7, 4, 0, 0, 0),
  (48, .ifCond .ne 104, 51, 152, 0, 0, 0, 0),
  (51, .aload_n 0, 52, 0, 0, 0, 0, 0),
  (52, .getfield 110, 55, 7, 15, 0, 0, 0),
  (55, .istore_n 1, 56, 1, 0, 0, 0, 0),
  (56, .aload_n 0, 57, 0, 0, 0, 0, 0),
  (57, .getfield 107, 60, 7, 14, 0, 0, 0),
  (60, .iconst 1, 61, 0, 0, 0, (1), 0),
  (61, .if_icmp .eq 11, 64, 72, 0, 0, 0, 0),
  (64, .aload_n 0, 65, 0, 0, 0, 0, 0),
  (65, .iconst 2, 66, 0, 0, 0, (2), 0),
  (66, .invokevirtual 117, 69, 125, 1, 7, 0, 0),
  (69, .goto 16, 72, 85, 0, 0, 0, 0),
  (72, .aload_n 0, 73, 0, 0, 0, 0, 0),
  (73, .iload_n 1, 74, 1, 0, 0, 0, 0),
  (74, .invokevirtual 132, 77, 127, 1, 7, 0, 0),
  (77, .ifCond .eq 8, 80, 85, 0, 0, 0, 0),
  (80, .aload_n 0, 81, 0, 0, 0, 0, 0),
  (81, .iconst 4, 82, 0, 0, 0, (4), 0),
  (82, .invokevirtual 117, 85, 125, 1, 7, 0, 0),
  (85, .aload_n 0, 86, 0, 0, 0, 0, 0),
  (86, .invokevirtual 129, 89, 126, 0, 7, 0, 0),
  (89, .aload_n 0, 90, 0, 0, 0, 0, 0),
  (90, .getfield 92, 93, 7, 10, 0, 0, 0),
  (93, .ifCond .ne 36, 96, 129, 0, 0, 0, 0),
  (96, .aload_n 0, 97, 0, 0, 0, 0, 0),
  (97, .getfield 107, 100, 7, 14, 0, 0, 0),
  (100, .iconst 2, 101, 0, 0, 0, (2), 0),
  (101, .if_icmp .eq 11, 104, 112, 0, 0, 0, 0),
  (104, .aload_n 0, 105, 0, 0, 0, 0, 0),
  (105, .iconst 2, 106, 0, 0, 0, (2), 0),
  (106, .invokevirtual 117, 109, 125, 1, 7, 0, 0),
  (109, .goto 20, 112, 129, 0, 0, 0, 0),
  (112, .aload_n 0, 113, 0, 0, 0, 0, 0),
  (113, .iload_n 1, 114, 1, 0, 0, 0, 0),
  (114, .aload_n 0, 115, 0, 0, 0, 0, 0),
  (115, .getfield 110, 118, 7, 15, 0, 0, 0),
  (118, .invokevirtual 135, 121, 128, 2, 7, 0, 0),
  (121, .ifCond .ne 8, 124, 129, 0, 0, 0, 0),
  (124, .aload_n 0, 125, 0, 0, 0, 0, 0),
  (125, .iconst 3, 126, 0, 0, 0, (3), 0),
  (126, .invokevirtual 117, 129, 125, 1, 7, 0, 0),
  (129, .aload_n 0, 130, 0, 0, 0, 0, 0),
  (130, .getfield 92, 133, 7, 10, 0, 0, 0),
  (133, .ifCond .ne 12, 136, 145, 0, 0, 0, 0),
  (136, .aload_n 0, 137, 0, 0, 0, 0, 0),
  (137, .iload_n 1, 138, 1, 0, 0, 0, 0),
  (138, .aload_n 0, 139, 0, 0, 0, 0, 0),
  (139, .getfield 110, 142, 7, 15, 0, 0, 0),
  (142, .invokevirtual 139, 145, 129, 2, 7, 0, 0),
  (145, .aload_n 0, 146, 0, 0, 0, 0, 0),
  (146, .invokevirtual 129, 149, 126, 0, 7, 0, 0),
  (149, .goto (-119), 152, 30, 0, 0, 0, 0),
  (152, .aload_n 0, 153, 0, 0, 0, 0, 0),
  (153, .getfield 92, 156, 7, 10, 0, 0, 0),
  (156, .ifCond .ne 15, 159, 171, 0, 0, 0, 0),
  (159, .aload_n 0, 160, 0, 0, 0, 0, 0),
  (160, .getfield 123, 163, 7, 16, 0, 0, 0),
  (163, .ifCond .le 8, 166, 171, 0, 0, 0, 0),
  (166, .aload_n 0, 167, 0, 0, 0, 0, 0),
  (167, .iconst 2, 168, 0, 0, 0, (2), 0),
  (168, .invokevirtual 117, 171, 125, 1, 7, 0, 0),
  (171, .aload_n 0, 172, 0, 0, 0, 0, 0),
  (172, .iconst 0, 173, 0, 0, 0, (0), 0),
  (173, .putfield 89, 176, 7, 8, 0, 0, 0),
  (176, .aload_n 0, 177, 0, 0, 0, 0, 0),
  (177, .aload_n 0, 178, 0, 0, 0, 0, 0),
  (178, .getfield 92, 181, 7, 10, 0, 0, 0),
  (181, .putfield 142, 184, 7, 9, 0, 0, 0),
  (184, .aload_n 0, 185, 0, 0, 0, 0, 0),
  (185, .getfield 92, 188, 7, 10, 0, 0, 0),
  (188, .ifCond .le 13, 191, 201, 0, 0, 0, 0),
  (191, .bipush (-10), 193, 0, 0, 0, (-10), 0),
  (193, .aload_n 0, 194, 0, 0, 0, 0, 0),
  (194, .getfield 98, 197, 7, 11, 0, 0, 0),
  (197, .isub, 198, 0, 0, 0, 0, 0),
  (198, .goto 7, 201, 205, 0, 0, 0, 0),
  (201, .aload_n 0, 202, 0, 0, 0, 0, 0),
  (202, .invokevirtual 145, 205, 118, 0, 7, 0, 0),
  (205, .ireturn, 206, 0, 0, 0, 0, 0)]
def MX7_front : mI := (7, ⟨"CornerFrontsModel", "front", "()I"⟩, prog_9_method_22_code, 2, (some (.int)), oX7_front)
def oX7_fault : List (Nat × mE) := [(0, .aload_n 0, 1, 0, 0, 0, 0, 0),
  (1, .getfield 142, 4, 7, 9, 0, 0, 0),
  (4, .ireturn, 5, 0, 0, 0, 0, 0)]
def MX7_fault : mI := (7, ⟨"CornerFrontsModel", "fault", "()I"⟩, prog_9_method_23_code, 1, (some (.int)), oX7_fault)
def oX7_sheet : List (Nat × mE) := [(0, .iload_n 1, 1, 1, 0, 0, 0, 0),
  (1, .i2l, 2, 0, 0, 0, 0, 0),
  (2, .lconst 0, 3, 0, 0, 0, 0, 0),
  (3, .ldc2_w 149, 6, 0, 0, 0, 0, (3)),
  (6, .invokestatic 66, 9, 112, 3, 7, 0, 0),
  (9, .ifCond .eq 21, 12, 30, 0, 0, 0, 0),
  (12, .iload_n 2, 13, 2, 0, 0, 0, 0),
  (13, .i2l, 14, 0, 0, 0, 0, 0),
  (14, .lconst 0, 15, 0, 0, 0, 0, 0),
  (15, .ldc2_w 151, 18, 0, 0, 0, 0, (2)),
  (18, .invokestatic 66, 21, 112, 3, 7, 0, 0),
  (21, .ifCond .eq 9, 24, 30, 0, 0, 0, 0),
  (24, .iload_n 3, 25, 3, 0, 0, 0, 0),
  (25, .bipush 62, 27, 0, 0, 0, (62), 0),
  (27, .if_icmp .le 5, 30, 32, 0, 0, 0, 0),
  (30, .iconst (-1), 31, 0, 0, 0, (-1), 0),
  (31, .ireturn, 32, 0, 0, 0, 0, 0),
  (32, .iload_n 3, 33, 3, 0, 0, 0, 0),
  (33, .ifCond .ge 6, 36, 39, 0, 0, 0, 0),
  (36, .bipush (-14), 38, 0, 0, 0, (-14), 0),
  (38, .ireturn, 39, 0, 0, 0, 0, 0),
  (39, .aload_n 0, 40, 0, 0, 0, 0, 0),
  (40, .getfield 28, 43, 7, 18, 0, 0, 0),
  (43, .iload_n 1, 44, 1, 0, 0, 0, 0),
  (44, .iload_n 2, 45, 2, 0, 0, 0, 0),
  (45, .iastore, 46, 0, 0, 0, 0, 0),
  (46, .aload_n 0, 47, 0, 0, 0, 0, 0),
  (47, .getfield 31, 50, 7, 19, 0, 0, 0),
  (50, .iload_n 1, 51, 1, 0, 0, 0, 0),
  (51, .iload_n 3, 52, 3, 0, 0, 0, 0),
  (52, .iastore, 53, 0, 0, 0, 0, 0),
  (53, .iconst 0, 54, 0, 0, 0, (0), 0),
  (54, .istore 4, 56, 4, 0, 0, 0, 0),
  (56, .iload 4, 58, 4, 0, 0, 0, 0),
  (58, .bipush 62, 60, 0, 0, 0, (62), 0),
  (60, .if_icmp .ge 22, 63, 82, 0, 0, 0, 0),
  (63, .aload_n 0, 64, 0, 0, 0, 0, 0),
  (64, .getfield 34, 67, 7, 20, 0, 0, 0),
  (67, .bipush 62, 69, 0, 0, 0, (62), 0),
  (69, .iload_n 1, 70, 1, 0, 0, 0, 0),
  (70, .imul, 71, 0, 0, 0, 0, 0),
  (71, .iload 4, 73, 4, 0, 0, 0, 0),
  (73, .iadd, 74, 0, 0, 0, 0, 0),
  (74, .iconst 0, 75, 0, 0, 0, (0), 0),
  (75, .iastore, 76, 0, 0, 0, 0, 0),
  (76, .iinc 4 1, 79, 4, 0, 0, (1), 0),
  (79, .goto (-23), 82, 56, 0, 0, 0, 0),
  (82, .iconst 1, 83, 0, 0, 0, (1), 0),
  (83, .ireturn, 84, 0, 0, 0, 0, 0)]
def MX7_sheet : mI := (7, ⟨"CornerFrontsModel", "sheet", "(III)I"⟩, prog_9_method_24_code, 5, (some (.int)), oX7_sheet)
def oX7_lay : List (Nat × mE) := [(0, .iload_n 1, 1, 1, 0, 0, 0, 0),
  (1, .i2l, 2, 0, 0, 0, 0, 0),
  (2, .lconst 0, 3, 0, 0, 0, 0, 0),
  (3, .ldc2_w 149, 6, 0, 0, 0, 0, (3)),
  (6, .invokestatic 66, 9, 112, 3, 7, 0, 0),
  (9, .ifCond .ne 5, 12, 14, 0, 0, 0, 0),
  (12, .iconst (-1), 13, 0, 0, 0, (-1), 0),
  (13, .ireturn, 14, 0, 0, 0, 0, 0),
  (14, .aload_n 0, 15, 0, 0, 0, 0, 0),
  (15, .getfield 28, 18, 7, 18, 0, 0, 0),
  (18, .iload_n 1, 19, 1, 0, 0, 0, 0),
  (19, .iaload, 20, 0, 0, 0, 0, 0),
  (20, .bipush (-4), 22, 0, 0, 0, (-4), 0),
  (22, .if_icmp .ne 6, 25, 28, 0, 0, 0, 0),
  (25, .bipush (-11), 27, 0, 0, 0, (-11), 0),
  (27, .ireturn, 28, 0, 0, 0, 0, 0),
  (28, .iload_n 2, 29, 2, 0, 0, 0, 0),
  (29, .i2l, 30, 0, 0, 0, 0, 0),
  (30, .lconst 0, 31, 0, 0, 0, 0, 0),
  (31, .aload_n 0, 32, 0, 0, 0, 0, 0),
  (32, .getfield 31, 35, 7, 19, 0, 0, 0),
  (35, .iload_n 1, 36, 1, 0, 0, 0, 0),
  (36, .iaload, 37, 0, 0, 0, 0, 0),
  (37, .iconst 1, 38, 0, 0, 0, (1), 0),
  (38, .isub, 39, 0, 0, 0, 0, 0),
  (39, .i2l, 40, 0, 0, 0, 0, 0),
  (40, .invokestatic 66, 43, 112, 3, 7, 0, 0),
  (43, .ifCond .ne 6, 46, 49, 0, 0, 0, 0),
  (46, .bipush (-12), 48, 0, 0, 0, (-12), 0),
  (48, .ireturn, 49, 0, 0, 0, 0, 0),
  (49, .aload_n 0, 50, 0, 0, 0, 0, 0),
  (50, .getfield 34, 53, 7, 20, 0, 0, 0),
  (53, .bipush 62, 55, 0, 0, 0, (62), 0),
  (55, .iload_n 1, 56, 1, 0, 0, 0, 0),
  (56, .imul, 57, 0, 0, 0, 0, 0),
  (57, .iload_n 2, 58, 2, 0, 0, 0, 0),
  (58, .iadd, 59, 0, 0, 0, 0, 0),
  (59, .aload_n 0, 60, 0, 0, 0, 0, 0),
  (60, .getfield 28, 63, 7, 18, 0, 0, 0),
  (63, .iload_n 1, 64, 1, 0, 0, 0, 0),
  (64, .iaload, 65, 0, 0, 0, 0, 0),
  (65, .ifCond .ne 13, 68, 78, 0, 0, 0, 0),
  (68, .iload_n 3, 69, 3, 0, 0, 0, 0),
  (69, .bipush 24, 71, 0, 0, 0, (24), 0),
  (71, .ishl, 72, 0, 0, 0, 0, 0),
  (72, .bipush 24, 74, 0, 0, 0, (24), 0),
  (74, .ishr, 75, 0, 0, 0, 0, 0),
  (75, .goto 24, 78, 99, 0, 0, 0, 0),
  (78, .aload_n 0, 79, 0, 0, 0, 0, 0),
  (79, .getfield 28, 82, 7, 18, 0, 0, 0),
  (82, .iload_n 1, 83, 1, 0, 0, 0, 0),
  (83, .iaload, 84, 0, 0, 0, 0, 0),
  (84, .iconst 1, 85, 0, 0, 0, (1), 0),
  (85, .if_icmp .ne 13, 88, 98, 0, 0, 0, 0),
  (88, .iload_n 3, 89, 3, 0, 0, 0, 0),
  (89, .bipush 16, 91, 0, 0, 0, (16), 0),
  (91, .ishl, 92, 0, 0, 0, 0, 0),
  (92, .bipush 16, 94, 0, 0, 0, (16), 0),
  (94, .ishr, 95, 0, 0, 0, 0, 0),
  (95, .goto 4, 98, 99, 0, 0, 0, 0),
  (98, .iload_n 3, 99, 3, 0, 0, 0, 0),
  (99, .iastore, 100, 0, 0, 0, 0, 0),
  (100, .iconst 1, 101, 0, 0, 0, (1), 0),
  (101, .ireturn, 102, 0, 0, 0, 0, 0)]
def MX7_lay : mI := (7, ⟨"CornerFrontsModel", "lay", "(III)I"⟩, prog_9_method_25_code, 4, (some (.int)), oX7_lay)
def oX7_draw : List (Nat × mE) := [(0, .iload_n 1, 1, 1, 0, 0, 0, 0),
  (1, .i2l, 2, 0, 0, 0, 0, 0),
  (2, .lconst 0, 3, 0, 0, 0, 0, 0),
  (3, .ldc2_w 149, 6, 0, 0, 0, 0, (3)),
  (6, .invokestatic 66, 9, 112, 3, 7, 0, 0),
  (9, .ifCond .eq 28, 12, 37, 0, 0, 0, 0),
  (12, .iload_n 2, 13, 2, 0, 0, 0, 0),
  (13, .i2l, 14, 0, 0, 0, 0, 0),
  (14, .lconst 0, 15, 0, 0, 0, 0, 0),
  (15, .ldc2_w 151, 18, 0, 0, 0, 0, (2)),
  (18, .invokestatic 66, 21, 112, 3, 7, 0, 0),
  (21, .ifCond .eq 16, 24, 37, 0, 0, 0, 0),
  (24, .iload 4, 26, 4, 0, 0, 0, 0),
  (26, .i2l, 27, 0, 0, 0, 0, 0),
  (27, .lconst 1, 28, 0, 0, 0, 0, 1),
  (28, .ldc2_w 153, 31, 0, 0, 0, 0, (30)),
  (31, .invokestatic 66, 34, 112, 3, 7, 0, 0),
  (34, .ifCond .ne 5, 37, 39, 0, 0, 0, 0),
  (37, .iconst (-1), 38, 0, 0, 0, (-1), 0),
  (38, .ireturn, 39, 0, 0, 0, 0, 0),
  (39, .aload_n 0, 40, 0, 0, 0, 0, 0),
  (40, .getfield 28, 43, 7, 18, 0, 0, 0),
  (43, .iload_n 1, 44, 1, 0, 0, 0, 0),
  (44, .iaload, 45, 0, 0, 0, 0, 0),
  (45, .iload_n 2, 46, 2, 0, 0, 0, 0),
  (46, .if_icmp .eq 22, 49, 68, 0, 0, 0, 0),
  (49, .aload_n 0, 50, 0, 0, 0, 0, 0),
  (50, .getfield 28, 53, 7, 18, 0, 0, 0),
  (53, .iload_n 1, 54, 1, 0, 0, 0, 0),
  (54, .iaload, 55, 0, 0, 0, 0, 0),
  (55, .bipush (-4), 57, 0, 0, 0, (-4), 0),
  (57, .if_icmp .ne 8, 60, 65, 0, 0, 0, 0),
  (60, .bipush (-11), 62, 0, 0, 0, (-11), 0),
  (62, .goto 5, 65, 67, 0, 0, 0, 0),
  (65, .bipush (-13), 67, 0, 0, 0, (-13), 0),
  (67, .ireturn, 68, 0, 0, 0, 0, 0),
  (68, .aload_n 0, 69, 0, 0, 0, 0, 0),
  (69, .invokevirtual 126, 72, 130, 0, 7, 0, 0),
  (72, .iconst 0, 73, 0, 0, 0, (0), 0),
  (73, .istore 5, 75, 5, 0, 0, 0, 0),
  (75, .iload 5, 77, 5, 0, 0, 0, 0),
  (77, .iload 4, 79, 4, 0, 0, 0, 0),
  (79, .if_icmp .ge 131, 82, 210, 0, 0, 0, 0),
  (82, .iload_n 3, 83, 3, 0, 0, 0, 0),
  (83, .i2l, 84, 0, 0, 0, 0, 0),
  (84, .iconst 2, 85, 0, 0, 0, (2), 0),
  (85, .iload 5, 87, 5, 0, 0, 0, 0),
  (87, .imul, 88, 0, 0, 0, 0, 0),
  (88, .i2l, 89, 0, 0, 0, 0, 0),
  (89, .ladd, 90, 0, 0, 0, 0, 0),
  (90, .lstore 6, 92, 6, 0, 0, 0, 0),
  (92, .lload 6, 94, 6, 0, 0, 0, 0),
  (94, .lconst 0, 95, 0, 0, 0, 0, 0),
  (95, .aload_n 0, 96, 0, 0, 0, 0, 0),
  (96, .getfield 31, 99, 7, 19, 0, 0, 0),
  (99, .iload_n 1, 100, 1, 0, 0, 0, 0),
  (100, .iaload, 101, 0, 0, 0, 0, 0),
  (101, .iconst 2, 102, 0, 0, 0, (2), 0),
  (102, .isub, 103, 0, 0, 0, 0, 0),
  (103, .i2l, 104, 0, 0, 0, 0, 0),
  (104, .invokestatic 66, 107, 112, 3, 7, 0, 0),
  (107, .ifCond .ne 6, 110, 113, 0, 0, 0, 0),
  (110, .bipush (-12), 112, 0, 0, 0, (-12), 0),
  (112, .ireturn, 113, 0, 0, 0, 0, 0),
  (113, .bipush 62, 115, 0, 0, 0, (62), 0),
  (115, .iload_n 1, 116, 1, 0, 0, 0, 0),
  (116, .imul, 117, 0, 0, 0, 0, 0),
  (117, .lload 6, 119, 6, 0, 0, 0, 0),
  (119, .l2i, 120, 0, 0, 0, 0, 0),
  (120, .iadd, 121, 0, 0, 0, 0, 0),
  (121, .istore 8, 123, 8, 0, 0, 0, 0),
  (123, .aload_n 0, 124, 0, 0, 0, 0, 0),
  (124, .getfield 34, 127, 7, 20, 0, 0, 0),
  (127, .iload 8, 129, 8, 0, 0, 0, 0),
  (129, .iaload, 130, 0, 0, 0, 0, 0),
  (130, .i2l, 131, 0, 0, 0, 0, 0),
  (131, .lconst 0, 132, 0, 0, 0, 0, 0),
  (132, .ldc2_w 151, 135, 0, 0, 0, 0, (2)),
  (135, .invokestatic 66, 138, 112, 3, 7, 0, 0),
  (138, .ifCond .eq 40, 141, 178, 0, 0, 0, 0),
  (141, .aload_n 0, 142, 0, 0, 0, 0, 0),
  (142, .aload_n 0, 143, 0, 0, 0, 0, 0),
  (143, .getfield 34, 146, 7, 20, 0, 0, 0),
  (146, .iload 8, 148, 8, 0, 0, 0, 0),
  (148, .iaload, 149, 0, 0, 0, 0, 0),
  (149, .invokevirtual 132, 152, 127, 1, 7, 0, 0),
  (152, .ifCond .ne 26, 155, 178, 0, 0, 0, 0),
  (155, .aload_n 0, 156, 0, 0, 0, 0, 0),
  (156, .aload_n 0, 157, 0, 0, 0, 0, 0),
  (157, .getfield 34, 160, 7, 20, 0, 0, 0),
  (160, .iload 8, 162, 8, 0, 0, 0, 0),
  (162, .iaload, 163, 0, 0, 0, 0, 0),
  (163, .aload_n 0, 164, 0, 0, 0, 0, 0),
  (164, .getfield 34, 167, 7, 20, 0, 0, 0),
  (167, .iload 8, 169, 8, 0, 0, 0, 0),
  (169, .iconst 1, 170, 0, 0, 0, (1), 0),
  (170, .iadd, 171, 0, 0, 0, 0, 0),
  (171, .iaload, 172, 0, 0, 0, 0, 0),
  (172, .invokevirtual 135, 175, 128, 2, 7, 0, 0),
  (175, .ifCond .ne 9, 178, 184, 0, 0, 0, 0),
  (178, .bipush (-20), 180, 0, 0, 0, (-20), 0),
  (180, .iload 5, 182, 5, 0, 0, 0, 0),
  (182, .isub, 183, 0, 0, 0, 0, 0),
  (183, .ireturn, 184, 0, 0, 0, 0, 0),
  (184, .aload_n 0, 185, 0, 0, 0, 0, 0),
  (185, .aload_n 0, 186, 0, 0, 0, 0, 0),
  (186, .getfield 34, 189, 7, 20, 0, 0, 0),
  (189, .iload 8, 191, 8, 0, 0, 0, 0),
  (191, .iaload, 192, 0, 0, 0, 0, 0),
  (192, .aload_n 0, 193, 0, 0, 0, 0, 0),
  (193, .getfield 34, 196, 7, 20, 0, 0, 0),
  (196, .iload 8, 198, 8, 0, 0, 0, 0),
  (198, .iconst 1, 199, 0, 0, 0, (1), 0),
  (199, .iadd, 200, 0, 0, 0, 0, 0),
  (200, .iaload, 201, 0, 0, 0, 0, 0),
  (201, .invokevirtual 139, 204, 129, 2, 7, 0, 0),
  (204, .iinc 5 1, 207, 5, 0, 0, (1), 0),
  (207, .goto (-132), 210, 75, 0, 0, 0, 0),
  (210, .aload_n 0, 211, 0, 0, 0, 0, 0),
  (211, .getfield 123, 214, 7, 16, 0, 0, 0),
  (214, .ifCond .le 8, 217, 222, 0, 0, 0, 0),
  (217, .bipush (-50), 219, 0, 0, 0, (-50), 0),
  (219, .goto 21, 222, 240, 0, 0, 0, 0),
  (222, .aload_n 0, 223, 0, 0, 0, 0, 0),
  (223, .getfield 62, 226, 7, 0, 0, 0, 0),
  (226, .bipush 8, 228, 0, 0, 0, (8), 0),
  (228, .if_icmp .ne 8, 231, 236, 0, 0, 0, 0),
  (231, .bipush (-3), 233, 0, 0, 0, (-3), 0),
  (233, .goto 7, 236, 240, 0, 0, 0, 0),
  (236, .aload_n 0, 237, 0, 0, 0, 0, 0),
  (237, .invokevirtual 145, 240, 118, 0, 7, 0, 0),
  (240, .ireturn, 241, 0, 0, 0, 0, 0)]
def MX7_draw : mI := (7, ⟨"CornerFrontsModel", "draw", "(IIII)I"⟩, prog_9_method_26_code, 9, (some (.int)), oX7_draw)
def oX7_copy : List (Nat × mE) := [(0, .aload_n 0, 1, 0, 0, 0, 0, 0),
  (1, .iload_n 1, 2, 1, 0, 0, 0, 0),
  (2, .invokevirtual 70, 5, 113, 1, 7, 0, 0),
  (5, .ifCond .ne 5, 8, 10, 0, 0, 0, 0),
  (8, .iconst (-1), 9, 0, 0, 0, (-1), 0),
  (9, .ireturn, 10, 0, 0, 0, 0, 0),
  (10, .aload_n 0, 11, 0, 0, 0, 0, 0),
  (11, .getfield 62, 14, 7, 0, 0, 0, 0),
  (14, .bipush 8, 16, 0, 0, 0, (8), 0),
  (16, .if_icmp .ne 6, 19, 22, 0, 0, 0, 0),
  (19, .bipush (-3), 21, 0, 0, 0, (-3), 0),
  (21, .ireturn, 22, 0, 0, 0, 0, 0),
  (22, .aload_n 0, 23, 0, 0, 0, 0, 0),
  (23, .iconst 0, 24, 0, 0, 0, (0), 0),
  (24, .putfield 74, 27, 7, 4, 0, 0, 0),
  (27, .aload_n 0, 28, 0, 0, 0, 0, 0),
  (28, .iload_n 1, 29, 1, 0, 0, 0, 0),
  (29, .iconst 0, 30, 0, 0, 0, (0), 0),
  (30, .aload_n 0, 31, 0, 0, 0, 0, 0),
  (31, .getfield 7, 34, 7, 1, 0, 0, 0),
  (34, .iload_n 1, 35, 1, 0, 0, 0, 0),
  (35, .iaload, 36, 0, 0, 0, 0, 0),
  (36, .invokevirtual 155, 39, 116, 3, 7, 0, 0),
  (39, .aload_n 0, 40, 0, 0, 0, 0, 0),
  (40, .invokevirtual 145, 43, 118, 0, 7, 0, 0),
  (43, .ireturn, 44, 0, 0, 0, 0, 0)]
def MX7_copy : mI := (7, ⟨"CornerFrontsModel", "copy", "(I)I"⟩, prog_9_method_27_code, 2, (some (.int)), oX7_copy)
def oX7_drop : List (Nat × mE) := [(0, .aload_n 0, 1, 0, 0, 0, 0, 0),
  (1, .getfield 62, 4, 7, 0, 0, 0, 0),
  (4, .ifCond .ne 6, 7, 10, 0, 0, 0, 0),
  (7, .bipush (-4), 9, 0, 0, 0, (-4), 0),
  (9, .ireturn, 10, 0, 0, 0, 0, 0),
  (10, .aload_n 0, 11, 0, 0, 0, 0, 0),
  (11, .dup, 12, 0, 0, 0, 0, 0),
  (12, .getfield 62, 15, 7, 0, 0, 0, 0),
  (15, .iconst 1, 16, 0, 0, 0, (1), 0),
  (16, .isub, 17, 0, 0, 0, 0, 0),
  (17, .putfield 62, 20, 7, 0, 0, 0, 0),
  (20, .aload_n 0, 21, 0, 0, 0, 0, 0),
  (21, .getfield 62, 24, 7, 0, 0, 0, 0),
  (24, .ireturn, 25, 0, 0, 0, 0, 0)]
def MX7_drop : mI := (7, ⟨"CornerFrontsModel", "drop", "()I"⟩, prog_9_method_28_code, 1, (some (.int)), oX7_drop)
def oX7_event : List (Nat × mE) := [(0, .aload_n 0, 1, 0, 0, 0, 0, 0),
  (1, .iload_n 1, 2, 1, 0, 0, 0, 0),
  (2, .iload_n 2, 3, 2, 0, 0, 0, 0),
  (3, .invokevirtual 159, 6, 114, 2, 7, 0, 0),
  (6, .ifCond .eq 15, 9, 21, 0, 0, 0, 0),
  (9, .iload_n 3, 10, 3, 0, 0, 0, 0),
  (10, .i2l, 11, 0, 0, 0, 0, 0),
  (11, .lconst 0, 12, 0, 0, 0, 0, 0),
  (12, .ldc2_w 151, 15, 0, 0, 0, 0, (2)),
  (15, .invokestatic 66, 18, 112, 3, 7, 0, 0),
  (18, .ifCond .ne 5, 21, 23, 0, 0, 0, 0),
  (21, .iconst (-1), 22, 0, 0, 0, (-1), 0),
  (22, .ireturn, 23, 0, 0, 0, 0, 0),
  (23, .iload_n 3, 24, 3, 0, 0, 0, 0),
  (24, .ifCond .ne 17, 27, 41, 0, 0, 0, 0),
  (27, .aload_n 0, 28, 0, 0, 0, 0, 0),
  (28, .getfield 13, 31, 7, 2, 0, 0, 0),
  (31, .bipush 30, 33, 0, 0, 0, (30), 0),
  (33, .iload_n 1, 34, 1, 0, 0, 0, 0),
  (34, .imul, 35, 0, 0, 0, 0, 0),
  (35, .iload_n 2, 36, 2, 0, 0, 0, 0),
  (36, .iadd, 37, 0, 0, 0, 0, 0),
  (37, .iaload, 38, 0, 0, 0, 0, 0),
  (38, .goto 28, 41, 66, 0, 0, 0, 0),
  (41, .iload_n 3, 42, 3, 0, 0, 0, 0),
  (42, .iconst 1, 43, 0, 0, 0, (1), 0),
  (43, .if_icmp .ne 17, 46, 60, 0, 0, 0, 0),
  (46, .aload_n 0, 47, 0, 0, 0, 0, 0),
  (47, .getfield 16, 50, 7, 3, 0, 0, 0),
  (50, .bipush 30, 52, 0, 0, 0, (30), 0),
  (52, .iload_n 1, 53, 1, 0, 0, 0, 0),
  (53, .imul, 54, 0, 0, 0, 0, 0),
  (54, .iload_n 2, 55, 2, 0, 0, 0, 0),
  (55, .iadd, 56, 0, 0, 0, 0, 0),
  (56, .iaload, 57, 0, 0, 0, 0, 0),
  (57, .goto 9, 60, 66, 0, 0, 0, 0),
  (60, .aload_n 0, 61, 0, 0, 0, 0, 0),
  (61, .iload_n 1, 62, 1, 0, 0, 0, 0),
  (62, .iload_n 2, 63, 2, 0, 0, 0, 0),
  (63, .invokevirtual 162, 66, 120, 2, 7, 0, 0),
  (66, .ireturn, 67, 0, 0, 0, 0, 0)]
def MX7_event : mI := (7, ⟨"CornerFrontsModel", "event", "(III)I"⟩, prog_9_method_29_code, 4, (some (.int)), oX7_event)
def oX7_goAlong : List (Nat × mE) := [(0, .aload_n 0, 1, 0, 0, 0, 0, 0),
  (1, .iconst 0, 2, 0, 0, 0, (0), 0),
  (2, .putfield 166, 5, 7, 24, 0, 0, 0),
  (5, .iconst 0, 6, 0, 0, 0, (0), 0),
  (6, .istore_n 2, 7, 2, 0, 0, 0, 0),
  (7, .iload_n 2, 8, 2, 0, 0, 0, 0),
  (8, .sipush 310, 11, 0, 0, 0, (310), 0),
  (11, .if_icmp .ge 17, 14, 28, 0, 0, 0, 0),
  (14, .aload_n 0, 15, 0, 0, 0, 0, 0),
  (15, .getfield 37, 18, 7, 21, 0, 0, 0),
  (18, .iload_n 2, 19, 2, 0, 0, 0, 0),
  (19, .bipush (-4), 21, 0, 0, 0, (-4), 0),
  (21, .iastore, 22, 0, 0, 0, 0, 0),
  (22, .iinc 2 1, 25, 2, 0, 0, (1), 0),
  (25, .goto (-18), 28, 7, 0, 0, 0, 0),
  (28, .iconst 0, 29, 0, 0, 0, (0), 0),
  (29, .istore_n 2, 30, 2, 0, 0, 0, 0),
  (30, .iload_n 2, 31, 2, 0, 0, 0, 0),
  (31, .aload_n 0, 32, 0, 0, 0, 0, 0),
  (32, .getfield 7, 35, 7, 1, 0, 0, 0),
  (35, .iload_n 1, 36, 1, 0, 0, 0, 0),
  (36, .iaload, 37, 0, 0, 0, 0, 0),
  (37, .if_icmp .ge 104, 40, 141, 0, 0, 0, 0),
  (40, .aload_n 0, 41, 0, 0, 0, 0, 0),
  (41, .getfield 16, 44, 7, 3, 0, 0, 0),
  (44, .bipush 30, 46, 0, 0, 0, (30), 0),
  (46, .iload_n 1, 47, 1, 0, 0, 0, 0),
  (47, .imul, 48, 0, 0, 0, 0, 0),
  (48, .iload_n 2, 49, 2, 0, 0, 0, 0),
  (49, .iadd, 50, 0, 0, 0, 0, 0),
  (50, .iaload, 51, 0, 0, 0, 0, 0),
  (51, .istore_n 3, 52, 3, 0, 0, 0, 0),
  (52, .aload_n 0, 53, 0, 0, 0, 0, 0),
  (53, .getfield 13, 56, 7, 2, 0, 0, 0),
  (56, .bipush 30, 58, 0, 0, 0, (30), 0),
  (58, .iload_n 1, 59, 1, 0, 0, 0, 0),
  (59, .imul, 60, 0, 0, 0, 0, 0),
  (60, .iload_n 2, 61, 2, 0, 0, 0, 0),
  (61, .iadd, 62, 0, 0, 0, 0, 0),
  (62, .iaload, 63, 0, 0, 0, 0, 0),
  (63, .ifCond .ne 72, 66, 135, 0, 0, 0, 0),
  (66, .aload_n 0, 67, 0, 0, 0, 0, 0),
  (67, .getfield 37, 70, 7, 21, 0, 0, 0),
  (70, .bipush 10, 72, 0, 0, 0, (10), 0),
  (72, .iload_n 2, 73, 2, 0, 0, 0, 0),
  (73, .iconst 1, 74, 0, 0, 0, (1), 0),
  (74, .iadd, 75, 0, 0, 0, 0, 0),
  (75, .imul, 76, 0, 0, 0, 0, 0),
  (76, .iload_n 3, 77, 3, 0, 0, 0, 0),
  (77, .iadd, 78, 0, 0, 0, 0, 0),
  (78, .iaload, 79, 0, 0, 0, 0, 0),
  (79, .bipush (-4), 81, 0, 0, 0, (-4), 0),
  (81, .if_icmp .ne 54, 84, 135, 0, 0, 0, 0),
  (84, .aload_n 0, 85, 0, 0, 0, 0, 0),
  (85, .getfield 46, 88, 7, 25, 0, 0, 0),
  (88, .aload_n 0, 89, 0, 0, 0, 0, 0),
  (89, .getfield 166, 92, 7, 24, 0, 0, 0),
  (92, .iload_n 2, 93, 2, 0, 0, 0, 0),
  (93, .iastore, 94, 0, 0, 0, 0, 0),
  (94, .aload_n 0, 95, 0, 0, 0, 0, 0),
  (95, .getfield 49, 98, 7, 26, 0, 0, 0),
  (98, .aload_n 0, 99, 0, 0, 0, 0, 0),
  (99, .getfield 166, 102, 7, 24, 0, 0, 0),
  (102, .iconst 0, 103, 0, 0, 0, (0), 0),
  (103, .iastore, 104, 0, 0, 0, 0, 0),
  (104, .aload_n 0, 105, 0, 0, 0, 0, 0),
  (105, .getfield 52, 108, 7, 27, 0, 0, 0),
  (108, .aload_n 0, 109, 0, 0, 0, 0, 0),
  (109, .getfield 166, 112, 7, 24, 0, 0, 0),
  (112, .iconst 0, 113, 0, 0, 0, (0), 0),
  (113, .iastore, 114, 0, 0, 0, 0, 0),
  (114, .aload_n 0, 115, 0, 0, 0, 0, 0),
  (115, .iload_n 1, 116, 1, 0, 0, 0, 0),
  (116, .iload_n 2, 117, 2, 0, 0, 0, 0),
  (117, .iconst 1, 118, 0, 0, 0, (1), 0),
  (118, .iadd, 119, 0, 0, 0, 0, 0),
  (119, .iload_n 3, 120, 3, 0, 0, 0, 0),
  (120, .iconst 1, 121, 0, 0, 0, (1), 0),
  (121, .iadd, 122, 0, 0, 0, 0, 0),
  (122, .invokevirtual 169, 125, 140, 3, 7, 0, 0),
  (125, .aload_n 0, 126, 0, 0, 0, 0, 0),
  (126, .dup, 127, 0, 0, 0, 0, 0),
  (127, .getfield 166, 130, 7, 24, 0, 0, 0),
  (130, .iconst 1, 131, 0, 0, 0, (1), 0),
  (131, .iadd, 132, 0, 0, 0, 0, 0),
  (132, .putfield 166, 135, 7, 24, 0, 0, 0),
  (135, .iinc 2 1, 138, 2, 0, 0, (1), 0),
  (138, .goto (-108), 141, 30, 0, 0, 0, 0),
  (141, .return_, 142, 0, 0, 0, 0, 0)]
def MX7_goAlong : mI := (7, ⟨"CornerFrontsModel", "goAlong", "(I)V"⟩, prog_9_method_30_code, 4, none, oX7_goAlong)
def oX7_goOne : List (Nat × mE) := [(0, .iload_n 2, 1, 2, 0, 0, 0, 0),
  (1, .istore 4, 3, 4, 0, 0, 0, 0),
  (3, .iload_n 3, 4, 3, 0, 0, 0, 0),
  (4, .istore 5, 6, 5, 0, 0, 0, 0),
  (6, .iconst 1, 7, 0, 0, 0, (1), 0),
  (7, .istore 6, 9, 6, 0, 0, 0, 0),
  (9, .iconst 0, 10, 0, 0, 0, (0), 0),
  (10, .istore 7, 12, 7, 0, 0, 0, 0),
  (12, .aload_n 0, 13, 0, 0, 0, 0, 0),
  (13, .getfield 37, 16, 7, 21, 0, 0, 0),
  (16, .bipush 10, 18, 0, 0, 0, (10), 0),
  (18, .iload 4, 20, 4, 0, 0, 0, 0),
  (20, .imul, 21, 0, 0, 0, 0, 0),
  (21, .iload 5, 23, 5, 0, 0, 0, 0),
  (23, .iadd, 24, 0, 0, 0, 0, 0),
  (24, .iaload, 25, 0, 0, 0, 0, 0),
  (25, .bipush (-4), 27, 0, 0, 0, (-4), 0),
  (27, .if_icmp .ne 366, 30, 393, 0, 0, 0, 0),
  (30, .aload_n 0, 31, 0, 0, 0, 0, 0),
  (31, .getfield 37, 34, 7, 21, 0, 0, 0),
  (34, .bipush 10, 36, 0, 0, 0, (10), 0),
  (36, .iload 4, 38, 4, 0, 0, 0, 0),
  (38, .imul, 39, 0, 0, 0, 0, 0),
  (39, .iload 5, 41, 5, 0, 0, 0, 0),
  (41, .iadd, 42, 0, 0, 0, 0, 0),
  (42, .aload_n 0, 43, 0, 0, 0, 0, 0),
  (43, .getfield 166, 46, 7, 24, 0, 0, 0),
  (46, .iastore, 47, 0, 0, 0, 0, 0),
  (47, .aload_n 0, 48, 0, 0, 0, 0, 0),
  (48, .getfield 40, 51, 7, 22, 0, 0, 0),
  (51, .bipush 10, 53, 0, 0, 0, (10), 0),
  (53, .iload 4, 55, 4, 0, 0, 0, 0),
  (55, .imul, 56, 0, 0, 0, 0, 0),
  (56, .iload 5, 58, 5, 0, 0, 0, 0),
  (58, .iadd, 59, 0, 0, 0, 0, 0),
  (59, .iload 6, 61, 6, 0, 0, 0, 0),
  (61, .iastore, 62, 0, 0, 0, 0, 0),
  (62, .aload_n 0, 63, 0, 0, 0, 0, 0),
  (63, .getfield 43, 66, 7, 23, 0, 0, 0),
  (66, .bipush 10, 68, 0, 0, 0, (10), 0),
  (68, .iload 4, 70, 4, 0, 0, 0, 0),
  (70, .imul, 71, 0, 0, 0, 0, 0),
  (71, .iload 5, 73, 5, 0, 0, 0, 0),
  (73, .iadd, 74, 0, 0, 0, 0, 0),
  (74, .iload 7, 76, 7, 0, 0, 0, 0),
  (76, .iastore, 77, 0, 0, 0, 0, 0),
  (77, .bipush 30, 79, 0, 0, 0, (30), 0),
  (79, .iload_n 1, 80, 1, 0, 0, 0, 0),
  (80, .imul, 81, 0, 0, 0, 0, 0),
  (81, .iload 6, 83, 6, 0, 0, 0, 0),
  (83, .ifCond .le 8, 86, 91, 0, 0, 0, 0),
  (86, .iload 4, 88, 4, 0, 0, 0, 0),
  (88, .goto 7, 91, 95, 0, 0, 0, 0),
  (91, .iload 4, 93, 4, 0, 0, 0, 0),
  (93, .iconst 1, 94, 0, 0, 0, (1), 0),
  (94, .isub, 95, 0, 0, 0, 0, 0),
  (95, .iadd, 96, 0, 0, 0, 0, 0),
  (96, .istore 8, 98, 8, 0, 0, 0, 0),
  (98, .aload_n 0, 99, 0, 0, 0, 0, 0),
  (99, .getfield 16, 102, 7, 3, 0, 0, 0),
  (102, .iload 8, 104, 8, 0, 0, 0, 0),
  (104, .iaload, 105, 0, 0, 0, 0, 0),
  (105, .istore 9, 107, 9, 0, 0, 0, 0),
  (107, .iload 6, 109, 6, 0, 0, 0, 0),
  (109, .ifCond .le 7, 112, 116, 0, 0, 0, 0),
  (112, .iconst 2, 113, 0, 0, 0, (2), 0),
  (113, .goto 4, 116, 117, 0, 0, 0, 0),
  (116, .iconst 0, 117, 0, 0, 0, (0), 0),
  (117, .istore 10, 119, 10, 0, 0, 0, 0),
  (119, .aload_n 0, 120, 0, 0, 0, 0, 0),
  (120, .getfield 13, 123, 7, 2, 0, 0, 0),
  (123, .iload 8, 125, 8, 0, 0, 0, 0),
  (125, .iaload, 126, 0, 0, 0, 0, 0),
  (126, .iload 10, 128, 10, 0, 0, 0, 0),
  (128, .if_icmp .ne 116, 131, 244, 0, 0, 0, 0),
  (131, .iload 5, 133, 5, 0, 0, 0, 0),
  (133, .iload 9, 135, 9, 0, 0, 0, 0),
  (135, .if_icmp .eq 12, 138, 147, 0, 0, 0, 0),
  (138, .iload 5, 140, 5, 0, 0, 0, 0),
  (140, .iload 9, 142, 9, 0, 0, 0, 0),
  (142, .iconst 1, 143, 0, 0, 0, (1), 0),
  (143, .iadd, 144, 0, 0, 0, 0, 0),
  (144, .if_icmp .ne 100, 147, 244, 0, 0, 0, 0),
  (147, .iload 5, 149, 5, 0, 0, 0, 0),
  (149, .iload 9, 151, 9, 0, 0, 0, 0),
  (151, .if_icmp .ne 7, 154, 158, 0, 0, 0, 0),
  (154, .iconst 1, 155, 0, 0, 0, (1), 0),
  (155, .goto 4, 158, 159, 0, 0, 0, 0),
  (158, .iconst 0, 159, 0, 0, 0, (0), 0),
  (159, .istore 11, 161, 11, 0, 0, 0, 0),
  (161, .aload_n 0, 162, 0, 0, 0, 0, 0),
  (162, .getfield 49, 165, 7, 26, 0, 0, 0),
  (165, .aload_n 0, 166, 0, 0, 0, 0, 0),
  (166, .getfield 166, 169, 7, 24, 0, 0, 0),
  (169, .dup2, 170, 0, 0, 0, 0, 0),
  (170, .iaload, 171, 0, 0, 0, 0, 0),
  (171, .iload 11, 173, 11, 0, 0, 0, 0),
  (173, .ifCond .eq 7, 176, 180, 0, 0, 0, 0),
  (176, .iconst 1, 177, 0, 0, 0, (1), 0),
  (177, .goto 4, 180, 181, 0, 0, 0, 0),
  (180, .iconst 0, 181, 0, 0, 0, (0), 0),
  (181, .iadd, 182, 0, 0, 0, 0, 0),
  (182, .iastore, 183, 0, 0, 0, 0, 0),
  (183, .aload_n 0, 184, 0, 0, 0, 0, 0),
  (184, .getfield 52, 187, 7, 27, 0, 0, 0),
  (187, .aload_n 0, 188, 0, 0, 0, 0, 0),
  (188, .getfield 166, 191, 7, 24, 0, 0, 0),
  (191, .dup2, 192, 0, 0, 0, 0, 0),
  (192, .iaload, 193, 0, 0, 0, 0, 0),
  (193, .iload 11, 195, 11, 0, 0, 0, 0),
  (195, .ifCond .eq 7, 198, 202, 0, 0, 0, 0),
  (198, .iconst 0, 199, 0, 0, 0, (0), 0),
  (199, .goto 4, 202, 203, 0, 0, 0, 0),
  (202, .iconst 1, 203, 0, 0, 0, (1), 0),
  (203, .iadd, 204, 0, 0, 0, 0, 0),
  (204, .iastore, 205, 0, 0, 0, 0, 0),
  (205, .iload 7, 207, 7, 0, 0, 0, 0),
  (207, .iload 11, 209, 11, 0, 0, 0, 0),
  (209, .ifCond .eq 7, 212, 216, 0, 0, 0, 0),
  (212, .iconst 1, 213, 0, 0, 0, (1), 0),
  (213, .goto 4, 216, 217, 0, 0, 0, 0),
  (216, .iconst (-1), 217, 0, 0, 0, (-1), 0),
  (217, .iadd, 218, 0, 0, 0, 0, 0),
  (218, .istore 7, 220, 7, 0, 0, 0, 0),
  (220, .iload 11, 222, 11, 0, 0, 0, 0),
  (222, .ifCond .eq 10, 225, 232, 0, 0, 0, 0),
  (225, .iload 9, 227, 9, 0, 0, 0, 0),
  (227, .iconst 1, 228, 0, 0, 0, (1), 0),
  (228, .iadd, 229, 0, 0, 0, 0, 0),
  (229, .goto 5, 232, 234, 0, 0, 0, 0),
  (232, .iload 9, 234, 9, 0, 0, 0, 0),
  (234, .istore 5, 236, 5, 0, 0, 0, 0),
  (236, .iload 6, 238, 6, 0, 0, 0, 0),
  (238, .ineg, 239, 0, 0, 0, 0, 0),
  (239, .istore 6, 241, 6, 0, 0, 0, 0),
  (241, .goto 149, 244, 390, 0, 0, 0, 0),
  (244, .aload_n 0, 245, 0, 0, 0, 0, 0),
  (245, .getfield 13, 248, 7, 2, 0, 0, 0),
  (248, .iload 8, 250, 8, 0, 0, 0, 0),
  (250, .iaload, 251, 0, 0, 0, 0, 0),
  (251, .iconst 1, 252, 0, 0, 0, (1), 0),
  (252, .if_icmp .ne 38, 255, 290, 0, 0, 0, 0),
  (255, .iload 5, 257, 5, 0, 0, 0, 0),
  (257, .iload 9, 259, 9, 0, 0, 0, 0),
  (259, .if_icmp .ne 10, 262, 269, 0, 0, 0, 0),
  (262, .iload 9, 264, 9, 0, 0, 0, 0),
  (264, .iconst 1, 265, 0, 0, 0, (1), 0),
  (265, .iadd, 266, 0, 0, 0, 0, 0),
  (266, .goto 19, 269, 285, 0, 0, 0, 0),
  (269, .iload 5, 271, 5, 0, 0, 0, 0),
  (271, .iload 9, 273, 9, 0, 0, 0, 0),
  (273, .iconst 1, 274, 0, 0, 0, (1), 0),
  (274, .iadd, 275, 0, 0, 0, 0, 0),
  (275, .if_icmp .ne 8, 278, 283, 0, 0, 0, 0),
  (278, .iload 9, 280, 9, 0, 0, 0, 0),
  (280, .goto 5, 283, 285, 0, 0, 0, 0),
  (283, .iload 5, 285, 5, 0, 0, 0, 0),
  (285, .istore 5, 287, 5, 0, 0, 0, 0),
  (287, .goto 96, 290, 383, 0, 0, 0, 0),
  (290, .aload_n 0, 291, 0, 0, 0, 0, 0),
  (291, .getfield 13, 294, 7, 2, 0, 0, 0),
  (294, .iload 8, 296, 8, 0, 0, 0, 0),
  (296, .iaload, 297, 0, 0, 0, 0, 0),
  (297, .ifCond .ne 46, 300, 343, 0, 0, 0, 0),
  (300, .iload 5, 302, 5, 0, 0, 0, 0),
  (302, .iload 6, 304, 6, 0, 0, 0, 0),
  (304, .ifCond .le 18, 307, 322, 0, 0, 0, 0),
  (307, .iload 5, 309, 5, 0, 0, 0, 0),
  (309, .iload 9, 311, 9, 0, 0, 0, 0),
  (311, .if_icmp .lt 7, 314, 318, 0, 0, 0, 0),
  (314, .iconst 2, 315, 0, 0, 0, (2), 0),
  (315, .goto 22, 318, 337, 0, 0, 0, 0),
  (318, .iconst 0, 319, 0, 0, 0, (0), 0),
  (319, .goto 18, 322, 337, 0, 0, 0, 0),
  (322, .iload 5, 324, 5, 0, 0, 0, 0),
  (324, .iload 9, 326, 9, 0, 0, 0, 0),
  (326, .iconst 1, 327, 0, 0, 0, (1), 0),
  (327, .iadd, 328, 0, 0, 0, 0, 0),
  (328, .if_icmp .le 8, 331, 336, 0, 0, 0, 0),
  (331, .bipush (-2), 333, 0, 0, 0, (-2), 0),
  (333, .goto 4, 336, 337, 0, 0, 0, 0),
  (336, .iconst 0, 337, 0, 0, 0, (0), 0),
  (337, .iadd, 338, 0, 0, 0, 0, 0),
  (338, .istore 5, 340, 5, 0, 0, 0, 0),
  (340, .goto 43, 343, 383, 0, 0, 0, 0),
  (343, .iload 5, 345, 5, 0, 0, 0, 0),
  (345, .iload 6, 347, 6, 0, 0, 0, 0),
  (347, .ifCond .le 21, 350, 368, 0, 0, 0, 0),
  (350, .iload 5, 352, 5, 0, 0, 0, 0),
  (352, .iload 9, 354, 9, 0, 0, 0, 0),
  (354, .iconst 1, 355, 0, 0, 0, (1), 0),
  (355, .iadd, 356, 0, 0, 0, 0, 0),
  (356, .if_icmp .le 8, 359, 364, 0, 0, 0, 0),
  (359, .bipush (-2), 361, 0, 0, 0, (-2), 0),
  (361, .goto 19, 364, 380, 0, 0, 0, 0),
  (364, .iconst 0, 365, 0, 0, 0, (0), 0),
  (365, .goto 15, 368, 380, 0, 0, 0, 0),
  (368, .iload 5, 370, 5, 0, 0, 0, 0),
  (370, .iload 9, 372, 9, 0, 0, 0, 0),
  (372, .if_icmp .lt 7, 375, 379, 0, 0, 0, 0),
  (375, .iconst 2, 376, 0, 0, 0, (2), 0),
  (376, .goto 4, 379, 380, 0, 0, 0, 0),
  (379, .iconst 0, 380, 0, 0, 0, (0), 0),
  (380, .iadd, 381, 0, 0, 0, 0, 0),
  (381, .istore 5, 383, 5, 0, 0, 0, 0),
  (383, .iload 4, 385, 4, 0, 0, 0, 0),
  (385, .iload 6, 387, 6, 0, 0, 0, 0),
  (387, .iadd, 388, 0, 0, 0, 0, 0),
  (388, .istore 4, 390, 4, 0, 0, 0, 0),
  (390, .goto (-378), 393, 12, 0, 0, 0, 0),
  (393, .return_, 394, 0, 0, 0, 0, 0)]
def MX7_goOne : mI := (7, ⟨"CornerFrontsModel", "goOne", "(III)V"⟩, prog_9_method_31_code, 12, none, oX7_goOne)
def oX7_isPlus : List (Nat × mE) := [(0, .aload_n 0, 1, 0, 0, 0, 0, 0),
  (1, .getfield 16, 4, 7, 3, 0, 0, 0),
  (4, .bipush 30, 6, 0, 0, 0, (30), 0),
  (6, .iload_n 1, 7, 1, 0, 0, 0, 0),
  (7, .imul, 8, 0, 0, 0, 0, 0),
  (8, .iload_n 2, 9, 2, 0, 0, 0, 0),
  (9, .iadd, 10, 0, 0, 0, 0, 0),
  (10, .iaload, 11, 0, 0, 0, 0, 0),
  (11, .istore_n 3, 12, 3, 0, 0, 0, 0),
  (12, .aload_n 0, 13, 0, 0, 0, 0, 0),
  (13, .getfield 40, 16, 7, 22, 0, 0, 0),
  (16, .bipush 10, 18, 0, 0, 0, (10), 0),
  (18, .iload_n 2, 19, 2, 0, 0, 0, 0),
  (19, .imul, 20, 0, 0, 0, 0, 0),
  (20, .iload_n 3, 21, 3, 0, 0, 0, 0),
  (21, .iadd, 22, 0, 0, 0, 0, 0),
  (22, .iaload, 23, 0, 0, 0, 0, 0),
  (23, .aload_n 0, 24, 0, 0, 0, 0, 0),
  (24, .getfield 40, 27, 7, 22, 0, 0, 0),
  (27, .bipush 10, 29, 0, 0, 0, (10), 0),
  (29, .iload_n 2, 30, 2, 0, 0, 0, 0),
  (30, .imul, 31, 0, 0, 0, 0, 0),
  (31, .iload_n 3, 32, 3, 0, 0, 0, 0),
  (32, .iadd, 33, 0, 0, 0, 0, 0),
  (33, .iconst 1, 34, 0, 0, 0, (1), 0),
  (34, .iadd, 35, 0, 0, 0, 0, 0),
  (35, .iaload, 36, 0, 0, 0, 0, 0),
  (36, .if_icmp .ne 7, 39, 43, 0, 0, 0, 0),
  (39, .iconst 1, 40, 0, 0, 0, (1), 0),
  (40, .goto 4, 43, 44, 0, 0, 0, 0),
  (43, .iconst 0, 44, 0, 0, 0, (0), 0),
  (44, .ireturn, 45, 0, 0, 1, 0, 0)]
def MX7_isPlus : mI := (7, ⟨"CornerFrontsModel", "isPlus", "(II)Z"⟩, prog_9_method_32_code, 4, (some (.boolean)), oX7_isPlus)
def oX7_about : List (Nat × mE) := [(0, .aload_n 0, 1, 0, 0, 0, 0, 0),
  (1, .iload_n 1, 2, 1, 0, 0, 0, 0),
  (2, .invokevirtual 70, 5, 113, 1, 7, 0, 0),
  (5, .ifCond .eq 15, 8, 20, 0, 0, 0, 0),
  (8, .iload_n 2, 9, 2, 0, 0, 0, 0),
  (9, .i2l, 10, 0, 0, 0, 0, 0),
  (10, .lconst 0, 11, 0, 0, 0, 0, 0),
  (11, .ldc2_w 172, 14, 0, 0, 0, 0, (5)),
  (14, .invokestatic 66, 17, 112, 3, 7, 0, 0),
  (17, .ifCond .ne 5, 20, 22, 0, 0, 0, 0),
  (20, .iconst (-1), 21, 0, 0, 0, (-1), 0),
  (21, .ireturn, 22, 0, 0, 0, 0, 0),
  (22, .aload_n 0, 23, 0, 0, 0, 0, 0),
  (23, .iload_n 1, 24, 1, 0, 0, 0, 0),
  (24, .invokevirtual 174, 27, 139, 1, 7, 0, 0),
  (27, .iconst 0, 28, 0, 0, 0, (0), 0),
  (28, .istore_n 3, 29, 3, 0, 0, 0, 0),
  (29, .iconst 0, 30, 0, 0, 0, (0), 0),
  (30, .istore 4, 32, 4, 0, 0, 0, 0),
  (32, .iconst 0, 33, 0, 0, 0, (0), 0),
  (33, .istore 5, 35, 5, 0, 0, 0, 0),
  (35, .iconst 0, 36, 0, 0, 0, (0), 0),
  (36, .istore 6, 38, 6, 0, 0, 0, 0),
  (38, .iload 6, 40, 6, 0, 0, 0, 0),
  (40, .aload_n 0, 41, 0, 0, 0, 0, 0),
  (41, .getfield 7, 44, 7, 1, 0, 0, 0),
  (44, .iload_n 1, 45, 1, 0, 0, 0, 0),
  (45, .iaload, 46, 0, 0, 0, 0, 0),
  (46, .if_icmp .ge 94, 49, 140, 0, 0, 0, 0),
  (49, .iload_n 3, 50, 3, 0, 0, 0, 0),
  (50, .aload_n 0, 51, 0, 0, 0, 0, 0),
  (51, .getfield 13, 54, 7, 2, 0, 0, 0),
  (54, .bipush 30, 56, 0, 0, 0, (30), 0),
  (56, .iload_n 1, 57, 1, 0, 0, 0, 0),
  (57, .imul, 58, 0, 0, 0, 0, 0),
  (58, .iload 6, 60, 6, 0, 0, 0, 0),
  (60, .iadd, 61, 0, 0, 0, 0, 0),
  (61, .iaload, 62, 0, 0, 0, 0, 0),
  (62, .iconst 2, 63, 0, 0, 0, (2), 0),
  (63, .if_icmp .ne 7, 66, 70, 0, 0, 0, 0),
  (66, .iconst 1, 67, 0, 0, 0, (1), 0),
  (67, .goto 4, 70, 71, 0, 0, 0, 0),
  (70, .iconst 0, 71, 0, 0, 0, (0), 0),
  (71, .iadd, 72, 0, 0, 0, 0, 0),
  (72, .istore_n 3, 73, 3, 0, 0, 0, 0),
  (73, .iload 5, 75, 5, 0, 0, 0, 0),
  (75, .aload_n 0, 76, 0, 0, 0, 0, 0),
  (76, .getfield 13, 79, 7, 2, 0, 0, 0),
  (79, .bipush 30, 81, 0, 0, 0, (30), 0),
  (81, .iload_n 1, 82, 1, 0, 0, 0, 0),
  (82, .imul, 83, 0, 0, 0, 0, 0),
  (83, .iload 6, 85, 6, 0, 0, 0, 0),
  (85, .iadd, 86, 0, 0, 0, 0, 0),
  (86, .iaload, 87, 0, 0, 0, 0, 0),
  (87, .iconst 1, 88, 0, 0, 0, (1), 0),
  (88, .if_icmp .ne 17, 91, 105, 0, 0, 0, 0),
  (91, .aload_n 0, 92, 0, 0, 0, 0, 0),
  (92, .iload_n 1, 93, 1, 0, 0, 0, 0),
  (93, .iload 6, 95, 6, 0, 0, 0, 0),
  (95, .invokevirtual 177, 98, 141, 2, 7, 0, 0),
  (98, .ifCond .eq 7, 101, 105, 0, 0, 0, 0),
  (101, .iconst 1, 102, 0, 0, 0, (1), 0),
  (102, .goto 4, 105, 106, 0, 0, 0, 0),
  (105, .iconst 0, 106, 0, 0, 0, (0), 0),
  (106, .iadd, 107, 0, 0, 0, 0, 0),
  (107, .istore 5, 109, 5, 0, 0, 0, 0),
  (109, .aload_n 0, 110, 0, 0, 0, 0, 0),
  (110, .iload_n 1, 111, 1, 0, 0, 0, 0),
  (111, .iload 6, 113, 6, 0, 0, 0, 0),
  (113, .invokevirtual 162, 116, 120, 2, 7, 0, 0),
  (116, .istore 7, 118, 7, 0, 0, 0, 0),
  (118, .iload 7, 120, 7, 0, 0, 0, 0),
  (120, .iload 4, 122, 4, 0, 0, 0, 0),
  (122, .if_icmp .le 8, 125, 130, 0, 0, 0, 0),
  (125, .iload 7, 127, 7, 0, 0, 0, 0),
  (127, .goto 5, 130, 132, 0, 0, 0, 0),
  (130, .iload 4, 132, 4, 0, 0, 0, 0),
  (132, .istore 4, 134, 4, 0, 0, 0, 0),
  (134, .iinc 6 1, 137, 6, 0, 0, (1), 0),
  (137, .goto (-99), 140, 38, 0, 0, 0, 0),
  (140, .iload_n 2, 141, 2, 0, 0, 0, 0),
  (141, .ifCond .ne 12, 144, 153, 0, 0, 0, 0),
  (144, .aload_n 0, 145, 0, 0, 0, 0, 0),
  (145, .getfield 7, 148, 7, 1, 0, 0, 0),
  (148, .iload_n 1, 149, 1, 0, 0, 0, 0),
  (149, .iaload, 150, 0, 0, 0, 0, 0),
  (150, .goto 49, 153, 199, 0, 0, 0, 0),
  (153, .iload_n 2, 154, 2, 0, 0, 0, 0),
  (154, .iconst 1, 155, 0, 0, 0, (1), 0),
  (155, .if_icmp .ne 11, 158, 166, 0, 0, 0, 0),
  (158, .aload_n 0, 159, 0, 0, 0, 0, 0),
  (159, .iload_n 1, 160, 1, 0, 0, 0, 0),
  (160, .invokevirtual 180, 163, 121, 1, 7, 0, 0),
  (163, .goto 36, 166, 199, 0, 0, 0, 0),
  (166, .iload_n 2, 167, 2, 0, 0, 0, 0),
  (167, .iconst 2, 168, 0, 0, 0, (2), 0),
  (168, .if_icmp .ne 7, 171, 175, 0, 0, 0, 0),
  (171, .iload_n 3, 172, 3, 0, 0, 0, 0),
  (172, .goto 27, 175, 199, 0, 0, 0, 0),
  (175, .iload_n 2, 176, 2, 0, 0, 0, 0),
  (176, .iconst 3, 177, 0, 0, 0, (3), 0),
  (177, .if_icmp .ne 10, 180, 187, 0, 0, 0, 0),
  (180, .aload_n 0, 181, 0, 0, 0, 0, 0),
  (181, .getfield 166, 184, 7, 24, 0, 0, 0),
  (184, .goto 15, 187, 199, 0, 0, 0, 0),
  (187, .iload_n 2, 188, 2, 0, 0, 0, 0),
  (188, .iconst 4, 189, 0, 0, 0, (4), 0),
  (189, .if_icmp .ne 8, 192, 197, 0, 0, 0, 0),
  (192, .iload 4, 194, 4, 0, 0, 0, 0),
  (194, .goto 5, 197, 199, 0, 0, 0, 0),
  (197, .iload 5, 199, 5, 0, 0, 0, 0),
  (199, .ireturn, 200, 0, 0, 0, 0, 0)]
def MX7_about : mI := (7, ⟨"CornerFrontsModel", "about", "(II)I"⟩, prog_9_method_33_code, 8, (some (.int)), oX7_about)
def oX7_piece : List (Nat × mE) := [(0, .aload_n 0, 1, 0, 0, 0, 0, 0),
  (1, .iload_n 1, 2, 1, 0, 0, 0, 0),
  (2, .iload_n 2, 3, 2, 0, 0, 0, 0),
  (3, .invokevirtual 159, 6, 114, 2, 7, 0, 0),
  (6, .ifCond .eq 21, 9, 27, 0, 0, 0, 0),
  (9, .iload_n 3, 10, 3, 0, 0, 0, 0),
  (10, .i2l, 11, 0, 0, 0, 0, 0),
  (11, .lconst 0, 12, 0, 0, 0, 0, 0),
  (12, .aload_n 0, 13, 0, 0, 0, 0, 0),
  (13, .iload_n 1, 14, 1, 0, 0, 0, 0),
  (14, .iload_n 2, 15, 2, 0, 0, 0, 0),
  (15, .invokevirtual 162, 18, 120, 2, 7, 0, 0),
  (18, .iconst 1, 19, 0, 0, 0, (1), 0),
  (19, .isub, 20, 0, 0, 0, 0, 0),
  (20, .i2l, 21, 0, 0, 0, 0, 0),
  (21, .invokestatic 66, 24, 112, 3, 7, 0, 0),
  (24, .ifCond .ne 5, 27, 29, 0, 0, 0, 0),
  (27, .iconst (-1), 28, 0, 0, 0, (-1), 0),
  (28, .ireturn, 29, 0, 0, 0, 0, 0),
  (29, .aload_n 0, 30, 0, 0, 0, 0, 0),
  (30, .iload_n 1, 31, 1, 0, 0, 0, 0),
  (31, .invokevirtual 174, 34, 139, 1, 7, 0, 0),
  (34, .aload_n 0, 35, 0, 0, 0, 0, 0),
  (35, .getfield 37, 38, 7, 21, 0, 0, 0),
  (38, .bipush 10, 40, 0, 0, 0, (10), 0),
  (40, .iload_n 2, 41, 2, 0, 0, 0, 0),
  (41, .imul, 42, 0, 0, 0, 0, 0),
  (42, .iload_n 3, 43, 3, 0, 0, 0, 0),
  (43, .iadd, 44, 0, 0, 0, 0, 0),
  (44, .iaload, 45, 0, 0, 0, 0, 0),
  (45, .ireturn, 46, 0, 0, 0, 0, 0)]
def MX7_piece : mI := (7, ⟨"CornerFrontsModel", "piece", "(III)I"⟩, prog_9_method_34_code, 4, (some (.int)), oX7_piece)
def oX7_signed : List (Nat × mE) := [(0, .iconst 0, 1, 0, 0, 0, (0), 0),
  (1, .istore 4, 3, 4, 0, 0, 0, 0),
  (3, .iconst 0, 4, 0, 0, 0, (0), 0),
  (4, .istore 5, 6, 5, 0, 0, 0, 0),
  (6, .iload 5, 8, 5, 0, 0, 0, 0),
  (8, .aload_n 0, 9, 0, 0, 0, 0, 0),
  (9, .getfield 7, 12, 7, 1, 0, 0, 0),
  (12, .iload_n 1, 13, 1, 0, 0, 0, 0),
  (13, .iaload, 14, 0, 0, 0, 0, 0),
  (14, .if_icmp .ge 115, 17, 129, 0, 0, 0, 0),
  (17, .aload_n 0, 18, 0, 0, 0, 0, 0),
  (18, .getfield 13, 21, 7, 2, 0, 0, 0),
  (21, .bipush 30, 23, 0, 0, 0, (30), 0),
  (23, .iload_n 1, 24, 1, 0, 0, 0, 0),
  (24, .imul, 25, 0, 0, 0, 0, 0),
  (25, .iload 5, 27, 5, 0, 0, 0, 0),
  (27, .iadd, 28, 0, 0, 0, 0, 0),
  (28, .iaload, 29, 0, 0, 0, 0, 0),
  (29, .iconst 1, 30, 0, 0, 0, (1), 0),
  (30, .if_icmp .ne 93, 33, 123, 0, 0, 0, 0),
  (33, .aload_n 0, 34, 0, 0, 0, 0, 0),
  (34, .getfield 16, 37, 7, 3, 0, 0, 0),
  (37, .bipush 30, 39, 0, 0, 0, (30), 0),
  (39, .iload_n 1, 40, 1, 0, 0, 0, 0),
  (40, .imul, 41, 0, 0, 0, 0, 0),
  (41, .iload 5, 43, 5, 0, 0, 0, 0),
  (43, .iadd, 44, 0, 0, 0, 0, 0),
  (44, .iaload, 45, 0, 0, 0, 0, 0),
  (45, .istore 6, 47, 6, 0, 0, 0, 0),
  (47, .aload_n 0, 48, 0, 0, 0, 0, 0),
  (48, .getfield 37, 51, 7, 21, 0, 0, 0),
  (51, .bipush 10, 53, 0, 0, 0, (10), 0),
  (53, .iload 5, 55, 5, 0, 0, 0, 0),
  (55, .imul, 56, 0, 0, 0, 0, 0),
  (56, .iload 6, 58, 6, 0, 0, 0, 0),
  (58, .iadd, 59, 0, 0, 0, 0, 0),
  (59, .iaload, 60, 0, 0, 0, 0, 0),
  (60, .istore 7, 62, 7, 0, 0, 0, 0),
  (62, .aload_n 0, 63, 0, 0, 0, 0, 0),
  (63, .getfield 37, 66, 7, 21, 0, 0, 0),
  (66, .bipush 10, 68, 0, 0, 0, (10), 0),
  (68, .iload 5, 70, 5, 0, 0, 0, 0),
  (70, .imul, 71, 0, 0, 0, 0, 0),
  (71, .iload 6, 73, 6, 0, 0, 0, 0),
  (73, .iadd, 74, 0, 0, 0, 0, 0),
  (74, .iconst 1, 75, 0, 0, 0, (1), 0),
  (75, .iadd, 76, 0, 0, 0, 0, 0),
  (76, .iaload, 77, 0, 0, 0, 0, 0),
  (77, .istore 8, 79, 8, 0, 0, 0, 0),
  (79, .iload 7, 81, 7, 0, 0, 0, 0),
  (81, .iload_n 2, 82, 2, 0, 0, 0, 0),
  (82, .if_icmp .ne 9, 85, 91, 0, 0, 0, 0),
  (85, .iload 8, 87, 8, 0, 0, 0, 0),
  (87, .iload_n 3, 88, 3, 0, 0, 0, 0),
  (88, .if_icmp .eq 15, 91, 103, 0, 0, 0, 0),
  (91, .iload 7, 93, 7, 0, 0, 0, 0),
  (93, .iload_n 3, 94, 3, 0, 0, 0, 0),
  (94, .if_icmp .ne 29, 97, 123, 0, 0, 0, 0),
  (97, .iload 8, 99, 8, 0, 0, 0, 0),
  (99, .iload_n 2, 100, 2, 0, 0, 0, 0),
  (100, .if_icmp .ne 23, 103, 123, 0, 0, 0, 0),
  (103, .iload 4, 105, 4, 0, 0, 0, 0),
  (105, .aload_n 0, 106, 0, 0, 0, 0, 0),
  (106, .iload_n 1, 107, 1, 0, 0, 0, 0),
  (107, .iload 5, 109, 5, 0, 0, 0, 0),
  (109, .invokevirtual 177, 112, 141, 2, 7, 0, 0),
  (112, .ifCond .eq 7, 115, 119, 0, 0, 0, 0),
  (115, .iconst 1, 116, 0, 0, 0, (1), 0),
  (116, .goto 4, 119, 120, 0, 0, 0, 0),
  (119, .iconst (-1), 120, 0, 0, 0, (-1), 0),
  (120, .iadd, 121, 0, 0, 0, 0, 0),
  (121, .istore 4, 123, 4, 0, 0, 0, 0),
  (123, .iinc 5 1, 126, 5, 0, 0, (1), 0),
  (126, .goto (-120), 129, 6, 0, 0, 0, 0),
  (129, .iload 4, 131, 4, 0, 0, 0, 0),
  (131, .ireturn, 132, 0, 0, 0, 0, 0)]
def MX7_signed : mI := (7, ⟨"CornerFrontsModel", "signed", "(III)I"⟩, prog_9_method_35_code, 9, (some (.int)), oX7_signed)
def oX7_number : List (Nat × mE) := [(0, .aload_n 0, 1, 0, 0, 0, 0, 0),
  (1, .iload_n 1, 2, 1, 0, 0, 0, 0),
  (2, .invokevirtual 70, 5, 113, 1, 7, 0, 0),
  (5, .ifCond .eq 15, 8, 20, 0, 0, 0, 0),
  (8, .iload_n 3, 9, 3, 0, 0, 0, 0),
  (9, .i2l, 10, 0, 0, 0, 0, 0),
  (10, .lconst 0, 11, 0, 0, 0, 0, 0),
  (11, .ldc2_w 183, 14, 0, 0, 0, 0, (4)),
  (14, .invokestatic 66, 17, 112, 3, 7, 0, 0),
  (17, .ifCond .ne 7, 20, 24, 0, 0, 0, 0),
  (20, .sipush (-1000), 23, 0, 0, 0, (-1000), 0),
  (23, .ireturn, 24, 0, 0, 0, 0, 0),
  (24, .aload_n 0, 25, 0, 0, 0, 0, 0),
  (25, .iload_n 1, 26, 1, 0, 0, 0, 0),
  (26, .invokevirtual 174, 29, 139, 1, 7, 0, 0),
  (29, .iload_n 2, 30, 2, 0, 0, 0, 0),
  (30, .i2l, 31, 0, 0, 0, 0, 0),
  (31, .lconst 0, 32, 0, 0, 0, 0, 0),
  (32, .aload_n 0, 33, 0, 0, 0, 0, 0),
  (33, .getfield 166, 36, 7, 24, 0, 0, 0),
  (36, .iconst 1, 37, 0, 0, 0, (1), 0),
  (37, .isub, 38, 0, 0, 0, 0, 0),
  (38, .i2l, 39, 0, 0, 0, 0, 0),
  (39, .invokestatic 66, 42, 112, 3, 7, 0, 0),
  (42, .ifCond .ne 7, 45, 49, 0, 0, 0, 0),
  (45, .sipush (-1000), 48, 0, 0, 0, (-1000), 0),
  (48, .ireturn, 49, 0, 0, 0, 0, 0),
  (49, .iconst 0, 50, 0, 0, 0, (0), 0),
  (50, .istore 4, 52, 4, 0, 0, 0, 0),
  (52, .iconst 0, 53, 0, 0, 0, (0), 0),
  (53, .istore 5, 55, 5, 0, 0, 0, 0),
  (55, .iload 5, 57, 5, 0, 0, 0, 0),
  (57, .aload_n 0, 58, 0, 0, 0, 0, 0),
  (58, .getfield 7, 61, 7, 1, 0, 0, 0),
  (61, .iload_n 1, 62, 1, 0, 0, 0, 0),
  (62, .iaload, 63, 0, 0, 0, 0, 0),
  (63, .if_icmp .ge 62, 66, 125, 0, 0, 0, 0),
  (66, .iload 4, 68, 4, 0, 0, 0, 0),
  (68, .aload_n 0, 69, 0, 0, 0, 0, 0),
  (69, .getfield 13, 72, 7, 2, 0, 0, 0),
  (72, .bipush 30, 74, 0, 0, 0, (30), 0),
  (74, .iload_n 1, 75, 1, 0, 0, 0, 0),
  (75, .imul, 76, 0, 0, 0, 0, 0),
  (76, .iload 5, 78, 5, 0, 0, 0, 0),
  (78, .iadd, 79, 0, 0, 0, 0, 0),
  (79, .iaload, 80, 0, 0, 0, 0, 0),
  (80, .iconst 2, 81, 0, 0, 0, (2), 0),
  (81, .if_icmp .ne 34, 84, 115, 0, 0, 0, 0),
  (84, .aload_n 0, 85, 0, 0, 0, 0, 0),
  (85, .getfield 37, 88, 7, 21, 0, 0, 0),
  (88, .bipush 10, 90, 0, 0, 0, (10), 0),
  (90, .iload 5, 92, 5, 0, 0, 0, 0),
  (92, .imul, 93, 0, 0, 0, 0, 0),
  (93, .aload_n 0, 94, 0, 0, 0, 0, 0),
  (94, .getfield 16, 97, 7, 3, 0, 0, 0),
  (97, .bipush 30, 99, 0, 0, 0, (30), 0),
  (99, .iload_n 1, 100, 1, 0, 0, 0, 0),
  (100, .imul, 101, 0, 0, 0, 0, 0),
  (101, .iload 5, 103, 5, 0, 0, 0, 0),
  (103, .iadd, 104, 0, 0, 0, 0, 0),
  (104, .iaload, 105, 0, 0, 0, 0, 0),
  (105, .iadd, 106, 0, 0, 0, 0, 0),
  (106, .iaload, 107, 0, 0, 0, 0, 0),
  (107, .iload_n 2, 108, 2, 0, 0, 0, 0),
  (108, .if_icmp .ne 7, 111, 115, 0, 0, 0, 0),
  (111, .iconst 1, 112, 0, 0, 0, (1), 0),
  (112, .goto 4, 115, 116, 0, 0, 0, 0),
  (115, .iconst 0, 116, 0, 0, 0, (0), 0),
  (116, .iadd, 117, 0, 0, 0, 0, 0),
  (117, .istore 4, 119, 4, 0, 0, 0, 0),
  (119, .iinc 5 1, 122, 5, 0, 0, (1), 0),
  (122, .goto (-67), 125, 55, 0, 0, 0, 0),
  (125, .aload_n 0, 126, 0, 0, 0, 0, 0),
  (126, .iload_n 1, 127, 1, 0, 0, 0, 0),
  (127, .iload_n 2, 128, 2, 0, 0, 0, 0),
  (128, .iload_n 2, 129, 2, 0, 0, 0, 0),
  (129, .invokevirtual 185, 132, 144, 3, 7, 0, 0),
  (132, .istore 5, 134, 5, 0, 0, 0, 0),
  (134, .iload_n 3, 135, 3, 0, 0, 0, 0),
  (135, .ifCond .ne 8, 138, 143, 0, 0, 0, 0),
  (138, .iload 5, 140, 5, 0, 0, 0, 0),
  (140, .goto 66, 143, 206, 0, 0, 0, 0),
  (143, .iload_n 3, 144, 3, 0, 0, 0, 0),
  (144, .iconst 1, 145, 0, 0, 0, (1), 0),
  (145, .if_icmp .ne 11, 148, 156, 0, 0, 0, 0),
  (148, .iload 5, 150, 5, 0, 0, 0, 0),
  (150, .iload 4, 152, 4, 0, 0, 0, 0),
  (152, .isub, 153, 0, 0, 0, 0, 0),
  (153, .goto 53, 156, 206, 0, 0, 0, 0),
  (156, .iload_n 3, 157, 3, 0, 0, 0, 0),
  (157, .iconst 2, 158, 0, 0, 0, (2), 0),
  (158, .if_icmp .ne 21, 161, 179, 0, 0, 0, 0),
  (161, .aload_n 0, 162, 0, 0, 0, 0, 0),
  (162, .getfield 52, 165, 7, 27, 0, 0, 0),
  (165, .iload_n 2, 166, 2, 0, 0, 0, 0),
  (166, .iaload, 167, 0, 0, 0, 0, 0),
  (167, .aload_n 0, 168, 0, 0, 0, 0, 0),
  (168, .getfield 49, 171, 7, 26, 0, 0, 0),
  (171, .iload_n 2, 172, 2, 0, 0, 0, 0),
  (172, .iaload, 173, 0, 0, 0, 0, 0),
  (173, .isub, 174, 0, 0, 0, 0, 0),
  (174, .iconst 2, 175, 0, 0, 0, (2), 0),
  (175, .idiv, 176, 0, 0, 0, 0, 0),
  (176, .goto 30, 179, 206, 0, 0, 0, 0),
  (179, .iload_n 3, 180, 3, 0, 0, 0, 0),
  (180, .iconst 3, 181, 0, 0, 0, (3), 0),
  (181, .if_icmp .ne 19, 184, 200, 0, 0, 0, 0),
  (184, .aload_n 0, 185, 0, 0, 0, 0, 0),
  (185, .getfield 49, 188, 7, 26, 0, 0, 0),
  (188, .iload_n 2, 189, 2, 0, 0, 0, 0),
  (189, .iaload, 190, 0, 0, 0, 0, 0),
  (190, .aload_n 0, 191, 0, 0, 0, 0, 0),
  (191, .getfield 52, 194, 7, 27, 0, 0, 0),
  (194, .iload_n 2, 195, 2, 0, 0, 0, 0),
  (195, .iaload, 196, 0, 0, 0, 0, 0),
  (196, .iadd, 197, 0, 0, 0, 0, 0),
  (197, .goto 9, 200, 206, 0, 0, 0, 0),
  (200, .aload_n 0, 201, 0, 0, 0, 0, 0),
  (201, .getfield 46, 204, 7, 25, 0, 0, 0),
  (204, .iload_n 2, 205, 2, 0, 0, 0, 0),
  (205, .iaload, 206, 0, 0, 0, 0, 0),
  (206, .ireturn, 207, 0, 0, 0, 0, 0)]
def MX7_number : mI := (7, ⟨"CornerFrontsModel", "number", "(III)I"⟩, prog_9_method_36_code, 6, (some (.int)), oX7_number)
def oX7_link : List (Nat × mE) := [(0, .aload_n 0, 1, 0, 0, 0, 0, 0),
  (1, .iload_n 1, 2, 1, 0, 0, 0, 0),
  (2, .invokevirtual 70, 5, 113, 1, 7, 0, 0),
  (5, .ifCond .ne 7, 8, 12, 0, 0, 0, 0),
  (8, .sipush (-1000), 11, 0, 0, 0, (-1000), 0),
  (11, .ireturn, 12, 0, 0, 0, 0, 0),
  (12, .aload_n 0, 13, 0, 0, 0, 0, 0),
  (13, .iload_n 1, 14, 1, 0, 0, 0, 0),
  (14, .invokevirtual 174, 17, 139, 1, 7, 0, 0),
  (17, .iload_n 2, 18, 2, 0, 0, 0, 0),
  (18, .i2l, 19, 0, 0, 0, 0, 0),
  (19, .lconst 0, 20, 0, 0, 0, 0, 0),
  (20, .aload_n 0, 21, 0, 0, 0, 0, 0),
  (21, .getfield 166, 24, 7, 24, 0, 0, 0),
  (24, .iconst 1, 25, 0, 0, 0, (1), 0),
  (25, .isub, 26, 0, 0, 0, 0, 0),
  (26, .i2l, 27, 0, 0, 0, 0, 0),
  (27, .invokestatic 66, 30, 112, 3, 7, 0, 0),
  (30, .ifCond .eq 24, 33, 54, 0, 0, 0, 0),
  (33, .iload_n 3, 34, 3, 0, 0, 0, 0),
  (34, .i2l, 35, 0, 0, 0, 0, 0),
  (35, .lconst 0, 36, 0, 0, 0, 0, 0),
  (36, .aload_n 0, 37, 0, 0, 0, 0, 0),
  (37, .getfield 166, 40, 7, 24, 0, 0, 0),
  (40, .iconst 1, 41, 0, 0, 0, (1), 0),
  (41, .isub, 42, 0, 0, 0, 0, 0),
  (42, .i2l, 43, 0, 0, 0, 0, 0),
  (43, .invokestatic 66, 46, 112, 3, 7, 0, 0),
  (46, .ifCond .eq 8, 49, 54, 0, 0, 0, 0),
  (49, .iload_n 2, 50, 2, 0, 0, 0, 0),
  (50, .iload_n 3, 51, 3, 0, 0, 0, 0),
  (51, .if_icmp .ne 7, 54, 58, 0, 0, 0, 0),
  (54, .sipush (-1000), 57, 0, 0, 0, (-1000), 0),
  (57, .ireturn, 58, 0, 0, 0, 0, 0),
  (58, .aload_n 0, 59, 0, 0, 0, 0, 0),
  (59, .iload_n 1, 60, 1, 0, 0, 0, 0),
  (60, .iload_n 2, 61, 2, 0, 0, 0, 0),
  (61, .iload_n 3, 62, 3, 0, 0, 0, 0),
  (62, .invokevirtual 185, 65, 144, 3, 7, 0, 0),
  (65, .iconst 2, 66, 0, 0, 0, (2), 0),
  (66, .idiv, 67, 0, 0, 0, 0, 0),
  (67, .ireturn, 68, 0, 0, 0, 0, 0)]
def MX7_link : mI := (7, ⟨"CornerFrontsModel", "link", "(III)I"⟩, prog_9_method_37_code, 4, (some (.int)), oX7_link)
def oX7_isCross : List (Nat × mE) := [(0, .aload_n 0, 1, 0, 0, 0, 0, 0),
  (1, .iload_n 1, 2, 1, 0, 0, 0, 0),
  (2, .iload_n 2, 3, 2, 0, 0, 0, 0),
  (3, .invokevirtual 159, 6, 114, 2, 7, 0, 0),
  (6, .ifCond .eq 22, 9, 28, 0, 0, 0, 0),
  (9, .aload_n 0, 10, 0, 0, 0, 0, 0),
  (10, .getfield 13, 13, 7, 2, 0, 0, 0),
  (13, .bipush 30, 15, 0, 0, 0, (30), 0),
  (15, .iload_n 1, 16, 1, 0, 0, 0, 0),
  (16, .imul, 17, 0, 0, 0, 0, 0),
  (17, .iload_n 2, 18, 2, 0, 0, 0, 0),
  (18, .iadd, 19, 0, 0, 0, 0, 0),
  (19, .iaload, 20, 0, 0, 0, 0, 0),
  (20, .iconst 1, 21, 0, 0, 0, (1), 0),
  (21, .if_icmp .ne 7, 24, 28, 0, 0, 0, 0),
  (24, .iconst 1, 25, 0, 0, 0, (1), 0),
  (25, .goto 4, 28, 29, 0, 0, 0, 0),
  (28, .iconst 0, 29, 0, 0, 0, (0), 0),
  (29, .ireturn, 30, 0, 0, 1, 0, 0)]
def MX7_isCross : mI := (7, ⟨"CornerFrontsModel", "isCross", "(II)Z"⟩, prog_9_method_38_code, 3, (some (.boolean)), oX7_isCross)
def oX7_sign : List (Nat × mE) := [(0, .aload_n 0, 1, 0, 0, 0, 0, 0),
  (1, .iload_n 1, 2, 1, 0, 0, 0, 0),
  (2, .iload_n 2, 3, 2, 0, 0, 0, 0),
  (3, .invokevirtual 189, 6, 147, 2, 7, 0, 0),
  (6, .ifCond .ne 5, 9, 11, 0, 0, 0, 0),
  (9, .iconst (-1), 10, 0, 0, 0, (-1), 0),
  (10, .ireturn, 11, 0, 0, 0, 0, 0),
  (11, .aload_n 0, 12, 0, 0, 0, 0, 0),
  (12, .iload_n 1, 13, 1, 0, 0, 0, 0),
  (13, .invokevirtual 174, 16, 139, 1, 7, 0, 0),
  (16, .aload_n 0, 17, 0, 0, 0, 0, 0),
  (17, .iload_n 1, 18, 1, 0, 0, 0, 0),
  (18, .iload_n 2, 19, 2, 0, 0, 0, 0),
  (19, .invokevirtual 177, 22, 141, 2, 7, 0, 0),
  (22, .ifCond .eq 7, 25, 29, 0, 0, 0, 0),
  (25, .iconst 1, 26, 0, 0, 0, (1), 0),
  (26, .goto 4, 29, 30, 0, 0, 0, 0),
  (29, .iconst 0, 30, 0, 0, 0, (0), 0),
  (30, .ireturn, 31, 0, 0, 0, 0, 0)]
def MX7_sign : mI := (7, ⟨"CornerFrontsModel", "sign", "(II)I"⟩, prog_9_method_39_code, 3, (some (.int)), oX7_sign)
def oX7_degreeOf : List (Nat × mE) := [(0, .aload_n 0, 1, 0, 0, 0, 0, 0),
  (1, .getfield 16, 4, 7, 3, 0, 0, 0),
  (4, .bipush 30, 6, 0, 0, 0, (30), 0),
  (6, .iload_n 1, 7, 1, 0, 0, 0, 0),
  (7, .imul, 8, 0, 0, 0, 0, 0),
  (8, .iload_n 2, 9, 2, 0, 0, 0, 0),
  (9, .iadd, 10, 0, 0, 0, 0, 0),
  (10, .iaload, 11, 0, 0, 0, 0, 0),
  (11, .istore_n 3, 12, 3, 0, 0, 0, 0),
  (12, .aload_n 0, 13, 0, 0, 0, 0, 0),
  (13, .getfield 43, 16, 7, 23, 0, 0, 0),
  (16, .bipush 10, 18, 0, 0, 0, (10), 0),
  (18, .iload_n 2, 19, 2, 0, 0, 0, 0),
  (19, .imul, 20, 0, 0, 0, 0, 0),
  (20, .iload_n 3, 21, 3, 0, 0, 0, 0),
  (21, .iadd, 22, 0, 0, 0, 0, 0),
  (22, .iconst 1, 23, 0, 0, 0, (1), 0),
  (23, .iadd, 24, 0, 0, 0, 0, 0),
  (24, .iaload, 25, 0, 0, 0, 0, 0),
  (25, .aload_n 0, 26, 0, 0, 0, 0, 0),
  (26, .getfield 43, 29, 7, 23, 0, 0, 0),
  (29, .bipush 10, 31, 0, 0, 0, (10), 0),
  (31, .iload_n 2, 32, 2, 0, 0, 0, 0),
  (32, .imul, 33, 0, 0, 0, 0, 0),
  (33, .iload_n 3, 34, 3, 0, 0, 0, 0),
  (34, .iadd, 35, 0, 0, 0, 0, 0),
  (35, .iaload, 36, 0, 0, 0, 0, 0),
  (36, .isub, 37, 0, 0, 0, 0, 0),
  (37, .istore 4, 39, 4, 0, 0, 0, 0),
  (39, .aload_n 0, 40, 0, 0, 0, 0, 0),
  (40, .getfield 52, 43, 7, 27, 0, 0, 0),
  (43, .iconst 0, 44, 0, 0, 0, (0), 0),
  (44, .iaload, 45, 0, 0, 0, 0, 0),
  (45, .aload_n 0, 46, 0, 0, 0, 0, 0),
  (46, .getfield 49, 49, 7, 26, 0, 0, 0),
  (49, .iconst 0, 50, 0, 0, 0, (0), 0),
  (50, .iaload, 51, 0, 0, 0, 0, 0),
  (51, .if_icmp .le 19, 54, 70, 0, 0, 0, 0),
  (54, .aload_n 0, 55, 0, 0, 0, 0, 0),
  (55, .getfield 52, 58, 7, 27, 0, 0, 0),
  (58, .iconst 0, 59, 0, 0, 0, (0), 0),
  (59, .iaload, 60, 0, 0, 0, 0, 0),
  (60, .aload_n 0, 61, 0, 0, 0, 0, 0),
  (61, .getfield 49, 64, 7, 26, 0, 0, 0),
  (64, .iconst 0, 65, 0, 0, 0, (0), 0),
  (65, .iaload, 66, 0, 0, 0, 0, 0),
  (66, .isub, 67, 0, 0, 0, 0, 0),
  (67, .goto 16, 70, 83, 0, 0, 0, 0),
  (70, .aload_n 0, 71, 0, 0, 0, 0, 0),
  (71, .getfield 49, 74, 7, 26, 0, 0, 0),
  (74, .iconst 0, 75, 0, 0, 0, (0), 0),
  (75, .iaload, 76, 0, 0, 0, 0, 0),
  (76, .aload_n 0, 77, 0, 0, 0, 0, 0),
  (77, .getfield 52, 80, 7, 27, 0, 0, 0),
  (80, .iconst 0, 81, 0, 0, 0, (0), 0),
  (81, .iaload, 82, 0, 0, 0, 0, 0),
  (82, .isub, 83, 0, 0, 0, 0, 0),
  (83, .istore 5, 85, 5, 0, 0, 0, 0),
  (85, .iload 5, 87, 5, 0, 0, 0, 0),
  (87, .ifCond .ne 6, 90, 93, 0, 0, 0, 0),
  (90, .iload 4, 92, 4, 0, 0, 0, 0),
  (92, .ireturn, 93, 0, 0, 0, 0, 0),
  (93, .iload 4, 95, 4, 0, 0, 0, 0),
  (95, .iload 5, 97, 5, 0, 0, 0, 0),
  (97, .irem, 98, 0, 0, 0, 0, 0),
  (98, .istore 6, 100, 6, 0, 0, 0, 0),
  (100, .iload 6, 102, 6, 0, 0, 0, 0),
  (102, .ifCond .ge 11, 105, 113, 0, 0, 0, 0),
  (105, .iload 6, 107, 6, 0, 0, 0, 0),
  (107, .iload 5, 109, 5, 0, 0, 0, 0),
  (109, .iadd, 110, 0, 0, 0, 0, 0),
  (110, .goto 5, 113, 115, 0, 0, 0, 0),
  (113, .iload 6, 115, 6, 0, 0, 0, 0),
  (115, .ireturn, 116, 0, 0, 0, 0, 0)]
def MX7_degreeOf : mI := (7, ⟨"CornerFrontsModel", "degreeOf", "(II)I"⟩, prog_9_method_40_code, 7, (some (.int)), oX7_degreeOf)
def oX7_degree : List (Nat × mE) := [(0, .aload_n 0, 1, 0, 0, 0, 0, 0),
  (1, .iload_n 1, 2, 1, 0, 0, 0, 0),
  (2, .iload_n 2, 3, 2, 0, 0, 0, 0),
  (3, .invokevirtual 189, 6, 147, 2, 7, 0, 0),
  (6, .ifCond .ne 7, 9, 13, 0, 0, 0, 0),
  (9, .sipush (-1000), 12, 0, 0, 0, (-1000), 0),
  (12, .ireturn, 13, 0, 0, 0, 0, 0),
  (13, .aload_n 0, 14, 0, 0, 0, 0, 0),
  (14, .iload_n 1, 15, 1, 0, 0, 0, 0),
  (15, .invokevirtual 174, 18, 139, 1, 7, 0, 0),
  (18, .aload_n 0, 19, 0, 0, 0, 0, 0),
  (19, .getfield 166, 22, 7, 24, 0, 0, 0),
  (22, .iconst 1, 23, 0, 0, 0, (1), 0),
  (23, .if_icmp .le 9, 26, 32, 0, 0, 0, 0),
  (26, .sipush (-1002), 29, 0, 0, 0, (-1002), 0),
  (29, .goto 9, 32, 38, 0, 0, 0, 0),
  (32, .aload_n 0, 33, 0, 0, 0, 0, 0),
  (33, .iload_n 1, 34, 1, 0, 0, 0, 0),
  (34, .iload_n 2, 35, 2, 0, 0, 0, 0),
  (35, .invokevirtual 192, 38, 149, 2, 7, 0, 0),
  (38, .ireturn, 39, 0, 0, 0, 0, 0)]
def MX7_degree : mI := (7, ⟨"CornerFrontsModel", "degree", "(II)I"⟩, prog_9_method_41_code, 3, (some (.int)), oX7_degree)
def oX7_layMay : List (Nat × mE) := [(0, .iconst 0, 1, 0, 0, 0, (0), 0),
  (1, .istore_n 3, 2, 3, 0, 0, 0, 0),
  (2, .iload_n 3, 3, 3, 0, 0, 0, 0),
  (3, .aload_n 0, 4, 0, 0, 0, 0, 0),
  (4, .getfield 7, 7, 7, 1, 0, 0, 0),
  (7, .iload_n 1, 8, 1, 0, 0, 0, 0),
  (8, .iaload, 9, 0, 0, 0, 0, 0),
  (9, .if_icmp .ge 65, 12, 74, 0, 0, 0, 0),
  (12, .aload_n 0, 13, 0, 0, 0, 0, 0),
  (13, .getfield 58, 16, 7, 29, 0, 0, 0),
  (16, .iload_n 3, 17, 3, 0, 0, 0, 0),
  (17, .aload_n 0, 18, 0, 0, 0, 0, 0),
  (18, .getfield 13, 21, 7, 2, 0, 0, 0),
  (21, .bipush 30, 23, 0, 0, 0, (30), 0),
  (23, .iload_n 1, 24, 1, 0, 0, 0, 0),
  (24, .imul, 25, 0, 0, 0, 0, 0),
  (25, .iload_n 3, 26, 3, 0, 0, 0, 0),
  (26, .iadd, 27, 0, 0, 0, 0, 0),
  (27, .iaload, 28, 0, 0, 0, 0, 0),
  (28, .iconst 1, 29, 0, 0, 0, (1), 0),
  (29, .if_icmp .ne 37, 32, 66, 0, 0, 0, 0),
  (32, .iload_n 2, 33, 2, 0, 0, 0, 0),
  (33, .ifCond .eq 29, 36, 62, 0, 0, 0, 0),
  (36, .iload_n 2, 37, 2, 0, 0, 0, 0),
  (37, .iconst 1, 38, 0, 0, 0, (1), 0),
  (38, .if_icmp .ne 15, 41, 53, 0, 0, 0, 0),
  (41, .aload_n 0, 42, 0, 0, 0, 0, 0),
  (42, .iload_n 1, 43, 1, 0, 0, 0, 0),
  (43, .iload_n 3, 44, 3, 0, 0, 0, 0),
  (44, .invokevirtual 177, 47, 141, 2, 7, 0, 0),
  (47, .ifCond .eq 19, 50, 66, 0, 0, 0, 0),
  (50, .goto 12, 53, 62, 0, 0, 0, 0),
  (53, .aload_n 0, 54, 0, 0, 0, 0, 0),
  (54, .iload_n 1, 55, 1, 0, 0, 0, 0),
  (55, .iload_n 3, 56, 3, 0, 0, 0, 0),
  (56, .invokevirtual 192, 59, 149, 2, 7, 0, 0),
  (59, .ifCond .ne 7, 62, 66, 0, 0, 0, 0),
  (62, .iconst 1, 63, 0, 0, 0, (1), 0),
  (63, .goto 4, 66, 67, 0, 0, 0, 0),
  (66, .iconst 0, 67, 0, 0, 0, (0), 0),
  (67, .bastore, 68, 2, 0, 0, 0, 0),
  (68, .iinc 3 1, 71, 3, 0, 0, (1), 0),
  (71, .goto (-69), 74, 2, 0, 0, 0, 0),
  (74, .return_, 75, 0, 0, 0, 0, 0)]
def MX7_layMay : mI := (7, ⟨"CornerFrontsModel", "layMay", "(II)V"⟩, prog_9_method_42_code, 4, none, oX7_layMay)
def oX7_isMixed : List (Nat × mE) := [(0, .iload_n 0, 1, 0, 0, 0, 0, 0),
  (1, .iload_n 1, 2, 1, 0, 0, 0, 0),
  (2, .if_icmp .ge 7, 5, 9, 0, 0, 0, 0),
  (5, .iload_n 0, 6, 0, 0, 0, 0, 0),
  (6, .goto 4, 9, 10, 0, 0, 0, 0),
  (9, .iload_n 1, 10, 1, 0, 0, 0, 0),
  (10, .istore 4, 12, 4, 0, 0, 0, 0),
  (12, .iload_n 0, 13, 0, 0, 0, 0, 0),
  (13, .iload_n 1, 14, 1, 0, 0, 0, 0),
  (14, .if_icmp .ge 7, 17, 21, 0, 0, 0, 0),
  (17, .iload_n 1, 18, 1, 0, 0, 0, 0),
  (18, .goto 4, 21, 22, 0, 0, 0, 0),
  (21, .iload_n 0, 22, 0, 0, 0, 0, 0),
  (22, .istore 5, 24, 5, 0, 0, 0, 0),
  (24, .iload_n 2, 25, 2, 0, 0, 0, 0),
  (25, .iload 4, 27, 4, 0, 0, 0, 0),
  (27, .if_icmp .le 13, 30, 40, 0, 0, 0, 0),
  (30, .iload_n 2, 31, 2, 0, 0, 0, 0),
  (31, .iload 5, 33, 5, 0, 0, 0, 0),
  (33, .if_icmp .ge 7, 36, 40, 0, 0, 0, 0),
  (36, .iconst 1, 37, 0, 0, 0, (1), 0),
  (37, .goto 4, 40, 41, 0, 0, 0, 0),
  (40, .iconst 0, 41, 0, 0, 0, (0), 0),
  (41, .iload_n 3, 42, 3, 0, 0, 0, 0),
  (42, .iload 4, 44, 4, 0, 0, 0, 0),
  (44, .if_icmp .le 13, 47, 57, 0, 0, 0, 0),
  (47, .iload_n 3, 48, 3, 0, 0, 0, 0),
  (48, .iload 5, 50, 5, 0, 0, 0, 0),
  (50, .if_icmp .ge 7, 53, 57, 0, 0, 0, 0),
  (53, .iconst 1, 54, 0, 0, 0, (1), 0),
  (54, .goto 4, 57, 58, 0, 0, 0, 0),
  (57, .iconst 0, 58, 0, 0, 0, (0), 0),
  (58, .if_icmp .eq 7, 61, 65, 0, 0, 0, 0),
  (61, .iconst 1, 62, 0, 0, 0, (1), 0),
  (62, .goto 4, 65, 66, 0, 0, 0, 0),
  (65, .iconst 0, 66, 0, 0, 0, (0), 0),
  (66, .ireturn, 67, 0, 0, 1, 0, 0)]
def MX7_isMixed : mI := (7, ⟨"CornerFrontsModel", "isMixed", "(IIII)Z"⟩, prog_9_method_43_code, 6, (some (.boolean)), oX7_isMixed)
def oX7_crossed : List (Nat × mE) := [(0, .aload_n 0, 1, 0, 0, 0, 0, 0),
  (1, .getfield 55, 4, 7, 28, 0, 0, 0),
  (4, .iload_n 1, 5, 1, 0, 0, 0, 0),
  (5, .iaload, 6, 0, 0, 0, 0, 0),
  (6, .istore_n 3, 7, 3, 0, 0, 0, 0),
  (7, .aload_n 0, 8, 0, 0, 0, 0, 0),
  (8, .getfield 55, 11, 7, 28, 0, 0, 0),
  (11, .iload_n 1, 12, 1, 0, 0, 0, 0),
  (12, .iconst 1, 13, 0, 0, 0, (1), 0),
  (13, .iadd, 14, 0, 0, 0, 0, 0),
  (14, .iaload, 15, 0, 0, 0, 0, 0),
  (15, .istore 4, 17, 4, 0, 0, 0, 0),
  (17, .iload_n 3, 18, 3, 0, 0, 0, 0),
  (18, .iload_n 1, 19, 1, 0, 0, 0, 0),
  (19, .iconst 1, 20, 0, 0, 0, (1), 0),
  (20, .iadd, 21, 0, 0, 0, 0, 0),
  (21, .if_icmp .ne 5, 24, 26, 0, 0, 0, 0),
  (24, .iconst 0, 25, 0, 0, 0, (0), 0),
  (25, .ireturn, 26, 0, 0, 1, 0, 0),
  (26, .iload_n 2, 27, 2, 0, 0, 0, 0),
  (27, .ifCond .eq 22, 30, 49, 0, 0, 0, 0),
  (30, .iload_n 1, 31, 1, 0, 0, 0, 0),
  (31, .iload_n 3, 32, 3, 0, 0, 0, 0),
  (32, .iload_n 1, 33, 1, 0, 0, 0, 0),
  (33, .iconst 1, 34, 0, 0, 0, (1), 0),
  (34, .iadd, 35, 0, 0, 0, 0, 0),
  (35, .iload 4, 37, 4, 0, 0, 0, 0),
  (37, .invokestatic 195, 40, 152, 4, 7, 0, 0),
  (40, .ifCond .ne 7, 43, 47, 0, 0, 0, 0),
  (43, .iconst 1, 44, 0, 0, 0, (1), 0),
  (44, .goto 4, 47, 48, 0, 0, 0, 0),
  (47, .iconst 0, 48, 0, 0, 0, (0), 0),
  (48, .ireturn, 49, 0, 0, 1, 0, 0),
  (49, .aload_n 0, 50, 0, 0, 0, 0, 0),
  (50, .getfield 55, 53, 7, 28, 0, 0, 0),
  (53, .iload_n 1, 54, 1, 0, 0, 0, 0),
  (54, .iload 4, 56, 4, 0, 0, 0, 0),
  (56, .iastore, 57, 0, 0, 0, 0, 0),
  (57, .aload_n 0, 58, 0, 0, 0, 0, 0),
  (58, .getfield 55, 61, 7, 28, 0, 0, 0),
  (61, .iload 4, 63, 4, 0, 0, 0, 0),
  (63, .iload_n 1, 64, 1, 0, 0, 0, 0),
  (64, .iastore, 65, 0, 0, 0, 0, 0),
  (65, .aload_n 0, 66, 0, 0, 0, 0, 0),
  (66, .getfield 55, 69, 7, 28, 0, 0, 0),
  (69, .iload_n 1, 70, 1, 0, 0, 0, 0),
  (70, .iconst 1, 71, 0, 0, 0, (1), 0),
  (71, .iadd, 72, 0, 0, 0, 0, 0),
  (72, .iload_n 3, 73, 3, 0, 0, 0, 0),
  (73, .iastore, 74, 0, 0, 0, 0, 0),
  (74, .aload_n 0, 75, 0, 0, 0, 0, 0),
  (75, .getfield 55, 78, 7, 28, 0, 0, 0),
  (78, .iload_n 3, 79, 3, 0, 0, 0, 0),
  (79, .iload_n 1, 80, 1, 0, 0, 0, 0),
  (80, .iconst 1, 81, 0, 0, 0, (1), 0),
  (81, .iadd, 82, 0, 0, 0, 0, 0),
  (82, .iastore, 83, 0, 0, 0, 0, 0),
  (83, .iconst 1, 84, 0, 0, 0, (1), 0),
  (84, .ireturn, 85, 0, 0, 1, 0, 0)]
def MX7_crossed : mI := (7, ⟨"CornerFrontsModel", "crossed", "(IZ)Z"⟩, prog_9_method_44_code, 5, (some (.boolean)), oX7_crossed)
def oX7_born : List (Nat × mE) := [(0, .iload_n 2, 1, 2, 0, 0, 0, 0),
  (1, .iconst 1, 2, 0, 0, 0, (1), 0),
  (2, .isub, 3, 0, 0, 0, 0, 0),
  (3, .istore_n 3, 4, 3, 0, 0, 0, 0),
  (4, .iload_n 3, 5, 3, 0, 0, 0, 0),
  (5, .ifCond .lt 57, 8, 62, 0, 0, 0, 0),
  (8, .aload_n 0, 9, 0, 0, 0, 0, 0),
  (9, .getfield 55, 12, 7, 28, 0, 0, 0),
  (12, .iload_n 3, 13, 3, 0, 0, 0, 0),
  (13, .iaload, 14, 0, 0, 0, 0, 0),
  (14, .iload_n 1, 15, 1, 0, 0, 0, 0),
  (15, .if_icmp .lt 14, 18, 29, 0, 0, 0, 0),
  (18, .aload_n 0, 19, 0, 0, 0, 0, 0),
  (19, .getfield 55, 22, 7, 28, 0, 0, 0),
  (22, .iload_n 3, 23, 3, 0, 0, 0, 0),
  (23, .iaload, 24, 0, 0, 0, 0, 0),
  (24, .iconst 2, 25, 0, 0, 0, (2), 0),
  (25, .iadd, 26, 0, 0, 0, 0, 0),
  (26, .goto 9, 29, 35, 0, 0, 0, 0),
  (29, .aload_n 0, 30, 0, 0, 0, 0, 0),
  (30, .getfield 55, 33, 7, 28, 0, 0, 0),
  (33, .iload_n 3, 34, 3, 0, 0, 0, 0),
  (34, .iaload, 35, 0, 0, 0, 0, 0),
  (35, .istore 4, 37, 4, 0, 0, 0, 0),
  (37, .aload_n 0, 38, 0, 0, 0, 0, 0),
  (38, .getfield 55, 41, 7, 28, 0, 0, 0),
  (41, .iload_n 3, 42, 3, 0, 0, 0, 0),
  (42, .iload_n 1, 43, 1, 0, 0, 0, 0),
  (43, .if_icmp .lt 9, 46, 52, 0, 0, 0, 0),
  (46, .iload_n 3, 47, 3, 0, 0, 0, 0),
  (47, .iconst 2, 48, 0, 0, 0, (2), 0),
  (48, .iadd, 49, 0, 0, 0, 0, 0),
  (49, .goto 4, 52, 53, 0, 0, 0, 0),
  (52, .iload_n 3, 53, 3, 0, 0, 0, 0),
  (53, .iload 4, 55, 4, 0, 0, 0, 0),
  (55, .iastore, 56, 0, 0, 0, 0, 0),
  (56, .iinc 3 (-1), 59, 3, 0, 0, (-1), 0),
  (59, .goto (-55), 62, 4, 0, 0, 0, 0),
  (62, .aload_n 0, 63, 0, 0, 0, 0, 0),
  (63, .getfield 55, 66, 7, 28, 0, 0, 0),
  (66, .iload_n 1, 67, 1, 0, 0, 0, 0),
  (67, .iload_n 1, 68, 1, 0, 0, 0, 0),
  (68, .iconst 1, 69, 0, 0, 0, (1), 0),
  (69, .iadd, 70, 0, 0, 0, 0, 0),
  (70, .iastore, 71, 0, 0, 0, 0, 0),
  (71, .aload_n 0, 72, 0, 0, 0, 0, 0),
  (72, .getfield 55, 75, 7, 28, 0, 0, 0),
  (75, .iload_n 1, 76, 1, 0, 0, 0, 0),
  (76, .iconst 1, 77, 0, 0, 0, (1), 0),
  (77, .iadd, 78, 0, 0, 0, 0, 0),
  (78, .iload_n 1, 79, 1, 0, 0, 0, 0),
  (79, .iastore, 80, 0, 0, 0, 0, 0),
  (80, .return_, 81, 0, 0, 0, 0, 0)]
def MX7_born : mI := (7, ⟨"CornerFrontsModel", "born", "(II)V"⟩, prog_9_method_45_code, 5, none, oX7_born)
def oX7_dies : List (Nat × mE) := [(0, .aload_n 0, 1, 0, 0, 0, 0, 0),
  (1, .getfield 55, 4, 7, 28, 0, 0, 0),
  (4, .iload_n 1, 5, 1, 0, 0, 0, 0),
  (5, .iaload, 6, 0, 0, 0, 0, 0),
  (6, .iload_n 1, 7, 1, 0, 0, 0, 0),
  (7, .iconst 1, 8, 0, 0, 0, (1), 0),
  (8, .iadd, 9, 0, 0, 0, 0, 0),
  (9, .if_icmp .eq 5, 12, 14, 0, 0, 0, 0),
  (12, .iconst 0, 13, 0, 0, 0, (0), 0),
  (13, .ireturn, 14, 0, 0, 1, 0, 0),
  (14, .iconst 0, 15, 0, 0, 0, (0), 0),
  (15, .istore_n 3, 16, 3, 0, 0, 0, 0),
  (16, .iload_n 3, 17, 3, 0, 0, 0, 0),
  (17, .iload_n 2, 18, 2, 0, 0, 0, 0),
  (18, .if_icmp .ge 69, 21, 87, 0, 0, 0, 0),
  (21, .iload_n 3, 22, 3, 0, 0, 0, 0),
  (22, .iload_n 1, 23, 1, 0, 0, 0, 0),
  (23, .if_icmp .lt 10, 26, 33, 0, 0, 0, 0),
  (26, .iload_n 3, 27, 3, 0, 0, 0, 0),
  (27, .iload_n 1, 28, 1, 0, 0, 0, 0),
  (28, .iconst 1, 29, 0, 0, 0, (1), 0),
  (29, .iadd, 30, 0, 0, 0, 0, 0),
  (30, .if_icmp .le 51, 33, 81, 0, 0, 0, 0),
  (33, .aload_n 0, 34, 0, 0, 0, 0, 0),
  (34, .getfield 55, 37, 7, 28, 0, 0, 0),
  (37, .iload_n 3, 38, 3, 0, 0, 0, 0),
  (38, .iaload, 39, 0, 0, 0, 0, 0),
  (39, .iload_n 1, 40, 1, 0, 0, 0, 0),
  (40, .if_icmp .le 14, 43, 54, 0, 0, 0, 0),
  (43, .aload_n 0, 44, 0, 0, 0, 0, 0),
  (44, .getfield 55, 47, 7, 28, 0, 0, 0),
  (47, .iload_n 3, 48, 3, 0, 0, 0, 0),
  (48, .iaload, 49, 0, 0, 0, 0, 0),
  (49, .iconst 2, 50, 0, 0, 0, (2), 0),
  (50, .isub, 51, 0, 0, 0, 0, 0),
  (51, .goto 9, 54, 60, 0, 0, 0, 0),
  (54, .aload_n 0, 55, 0, 0, 0, 0, 0),
  (55, .getfield 55, 58, 7, 28, 0, 0, 0),
  (58, .iload_n 3, 59, 3, 0, 0, 0, 0),
  (59, .iaload, 60, 0, 0, 0, 0, 0),
  (60, .istore 4, 62, 4, 0, 0, 0, 0),
  (62, .aload_n 0, 63, 0, 0, 0, 0, 0),
  (63, .getfield 55, 66, 7, 28, 0, 0, 0),
  (66, .iload_n 3, 67, 3, 0, 0, 0, 0),
  (67, .iload_n 1, 68, 1, 0, 0, 0, 0),
  (68, .if_icmp .le 9, 71, 77, 0, 0, 0, 0),
  (71, .iload_n 3, 72, 3, 0, 0, 0, 0),
  (72, .iconst 2, 73, 0, 0, 0, (2), 0),
  (73, .isub, 74, 0, 0, 0, 0, 0),
  (74, .goto 4, 77, 78, 0, 0, 0, 0),
  (77, .iload_n 3, 78, 3, 0, 0, 0, 0),
  (78, .iload 4, 80, 4, 0, 0, 0, 0),
  (80, .iastore, 81, 0, 0, 0, 0, 0),
  (81, .iinc 3 1, 84, 3, 0, 0, (1), 0),
  (84, .goto (-68), 87, 16, 0, 0, 0, 0),
  (87, .iconst 1, 88, 0, 0, 0, (1), 0),
  (88, .ireturn, 89, 0, 0, 1, 0, 0)]
def MX7_dies : mI := (7, ⟨"CornerFrontsModel", "dies", "(II)Z"⟩, prog_9_method_46_code, 5, (some (.boolean)), oX7_dies)
def oX7_ruled : List (Nat × mE) := [(0, .iconst 0, 1, 0, 0, 0, (0), 0),
  (1, .istore 4, 3, 4, 0, 0, 0, 0),
  (3, .iconst 0, 4, 0, 0, 0, (0), 0),
  (4, .istore 5, 6, 5, 0, 0, 0, 0),
  (6, .iconst 0, 7, 0, 0, 0, (0), 0),
  (7, .istore 6, 9, 6, 0, 0, 0, 0),
  (9, .iconst 0, 10, 0, 0, 0, (0), 0),
  (10, .istore 7, 12, 7, 0, 0, 0, 0),
  (12, .iload 7, 14, 7, 0, 0, 0, 0),
  (14, .aload_n 0, 15, 0, 0, 0, 0, 0),
  (15, .getfield 7, 18, 7, 1, 0, 0, 0),
  (18, .iload_n 1, 19, 1, 0, 0, 0, 0),
  (19, .iaload, 20, 0, 0, 0, 0, 0),
  (20, .if_icmp .ge 165, 23, 185, 0, 0, 0, 0),
  (23, .aload_n 0, 24, 0, 0, 0, 0, 0),
  (24, .getfield 16, 27, 7, 3, 0, 0, 0),
  (27, .bipush 30, 29, 0, 0, 0, (30), 0),
  (29, .iload_n 1, 30, 1, 0, 0, 0, 0),
  (30, .imul, 31, 0, 0, 0, 0, 0),
  (31, .iload 7, 33, 7, 0, 0, 0, 0),
  (33, .iadd, 34, 0, 0, 0, 0, 0),
  (34, .iaload, 35, 0, 0, 0, 0, 0),
  (35, .istore 8, 37, 8, 0, 0, 0, 0),
  (37, .aload_n 0, 38, 0, 0, 0, 0, 0),
  (38, .getfield 13, 41, 7, 2, 0, 0, 0),
  (41, .bipush 30, 43, 0, 0, 0, (30), 0),
  (43, .iload_n 1, 44, 1, 0, 0, 0, 0),
  (44, .imul, 45, 0, 0, 0, 0, 0),
  (45, .iload 7, 47, 7, 0, 0, 0, 0),
  (47, .iadd, 48, 0, 0, 0, 0, 0),
  (48, .iaload, 49, 0, 0, 0, 0, 0),
  (49, .istore 9, 51, 9, 0, 0, 0, 0),
  (51, .iconst 1, 52, 0, 0, 0, (1), 0),
  (52, .istore 10, 54, 10, 0, 0, 0, 0),
  (54, .iload 9, 56, 9, 0, 0, 0, 0),
  (56, .ifCond .ne 14, 59, 70, 0, 0, 0, 0),
  (59, .aload_n 0, 60, 0, 0, 0, 0, 0),
  (60, .iload 8, 62, 8, 0, 0, 0, 0),
  (62, .iload 4, 64, 4, 0, 0, 0, 0),
  (64, .invokevirtual 199, 67, 154, 2, 7, 0, 0),
  (67, .goto 94, 70, 161, 0, 0, 0, 0),
  (70, .iload 9, 72, 9, 0, 0, 0, 0),
  (72, .iconst 2, 73, 0, 0, 0, (2), 0),
  (73, .if_icmp .ne 16, 76, 89, 0, 0, 0, 0),
  (76, .aload_n 0, 77, 0, 0, 0, 0, 0),
  (77, .iload 8, 79, 8, 0, 0, 0, 0),
  (79, .iload 4, 81, 4, 0, 0, 0, 0),
  (81, .invokevirtual 202, 84, 155, 2, 7, 0, 0),
  (84, .istore 10, 86, 10, 0, 0, 0, 0),
  (86, .goto 75, 89, 161, 0, 0, 0, 0),
  (89, .iload_n 2, 90, 2, 0, 0, 0, 0),
  (90, .iload_n 3, 91, 3, 0, 0, 0, 0),
  (91, .iconst 1, 92, 0, 0, 0, (1), 0),
  (92, .isub, 93, 0, 0, 0, 0, 0),
  (93, .iload 5, 95, 5, 0, 0, 0, 0),
  (95, .isub, 96, 0, 0, 0, 0, 0),
  (96, .ishr, 97, 0, 0, 0, 0, 0),
  (97, .iconst 1, 98, 0, 0, 0, (1), 0),
  (98, .iand, 99, 0, 0, 0, 0, 0),
  (99, .iconst 1, 100, 0, 0, 0, (1), 0),
  (100, .if_icmp .ne 7, 103, 107, 0, 0, 0, 0),
  (103, .iconst 1, 104, 0, 0, 0, (1), 0),
  (104, .goto 4, 107, 108, 0, 0, 0, 0),
  (107, .iconst 0, 108, 0, 0, 0, (0), 0),
  (108, .istore 11, 110, 11, 0, 0, 0, 0),
  (110, .iload 11, 112, 11, 0, 0, 0, 0),
  (112, .ifCond .eq 13, 115, 125, 0, 0, 0, 0),
  (115, .aload_n 0, 116, 0, 0, 0, 0, 0),
  (116, .getfield 58, 119, 7, 29, 0, 0, 0),
  (119, .iload 7, 121, 7, 0, 0, 0, 0),
  (121, .baload, 122, 2, 0, 0, 0, 0),
  (122, .ifCond .eq 18, 125, 140, 0, 0, 0, 0),
  (125, .aload_n 0, 126, 0, 0, 0, 0, 0),
  (126, .iload 8, 128, 8, 0, 0, 0, 0),
  (128, .iload 11, 130, 11, 0, 0, 0, 0),
  (130, .invokevirtual 205, 133, 153, 2, 7, 0, 0),
  (133, .ifCond .eq 7, 136, 140, 0, 0, 0, 0),
  (136, .iconst 1, 137, 0, 0, 0, (1), 0),
  (137, .goto 4, 140, 141, 0, 0, 0, 0),
  (140, .iconst 0, 141, 0, 0, 0, (0), 0),
  (141, .istore 10, 143, 10, 0, 0, 0, 0),
  (143, .iload 6, 145, 6, 0, 0, 0, 0),
  (145, .iload 11, 147, 11, 0, 0, 0, 0),
  (147, .ifCond .eq 7, 150, 154, 0, 0, 0, 0),
  (150, .iconst 1, 151, 0, 0, 0, (1), 0),
  (151, .goto 4, 154, 155, 0, 0, 0, 0),
  (154, .iconst 0, 155, 0, 0, 0, (0), 0),
  (155, .iadd, 156, 0, 0, 0, 0, 0),
  (156, .istore 6, 158, 6, 0, 0, 0, 0),
  (158, .iinc 5 1, 161, 5, 0, 0, (1), 0),
  (161, .iload 10, 163, 10, 0, 0, 0, 0),
  (163, .ifCond .ne 6, 166, 169, 0, 0, 0, 0),
  (166, .bipush (-4), 168, 0, 0, 0, (-4), 0),
  (168, .ireturn, 169, 0, 0, 0, 0, 0),
  (169, .iload 4, 171, 4, 0, 0, 0, 0),
  (171, .iload 9, 173, 9, 0, 0, 0, 0),
  (173, .invokestatic 85, 176, 119, 1, 7, 0, 0),
  (176, .iadd, 177, 0, 0, 0, 0, 0),
  (177, .istore 4, 179, 4, 0, 0, 0, 0),
  (179, .iinc 7 1, 182, 7, 0, 0, (1), 0),
  (182, .goto (-170), 185, 12, 0, 0, 0, 0),
  (185, .iload 6, 187, 6, 0, 0, 0, 0),
  (187, .ireturn, 188, 0, 0, 0, 0, 0)]
def MX7_ruled : mI := (7, ⟨"CornerFrontsModel", "ruled", "(III)I"⟩, prog_9_method_47_code, 12, (some (.int)), oX7_ruled)
def oX7_rulings : List (Nat × mE) := [(0, .aload_n 0, 1, 0, 0, 0, 0, 0),
  (1, .iload_n 1, 2, 1, 0, 0, 0, 0),
  (2, .invokevirtual 70, 5, 113, 1, 7, 0, 0),
  (5, .ifCond .eq 20, 8, 25, 0, 0, 0, 0),
  (8, .iload_n 2, 9, 2, 0, 0, 0, 0),
  (9, .i2l, 10, 0, 0, 0, 0, 0),
  (10, .lconst 0, 11, 0, 0, 0, 0, 0),
  (11, .ldc2_w 151, 14, 0, 0, 0, 0, (2)),
  (14, .invokestatic 66, 17, 112, 3, 7, 0, 0),
  (17, .ifCond .eq 8, 20, 25, 0, 0, 0, 0),
  (20, .iload_n 3, 21, 3, 0, 0, 0, 0),
  (21, .iconst (-1), 22, 0, 0, 0, (-1), 0),
  (22, .if_icmp .ge 5, 25, 27, 0, 0, 0, 0),
  (25, .iconst (-1), 26, 0, 0, 0, (-1), 0),
  (26, .ireturn, 27, 0, 0, 0, 0, 0),
  (27, .aload_n 0, 28, 0, 0, 0, 0, 0),
  (28, .iload_n 1, 29, 1, 0, 0, 0, 0),
  (29, .invokevirtual 174, 32, 139, 1, 7, 0, 0),
  (32, .iload_n 2, 33, 2, 0, 0, 0, 0),
  (33, .iconst 2, 34, 0, 0, 0, (2), 0),
  (34, .if_icmp .ne 14, 37, 48, 0, 0, 0, 0),
  (37, .aload_n 0, 38, 0, 0, 0, 0, 0),
  (38, .getfield 166, 41, 7, 24, 0, 0, 0),
  (41, .iconst 1, 42, 0, 0, 0, (1), 0),
  (42, .if_icmp .le 6, 45, 48, 0, 0, 0, 0),
  (45, .bipush (-2), 47, 0, 0, 0, (-2), 0),
  (47, .ireturn, 48, 0, 0, 0, 0, 0),
  (48, .aload_n 0, 49, 0, 0, 0, 0, 0),
  (49, .iload_n 1, 50, 1, 0, 0, 0, 0),
  (50, .iload_n 2, 51, 2, 0, 0, 0, 0),
  (51, .invokevirtual 209, 54, 151, 2, 7, 0, 0),
  (54, .aload_n 0, 55, 0, 0, 0, 0, 0),
  (55, .iload_n 1, 56, 1, 0, 0, 0, 0),
  (56, .invokevirtual 180, 59, 121, 1, 7, 0, 0),
  (59, .istore 4, 61, 4, 0, 0, 0, 0),
  (61, .iconst 0, 62, 0, 0, 0, (0), 0),
  (62, .istore 5, 64, 5, 0, 0, 0, 0),
  (64, .iconst 0, 65, 0, 0, 0, (0), 0),
  (65, .istore 6, 67, 6, 0, 0, 0, 0),
  (67, .iload 6, 69, 6, 0, 0, 0, 0),
  (69, .iconst 1, 70, 0, 0, 0, (1), 0),
  (70, .iload 4, 72, 4, 0, 0, 0, 0),
  (72, .ishl, 73, 0, 0, 0, 0, 0),
  (73, .if_icmp .ge 48, 76, 121, 0, 0, 0, 0),
  (76, .aload_n 0, 77, 0, 0, 0, 0, 0),
  (77, .iload_n 1, 78, 1, 0, 0, 0, 0),
  (78, .iload 6, 80, 6, 0, 0, 0, 0),
  (80, .iload 4, 82, 4, 0, 0, 0, 0),
  (82, .invokevirtual 212, 85, 156, 3, 7, 0, 0),
  (85, .istore 7, 87, 7, 0, 0, 0, 0),
  (87, .iload 5, 89, 5, 0, 0, 0, 0),
  (89, .iload 7, 91, 7, 0, 0, 0, 0),
  (91, .bipush (-4), 93, 0, 0, 0, (-4), 0),
  (93, .if_icmp .eq 18, 96, 111, 0, 0, 0, 0),
  (96, .iload_n 3, 97, 3, 0, 0, 0, 0),
  (97, .iconst (-1), 98, 0, 0, 0, (-1), 0),
  (98, .if_icmp .eq 9, 101, 107, 0, 0, 0, 0),
  (101, .iload 7, 103, 7, 0, 0, 0, 0),
  (103, .iload_n 3, 104, 3, 0, 0, 0, 0),
  (104, .if_icmp .ne 7, 107, 111, 0, 0, 0, 0),
  (107, .iconst 1, 108, 0, 0, 0, (1), 0),
  (108, .goto 4, 111, 112, 0, 0, 0, 0),
  (111, .iconst 0, 112, 0, 0, 0, (0), 0),
  (112, .iadd, 113, 0, 0, 0, 0, 0),
  (113, .istore 5, 115, 5, 0, 0, 0, 0),
  (115, .iinc 6 1, 118, 6, 0, 0, (1), 0),
  (118, .goto (-51), 121, 67, 0, 0, 0, 0),
  (121, .iload 5, 123, 5, 0, 0, 0, 0),
  (123, .ireturn, 124, 0, 0, 0, 0, 0)]
def MX7_rulings : mI := (7, ⟨"CornerFrontsModel", "rulings", "(III)I"⟩, prog_9_method_48_code, 8, (some (.int)), oX7_rulings)
def oX7_first : List (Nat × mE) := [(0, .aload_n 0, 1, 0, 0, 0, 0, 0),
  (1, .iload_n 1, 2, 1, 0, 0, 0, 0),
  (2, .invokevirtual 70, 5, 113, 1, 7, 0, 0),
  (5, .ifCond .eq 32, 8, 37, 0, 0, 0, 0),
  (8, .iload_n 2, 9, 2, 0, 0, 0, 0),
  (9, .i2l, 10, 0, 0, 0, 0, 0),
  (10, .lconst 0, 11, 0, 0, 0, 0, 0),
  (11, .ldc2_w 151, 14, 0, 0, 0, 0, (2)),
  (14, .invokestatic 66, 17, 112, 3, 7, 0, 0),
  (17, .ifCond .eq 20, 20, 37, 0, 0, 0, 0),
  (20, .iload_n 3, 21, 3, 0, 0, 0, 0),
  (21, .i2l, 22, 0, 0, 0, 0, 0),
  (22, .lconst 0, 23, 0, 0, 0, 0, 0),
  (23, .aload_n 0, 24, 0, 0, 0, 0, 0),
  (24, .iload_n 1, 25, 1, 0, 0, 0, 0),
  (25, .invokevirtual 180, 28, 121, 1, 7, 0, 0),
  (28, .iconst 1, 29, 0, 0, 0, (1), 0),
  (29, .isub, 30, 0, 0, 0, 0, 0),
  (30, .i2l, 31, 0, 0, 0, 0, 0),
  (31, .invokestatic 66, 34, 112, 3, 7, 0, 0),
  (34, .ifCond .ne 5, 37, 39, 0, 0, 0, 0),
  (37, .iconst (-1), 38, 0, 0, 0, (-1), 0),
  (38, .ireturn, 39, 0, 0, 0, 0, 0),
  (39, .aload_n 0, 40, 0, 0, 0, 0, 0),
  (40, .iload_n 1, 41, 1, 0, 0, 0, 0),
  (41, .invokevirtual 174, 44, 139, 1, 7, 0, 0),
  (44, .iload_n 2, 45, 2, 0, 0, 0, 0),
  (45, .iconst 2, 46, 0, 0, 0, (2), 0),
  (46, .if_icmp .ne 14, 49, 60, 0, 0, 0, 0),
  (49, .aload_n 0, 50, 0, 0, 0, 0, 0),
  (50, .getfield 166, 53, 7, 24, 0, 0, 0),
  (53, .iconst 1, 54, 0, 0, 0, (1), 0),
  (54, .if_icmp .le 6, 57, 60, 0, 0, 0, 0),
  (57, .bipush (-2), 59, 0, 0, 0, (-2), 0),
  (59, .ireturn, 60, 0, 0, 0, 0, 0),
  (60, .aload_n 0, 61, 0, 0, 0, 0, 0),
  (61, .iload_n 1, 62, 1, 0, 0, 0, 0),
  (62, .iload_n 2, 63, 2, 0, 0, 0, 0),
  (63, .invokevirtual 209, 66, 151, 2, 7, 0, 0),
  (66, .aload_n 0, 67, 0, 0, 0, 0, 0),
  (67, .iload_n 1, 68, 1, 0, 0, 0, 0),
  (68, .invokevirtual 180, 71, 121, 1, 7, 0, 0),
  (71, .istore 4, 73, 4, 0, 0, 0, 0),
  (73, .iconst 0, 74, 0, 0, 0, (0), 0),
  (74, .istore 5, 76, 5, 0, 0, 0, 0),
  (76, .iload 5, 78, 5, 0, 0, 0, 0),
  (78, .iconst 1, 79, 0, 0, 0, (1), 0),
  (79, .iload 4, 81, 4, 0, 0, 0, 0),
  (81, .ishl, 82, 0, 0, 0, 0, 0),
  (82, .if_icmp .ge 35, 85, 117, 0, 0, 0, 0),
  (85, .aload_n 0, 86, 0, 0, 0, 0, 0),
  (86, .iload_n 1, 87, 1, 0, 0, 0, 0),
  (87, .iload 5, 89, 5, 0, 0, 0, 0),
  (89, .iload 4, 91, 4, 0, 0, 0, 0),
  (91, .invokevirtual 212, 94, 156, 3, 7, 0, 0),
  (94, .bipush (-4), 96, 0, 0, 0, (-4), 0),
  (96, .if_icmp .eq 15, 99, 111, 0, 0, 0, 0),
  (99, .iload 5, 101, 5, 0, 0, 0, 0),
  (101, .iload 4, 103, 4, 0, 0, 0, 0),
  (103, .iconst 1, 104, 0, 0, 0, (1), 0),
  (104, .isub, 105, 0, 0, 0, 0, 0),
  (105, .iload_n 3, 106, 3, 0, 0, 0, 0),
  (106, .isub, 107, 0, 0, 0, 0, 0),
  (107, .ishr, 108, 0, 0, 0, 0, 0),
  (108, .iconst 1, 109, 0, 0, 0, (1), 0),
  (109, .iand, 110, 0, 0, 0, 0, 0),
  (110, .ireturn, 111, 0, 0, 0, 0, 0),
  (111, .iinc 5 1, 114, 5, 0, 0, (1), 0),
  (114, .goto (-38), 117, 76, 0, 0, 0, 0),
  (117, .bipush (-4), 119, 0, 0, 0, (-4), 0),
  (119, .ireturn, 120, 0, 0, 0, 0, 0)]
def MX7_first : mI := (7, ⟨"CornerFrontsModel", "first", "(III)I"⟩, prog_9_method_49_code, 6, (some (.int)), oX7_first)
def oX7_kindAt : List (Nat × mE) := [(0, .iload_n 2, 1, 2, 0, 0, 0, 0),
  (1, .aload_n 0, 2, 0, 0, 0, 0, 0),
  (2, .getfield 7, 5, 7, 1, 0, 0, 0),
  (5, .iload_n 1, 6, 1, 0, 0, 0, 0),
  (6, .iaload, 7, 0, 0, 0, 0, 0),
  (7, .if_icmp .ge 17, 10, 24, 0, 0, 0, 0),
  (10, .aload_n 0, 11, 0, 0, 0, 0, 0),
  (11, .getfield 13, 14, 7, 2, 0, 0, 0),
  (14, .bipush 30, 16, 0, 0, 0, (30), 0),
  (16, .iload_n 1, 17, 1, 0, 0, 0, 0),
  (17, .imul, 18, 0, 0, 0, 0, 0),
  (18, .iload_n 2, 19, 2, 0, 0, 0, 0),
  (19, .iadd, 20, 0, 0, 0, 0, 0),
  (20, .iaload, 21, 0, 0, 0, 0, 0),
  (21, .goto 5, 24, 26, 0, 0, 0, 0),
  (24, .bipush (-4), 26, 0, 0, 0, (-4), 0),
  (26, .ireturn, 27, 0, 0, 0, 0, 0)]
def MX7_kindAt : mI := (7, ⟨"CornerFrontsModel", "kindAt", "(II)I"⟩, prog_9_method_50_code, 3, (some (.int)), oX7_kindAt)
def oX7_numberAt : List (Nat × mE) := [(0, .iload_n 2, 1, 2, 0, 0, 0, 0),
  (1, .aload_n 0, 2, 0, 0, 0, 0, 0),
  (2, .getfield 7, 5, 7, 1, 0, 0, 0),
  (5, .iload_n 1, 6, 1, 0, 0, 0, 0),
  (6, .iaload, 7, 0, 0, 0, 0, 0),
  (7, .if_icmp .ge 17, 10, 24, 0, 0, 0, 0),
  (10, .aload_n 0, 11, 0, 0, 0, 0, 0),
  (11, .getfield 16, 14, 7, 3, 0, 0, 0),
  (14, .bipush 30, 16, 0, 0, 0, (30), 0),
  (16, .iload_n 1, 17, 1, 0, 0, 0, 0),
  (17, .imul, 18, 0, 0, 0, 0, 0),
  (18, .iload_n 2, 19, 2, 0, 0, 0, 0),
  (19, .iadd, 20, 0, 0, 0, 0, 0),
  (20, .iaload, 21, 0, 0, 0, 0, 0),
  (21, .goto 5, 24, 26, 0, 0, 0, 0),
  (24, .bipush (-4), 26, 0, 0, 0, (-4), 0),
  (26, .ireturn, 27, 0, 0, 0, 0, 0)]
def MX7_numberAt : mI := (7, ⟨"CornerFrontsModel", "numberAt", "(II)I"⟩, prog_9_method_51_code, 3, (some (.int)), oX7_numberAt)
def oX7_stands : List (Nat × mE) := [(0, .aload_n 0, 1, 0, 0, 0, 0, 0),
  (1, .iload_n 1, 2, 1, 0, 0, 0, 0),
  (2, .iload_n 2, 3, 2, 0, 0, 0, 0),
  (3, .invokevirtual 215, 6, 159, 2, 7, 0, 0),
  (6, .iload_n 3, 7, 3, 0, 0, 0, 0),
  (7, .if_icmp .ne 73, 10, 80, 0, 0, 0, 0),
  (10, .aload_n 0, 11, 0, 0, 0, 0, 0),
  (11, .iload_n 1, 12, 1, 0, 0, 0, 0),
  (12, .iload_n 2, 13, 2, 0, 0, 0, 0),
  (13, .iconst 1, 14, 0, 0, 0, (1), 0),
  (14, .iadd, 15, 0, 0, 0, 0, 0),
  (15, .invokevirtual 215, 18, 159, 2, 7, 0, 0),
  (18, .iload 4, 20, 4, 0, 0, 0, 0),
  (20, .if_icmp .ne 60, 23, 80, 0, 0, 0, 0),
  (23, .aload_n 0, 24, 0, 0, 0, 0, 0),
  (24, .iload_n 1, 25, 1, 0, 0, 0, 0),
  (25, .iload_n 2, 26, 2, 0, 0, 0, 0),
  (26, .iconst 2, 27, 0, 0, 0, (2), 0),
  (27, .iadd, 28, 0, 0, 0, 0, 0),
  (28, .invokevirtual 215, 31, 159, 2, 7, 0, 0),
  (31, .iload 6, 33, 6, 0, 0, 0, 0),
  (33, .if_icmp .ne 47, 36, 80, 0, 0, 0, 0),
  (36, .aload_n 0, 37, 0, 0, 0, 0, 0),
  (37, .iload_n 1, 38, 1, 0, 0, 0, 0),
  (38, .iload_n 2, 39, 2, 0, 0, 0, 0),
  (39, .iconst 1, 40, 0, 0, 0, (1), 0),
  (40, .iadd, 41, 0, 0, 0, 0, 0),
  (41, .invokevirtual 218, 44, 160, 2, 7, 0, 0),
  (44, .aload_n 0, 45, 0, 0, 0, 0, 0),
  (45, .iload_n 1, 46, 1, 0, 0, 0, 0),
  (46, .iload_n 2, 47, 2, 0, 0, 0, 0),
  (47, .invokevirtual 218, 50, 160, 2, 7, 0, 0),
  (50, .iload 5, 52, 5, 0, 0, 0, 0),
  (52, .iadd, 53, 0, 0, 0, 0, 0),
  (53, .if_icmp .ne 27, 56, 80, 0, 0, 0, 0),
  (56, .aload_n 0, 57, 0, 0, 0, 0, 0),
  (57, .iload_n 1, 58, 1, 0, 0, 0, 0),
  (58, .iload_n 2, 59, 2, 0, 0, 0, 0),
  (59, .iconst 2, 60, 0, 0, 0, (2), 0),
  (60, .iadd, 61, 0, 0, 0, 0, 0),
  (61, .invokevirtual 218, 64, 160, 2, 7, 0, 0),
  (64, .aload_n 0, 65, 0, 0, 0, 0, 0),
  (65, .iload_n 1, 66, 1, 0, 0, 0, 0),
  (66, .iload_n 2, 67, 2, 0, 0, 0, 0),
  (67, .invokevirtual 218, 70, 160, 2, 7, 0, 0),
  (70, .iload 7, 72, 7, 0, 0, 0, 0),
  (72, .iadd, 73, 0, 0, 0, 0, 0),
  (73, .if_icmp .ne 7, 76, 80, 0, 0, 0, 0),
  (76, .iconst 1, 77, 0, 0, 0, (1), 0),
  (77, .goto 4, 80, 81, 0, 0, 0, 0),
  (80, .iconst 0, 81, 0, 0, 0, (0), 0),
  (81, .ireturn, 82, 0, 0, 1, 0, 0)]
def MX7_stands : mI := (7, ⟨"CornerFrontsModel", "stands", "(IIIIIII)Z"⟩, prog_9_method_52_code, 8, (some (.boolean)), oX7_stands)
def oX7_rest : List (Nat × mE) := [(0, .aload_n 0, 1, 0, 0, 0, 0, 0),
  (1, .iload_n 1, 2, 1, 0, 0, 0, 0),
  (2, .iload_n 2, 3, 2, 0, 0, 0, 0),
  (3, .aload_n 0, 4, 0, 0, 0, 0, 0),
  (4, .getfield 7, 7, 7, 1, 0, 0, 0),
  (7, .iload_n 1, 8, 1, 0, 0, 0, 0),
  (8, .iaload, 9, 0, 0, 0, 0, 0),
  (9, .invokevirtual 155, 12, 116, 3, 7, 0, 0),
  (12, .aload_n 0, 13, 0, 0, 0, 0, 0),
  (13, .iload_n 1, 14, 1, 0, 0, 0, 0),
  (14, .invokevirtual 81, 17, 117, 1, 7, 0, 0),
  (17, .aload_n 0, 18, 0, 0, 0, 0, 0),
  (18, .getfield 7, 21, 7, 1, 0, 0, 0),
  (21, .iload_n 1, 22, 1, 0, 0, 0, 0),
  (22, .iaload, 23, 0, 0, 0, 0, 0),
  (23, .ireturn, 24, 0, 0, 0, 0, 0)]
def MX7_rest : mI := (7, ⟨"CornerFrontsModel", "rest", "(II)I"⟩, prog_9_method_53_code, 3, (some (.int)), oX7_rest)
def oX7_swap : List (Nat × mE) := [(0, .iload_n 2, 1, 2, 0, 0, 0, 0),
  (1, .iconst 1, 2, 0, 0, 0, (1), 0),
  (2, .iadd, 3, 0, 0, 0, 0, 0),
  (3, .aload_n 0, 4, 0, 0, 0, 0, 0),
  (4, .getfield 7, 7, 7, 1, 0, 0, 0),
  (7, .iload_n 1, 8, 1, 0, 0, 0, 0),
  (8, .iaload, 9, 0, 0, 0, 0, 0),
  (9, .if_icmp .lt 6, 12, 15, 0, 0, 0, 0),
  (12, .bipush (-2), 14, 0, 0, 0, (-2), 0),
  (14, .ireturn, 15, 0, 0, 0, 0, 0),
  (15, .aload_n 0, 16, 0, 0, 0, 0, 0),
  (16, .iload_n 1, 17, 1, 0, 0, 0, 0),
  (17, .iload_n 2, 18, 2, 0, 0, 0, 0),
  (18, .invokevirtual 215, 21, 159, 2, 7, 0, 0),
  (21, .istore_n 3, 22, 3, 0, 0, 0, 0),
  (22, .aload_n 0, 23, 0, 0, 0, 0, 0),
  (23, .iload_n 1, 24, 1, 0, 0, 0, 0),
  (24, .iload_n 2, 25, 2, 0, 0, 0, 0),
  (25, .iconst 1, 26, 0, 0, 0, (1), 0),
  (26, .iadd, 27, 0, 0, 0, 0, 0),
  (27, .invokevirtual 215, 30, 159, 2, 7, 0, 0),
  (30, .istore 4, 32, 4, 0, 0, 0, 0),
  (32, .aload_n 0, 33, 0, 0, 0, 0, 0),
  (33, .iload_n 1, 34, 1, 0, 0, 0, 0),
  (34, .iload_n 2, 35, 2, 0, 0, 0, 0),
  (35, .invokevirtual 218, 38, 160, 2, 7, 0, 0),
  (38, .istore 5, 40, 5, 0, 0, 0, 0),
  (40, .aload_n 0, 41, 0, 0, 0, 0, 0),
  (41, .iload_n 1, 42, 1, 0, 0, 0, 0),
  (42, .iload_n 2, 43, 2, 0, 0, 0, 0),
  (43, .iconst 1, 44, 0, 0, 0, (1), 0),
  (44, .iadd, 45, 0, 0, 0, 0, 0),
  (45, .invokevirtual 218, 48, 160, 2, 7, 0, 0),
  (48, .istore 6, 50, 6, 0, 0, 0, 0),
  (50, .iload_n 3, 51, 3, 0, 0, 0, 0),
  (51, .iconst 2, 52, 0, 0, 0, (2), 0),
  (52, .if_icmp .ne 7, 55, 59, 0, 0, 0, 0),
  (55, .iconst 0, 56, 0, 0, 0, (0), 0),
  (56, .goto 4, 59, 60, 0, 0, 0, 0),
  (59, .iconst 2, 60, 0, 0, 0, (2), 0),
  (60, .istore 7, 62, 7, 0, 0, 0, 0),
  (62, .iload 4, 64, 4, 0, 0, 0, 0),
  (64, .ifCond .ne 7, 67, 71, 0, 0, 0, 0),
  (67, .iconst 0, 68, 0, 0, 0, (0), 0),
  (68, .goto 4, 71, 72, 0, 0, 0, 0),
  (71, .iconst 2, 72, 0, 0, 0, (2), 0),
  (72, .istore 8, 74, 8, 0, 0, 0, 0),
  (74, .iload 6, 76, 6, 0, 0, 0, 0),
  (76, .iload 5, 78, 5, 0, 0, 0, 0),
  (78, .iload 7, 80, 7, 0, 0, 0, 0),
  (80, .iadd, 81, 0, 0, 0, 0, 0),
  (81, .if_icmp .lt 7, 84, 88, 0, 0, 0, 0),
  (84, .iconst 1, 85, 0, 0, 0, (1), 0),
  (85, .goto 4, 88, 89, 0, 0, 0, 0),
  (88, .iconst 0, 89, 0, 0, 0, (0), 0),
  (89, .istore 9, 91, 9, 0, 0, 0, 0),
  (91, .iload 9, 93, 9, 0, 0, 0, 0),
  (93, .ifCond .ne 16, 96, 109, 0, 0, 0, 0),
  (96, .iload 6, 98, 6, 0, 0, 0, 0),
  (98, .iload 8, 100, 8, 0, 0, 0, 0),
  (100, .iadd, 101, 0, 0, 0, 0, 0),
  (101, .iload 5, 103, 5, 0, 0, 0, 0),
  (103, .if_icmp .le 6, 106, 109, 0, 0, 0, 0),
  (106, .bipush (-2), 108, 0, 0, 0, (-2), 0),
  (108, .ireturn, 109, 0, 0, 0, 0, 0),
  (109, .aload_n 0, 110, 0, 0, 0, 0, 0),
  (110, .iload_n 1, 111, 1, 0, 0, 0, 0),
  (111, .iload_n 2, 112, 2, 0, 0, 0, 0),
  (112, .invokevirtual 162, 115, 120, 2, 7, 0, 0),
  (115, .iload 4, 117, 4, 0, 0, 0, 0),
  (117, .invokestatic 85, 120, 119, 1, 7, 0, 0),
  (120, .iadd, 121, 0, 0, 0, 0, 0),
  (121, .bipush 10, 123, 0, 0, 0, (10), 0),
  (123, .if_icmp .le 6, 126, 129, 0, 0, 0, 0),
  (126, .bipush (-3), 128, 0, 0, 0, (-3), 0),
  (128, .ireturn, 129, 0, 0, 0, 0, 0),
  (129, .aload_n 0, 130, 0, 0, 0, 0, 0),
  (130, .iconst 0, 131, 0, 0, 0, (0), 0),
  (131, .putfield 74, 134, 7, 4, 0, 0, 0),
  (134, .aload_n 0, 135, 0, 0, 0, 0, 0),
  (135, .iload_n 1, 136, 1, 0, 0, 0, 0),
  (136, .iconst 0, 137, 0, 0, 0, (0), 0),
  (137, .iload_n 2, 138, 2, 0, 0, 0, 0),
  (138, .invokevirtual 155, 141, 116, 3, 7, 0, 0),
  (141, .aload_n 0, 142, 0, 0, 0, 0, 0),
  (142, .iload 4, 144, 4, 0, 0, 0, 0),
  (144, .iload 9, 146, 9, 0, 0, 0, 0),
  (146, .ifCond .eq 13, 149, 159, 0, 0, 0, 0),
  (149, .iload 6, 151, 6, 0, 0, 0, 0),
  (151, .iload_n 3, 152, 3, 0, 0, 0, 0),
  (152, .invokestatic 85, 155, 119, 1, 7, 0, 0),
  (155, .isub, 156, 0, 0, 0, 0, 0),
  (156, .goto 5, 159, 161, 0, 0, 0, 0),
  (159, .iload 6, 161, 6, 0, 0, 0, 0),
  (161, .invokevirtual 77, 164, 115, 2, 7, 0, 0),
  (164, .aload_n 0, 165, 0, 0, 0, 0, 0),
  (165, .iload_n 3, 166, 3, 0, 0, 0, 0),
  (166, .iload 9, 168, 9, 0, 0, 0, 0),
  (168, .ifCond .eq 8, 171, 176, 0, 0, 0, 0),
  (171, .iload 5, 173, 5, 0, 0, 0, 0),
  (173, .goto 11, 176, 184, 0, 0, 0, 0),
  (176, .iload 5, 178, 5, 0, 0, 0, 0),
  (178, .iload 4, 180, 4, 0, 0, 0, 0),
  (180, .invokestatic 85, 183, 119, 1, 7, 0, 0),
  (183, .iadd, 184, 0, 0, 0, 0, 0),
  (184, .invokevirtual 77, 187, 115, 2, 7, 0, 0),
  (187, .aload_n 0, 188, 0, 0, 0, 0, 0),
  (188, .iload_n 1, 189, 1, 0, 0, 0, 0),
  (189, .iload_n 2, 190, 2, 0, 0, 0, 0),
  (190, .iconst 2, 191, 0, 0, 0, (2), 0),
  (191, .iadd, 192, 0, 0, 0, 0, 0),
  (192, .invokevirtual 221, 195, 162, 2, 7, 0, 0),
  (195, .ireturn, 196, 0, 0, 0, 0, 0)]
def MX7_swap : mI := (7, ⟨"CornerFrontsModel", "swap", "(II)I"⟩, prog_9_method_54_code, 10, (some (.int)), oX7_swap)
def oX7_slide : List (Nat × mE) := [(0, .aload_n 0, 1, 0, 0, 0, 0, 0),
  (1, .iload_n 1, 2, 1, 0, 0, 0, 0),
  (2, .iload_n 2, 3, 2, 0, 0, 0, 0),
  (3, .iconst 1, 4, 0, 0, 0, (1), 0),
  (4, .iconst 1, 5, 0, 0, 0, (1), 0),
  (5, .iconst 1, 6, 0, 0, 0, (1), 0),
  (6, .iconst 1, 7, 0, 0, 0, (1), 0),
  (7, .iconst 0, 8, 0, 0, 0, (0), 0),
  (8, .invokevirtual 224, 11, 161, 7, 7, 0, 0),
  (11, .istore_n 3, 12, 3, 0, 0, 0, 0),
  (12, .aload_n 0, 13, 0, 0, 0, 0, 0),
  (13, .iload_n 1, 14, 1, 0, 0, 0, 0),
  (14, .iload_n 2, 15, 2, 0, 0, 0, 0),
  (15, .iconst 1, 16, 0, 0, 0, (1), 0),
  (16, .iconst 1, 17, 0, 0, 0, (1), 0),
  (17, .iconst (-1), 18, 0, 0, 0, (-1), 0),
  (18, .iconst 1, 19, 0, 0, 0, (1), 0),
  (19, .iconst 0, 20, 0, 0, 0, (0), 0),
  (20, .invokevirtual 224, 23, 161, 7, 7, 0, 0),
  (23, .istore 4, 25, 4, 0, 0, 0, 0),
  (25, .iload_n 3, 26, 3, 0, 0, 0, 0),
  (26, .ifCond .ne 11, 29, 37, 0, 0, 0, 0),
  (29, .iload 4, 31, 4, 0, 0, 0, 0),
  (31, .ifCond .ne 6, 34, 37, 0, 0, 0, 0),
  (34, .bipush (-2), 36, 0, 0, 0, (-2), 0),
  (36, .ireturn, 37, 0, 0, 0, 0, 0),
  (37, .aload_n 0, 38, 0, 0, 0, 0, 0),
  (38, .iload_n 1, 39, 1, 0, 0, 0, 0),
  (39, .iload_n 2, 40, 2, 0, 0, 0, 0),
  (40, .invokevirtual 218, 43, 160, 2, 7, 0, 0),
  (43, .istore 5, 45, 5, 0, 0, 0, 0),
  (45, .iload_n 3, 46, 3, 0, 0, 0, 0),
  (46, .ifCond .eq 10, 49, 56, 0, 0, 0, 0),
  (49, .iload 5, 51, 5, 0, 0, 0, 0),
  (51, .iconst 1, 52, 0, 0, 0, (1), 0),
  (52, .iadd, 53, 0, 0, 0, 0, 0),
  (53, .goto 7, 56, 60, 0, 0, 0, 0),
  (56, .iload 5, 58, 5, 0, 0, 0, 0),
  (58, .iconst 1, 59, 0, 0, 0, (1), 0),
  (59, .isub, 60, 0, 0, 0, 0, 0),
  (60, .istore 6, 62, 6, 0, 0, 0, 0),
  (62, .aload_n 0, 63, 0, 0, 0, 0, 0),
  (63, .iconst 0, 64, 0, 0, 0, (0), 0),
  (64, .putfield 74, 67, 7, 4, 0, 0, 0),
  (67, .aload_n 0, 68, 0, 0, 0, 0, 0),
  (68, .iload_n 1, 69, 1, 0, 0, 0, 0),
  (69, .iconst 0, 70, 0, 0, 0, (0), 0),
  (70, .iload_n 2, 71, 2, 0, 0, 0, 0),
  (71, .invokevirtual 155, 74, 116, 3, 7, 0, 0),
  (74, .aload_n 0, 75, 0, 0, 0, 0, 0),
  (75, .iconst 1, 76, 0, 0, 0, (1), 0),
  (76, .iload 6, 78, 6, 0, 0, 0, 0),
  (78, .invokevirtual 77, 81, 115, 2, 7, 0, 0),
  (81, .aload_n 0, 82, 0, 0, 0, 0, 0),
  (82, .iconst 1, 83, 0, 0, 0, (1), 0),
  (83, .iload 5, 85, 5, 0, 0, 0, 0),
  (85, .invokevirtual 77, 88, 115, 2, 7, 0, 0),
  (88, .aload_n 0, 89, 0, 0, 0, 0, 0),
  (89, .iconst 1, 90, 0, 0, 0, (1), 0),
  (90, .iload 6, 92, 6, 0, 0, 0, 0),
  (92, .invokevirtual 77, 95, 115, 2, 7, 0, 0),
  (95, .aload_n 0, 96, 0, 0, 0, 0, 0),
  (96, .iload_n 1, 97, 1, 0, 0, 0, 0),
  (97, .iload_n 2, 98, 2, 0, 0, 0, 0),
  (98, .iconst 3, 99, 0, 0, 0, (3), 0),
  (99, .iadd, 100, 0, 0, 0, 0, 0),
  (100, .invokevirtual 221, 103, 162, 2, 7, 0, 0),
  (103, .ireturn, 104, 0, 0, 0, 0, 0)]
def MX7_slide : mI := (7, ⟨"CornerFrontsModel", "slide", "(II)I"⟩, prog_9_method_55_code, 7, (some (.int)), oX7_slide)
def oX7_uncurl : List (Nat × mE) := [(0, .aload_n 0, 1, 0, 0, 0, 0, 0),
  (1, .iload_n 1, 2, 1, 0, 0, 0, 0),
  (2, .iload_n 2, 3, 2, 0, 0, 0, 0),
  (3, .iconst 0, 4, 0, 0, 0, (0), 0),
  (4, .iconst 1, 5, 0, 0, 0, (1), 0),
  (5, .iconst (-1), 6, 0, 0, 0, (-1), 0),
  (6, .iconst 2, 7, 0, 0, 0, (2), 0),
  (7, .iconst 0, 8, 0, 0, 0, (0), 0),
  (8, .invokevirtual 224, 11, 161, 7, 7, 0, 0),
  (11, .ifCond .ne 20, 14, 31, 0, 0, 0, 0),
  (14, .aload_n 0, 15, 0, 0, 0, 0, 0),
  (15, .iload_n 1, 16, 1, 0, 0, 0, 0),
  (16, .iload_n 2, 17, 2, 0, 0, 0, 0),
  (17, .iconst 0, 18, 0, 0, 0, (0), 0),
  (18, .iconst 1, 19, 0, 0, 0, (1), 0),
  (19, .iconst 1, 20, 0, 0, 0, (1), 0),
  (20, .iconst 2, 21, 0, 0, 0, (2), 0),
  (21, .iconst 0, 22, 0, 0, 0, (0), 0),
  (22, .invokevirtual 224, 25, 161, 7, 7, 0, 0),
  (25, .ifCond .ne 6, 28, 31, 0, 0, 0, 0),
  (28, .bipush (-2), 30, 0, 0, 0, (-2), 0),
  (30, .ireturn, 31, 0, 0, 0, 0, 0),
  (31, .aload_n 0, 32, 0, 0, 0, 0, 0),
  (32, .iconst 0, 33, 0, 0, 0, (0), 0),
  (33, .putfield 74, 36, 7, 4, 0, 0, 0),
  (36, .aload_n 0, 37, 0, 0, 0, 0, 0),
  (37, .iload_n 1, 38, 1, 0, 0, 0, 0),
  (38, .iconst 0, 39, 0, 0, 0, (0), 0),
  (39, .iload_n 2, 40, 2, 0, 0, 0, 0),
  (40, .invokevirtual 155, 43, 116, 3, 7, 0, 0),
  (43, .aload_n 0, 44, 0, 0, 0, 0, 0),
  (44, .iload_n 1, 45, 1, 0, 0, 0, 0),
  (45, .iload_n 2, 46, 2, 0, 0, 0, 0),
  (46, .iconst 3, 47, 0, 0, 0, (3), 0),
  (47, .iadd, 48, 0, 0, 0, 0, 0),
  (48, .invokevirtual 221, 51, 162, 2, 7, 0, 0),
  (51, .ireturn, 52, 0, 0, 0, 0, 0)]
def MX7_uncurl : mI := (7, ⟨"CornerFrontsModel", "uncurl", "(II)I"⟩, prog_9_method_56_code, 3, (some (.int)), oX7_uncurl)
def oX7_pull : List (Nat × mE) := [(0, .aload_n 0, 1, 0, 0, 0, 0, 0),
  (1, .iload_n 1, 2, 1, 0, 0, 0, 0),
  (2, .iload_n 2, 3, 2, 0, 0, 0, 0),
  (3, .invokevirtual 218, 6, 160, 2, 7, 0, 0),
  (6, .istore_n 3, 7, 3, 0, 0, 0, 0),
  (7, .aload_n 0, 8, 0, 0, 0, 0, 0),
  (8, .iload_n 1, 9, 1, 0, 0, 0, 0),
  (9, .iload_n 2, 10, 2, 0, 0, 0, 0),
  (10, .iconst 0, 11, 0, 0, 0, (0), 0),
  (11, .iconst 1, 12, 0, 0, 0, (1), 0),
  (12, .iconst 1, 13, 0, 0, 0, (1), 0),
  (13, .iconst 1, 14, 0, 0, 0, (1), 0),
  (14, .iconst 0, 15, 0, 0, 0, (0), 0),
  (15, .invokevirtual 224, 18, 161, 7, 7, 0, 0),
  (18, .ifCond .eq 14, 21, 32, 0, 0, 0, 0),
  (21, .iconst 0, 22, 0, 0, 0, (0), 0),
  (22, .istore 4, 24, 4, 0, 0, 0, 0),
  (24, .iload_n 3, 25, 3, 0, 0, 0, 0),
  (25, .iconst 1, 26, 0, 0, 0, (1), 0),
  (26, .iadd, 27, 0, 0, 0, 0, 0),
  (27, .istore 5, 29, 5, 0, 0, 0, 0),
  (29, .goto 81, 32, 110, 0, 0, 0, 0),
  (32, .aload_n 0, 33, 0, 0, 0, 0, 0),
  (33, .iload_n 1, 34, 1, 0, 0, 0, 0),
  (34, .iload_n 2, 35, 2, 0, 0, 0, 0),
  (35, .iconst 0, 36, 0, 0, 0, (0), 0),
  (36, .iconst 1, 37, 0, 0, 0, (1), 0),
  (37, .iconst (-1), 38, 0, 0, 0, (-1), 0),
  (38, .iconst 1, 39, 0, 0, 0, (1), 0),
  (39, .iconst 0, 40, 0, 0, 0, (0), 0),
  (40, .invokevirtual 224, 43, 161, 7, 7, 0, 0),
  (43, .ifCond .eq 14, 46, 57, 0, 0, 0, 0),
  (46, .iconst 0, 47, 0, 0, 0, (0), 0),
  (47, .istore 4, 49, 4, 0, 0, 0, 0),
  (49, .iload_n 3, 50, 3, 0, 0, 0, 0),
  (50, .iconst 1, 51, 0, 0, 0, (1), 0),
  (51, .isub, 52, 0, 0, 0, 0, 0),
  (52, .istore 5, 54, 5, 0, 0, 0, 0),
  (54, .goto 56, 57, 110, 0, 0, 0, 0),
  (57, .aload_n 0, 58, 0, 0, 0, 0, 0),
  (58, .iload_n 1, 59, 1, 0, 0, 0, 0),
  (59, .iload_n 2, 60, 2, 0, 0, 0, 0),
  (60, .iconst 1, 61, 0, 0, 0, (1), 0),
  (61, .iconst 1, 62, 0, 0, 0, (1), 0),
  (62, .iconst 1, 63, 0, 0, 0, (1), 0),
  (63, .iconst 2, 64, 0, 0, 0, (2), 0),
  (64, .iconst 0, 65, 0, 0, 0, (0), 0),
  (65, .invokevirtual 224, 68, 161, 7, 7, 0, 0),
  (68, .ifCond .eq 14, 71, 82, 0, 0, 0, 0),
  (71, .iconst 2, 72, 0, 0, 0, (2), 0),
  (72, .istore 4, 74, 4, 0, 0, 0, 0),
  (74, .iload_n 3, 75, 3, 0, 0, 0, 0),
  (75, .iconst 1, 76, 0, 0, 0, (1), 0),
  (76, .iadd, 77, 0, 0, 0, 0, 0),
  (77, .istore 5, 79, 5, 0, 0, 0, 0),
  (79, .goto 31, 82, 110, 0, 0, 0, 0),
  (82, .aload_n 0, 83, 0, 0, 0, 0, 0),
  (83, .iload_n 1, 84, 1, 0, 0, 0, 0),
  (84, .iload_n 2, 85, 2, 0, 0, 0, 0),
  (85, .iconst 1, 86, 0, 0, 0, (1), 0),
  (86, .iconst 1, 87, 0, 0, 0, (1), 0),
  (87, .iconst (-1), 88, 0, 0, 0, (-1), 0),
  (88, .iconst 2, 89, 0, 0, 0, (2), 0),
  (89, .iconst 0, 90, 0, 0, 0, (0), 0),
  (90, .invokevirtual 224, 93, 161, 7, 7, 0, 0),
  (93, .ifCond .eq 14, 96, 107, 0, 0, 0, 0),
  (96, .iconst 2, 97, 0, 0, 0, (2), 0),
  (97, .istore 4, 99, 4, 0, 0, 0, 0),
  (99, .iload_n 3, 100, 3, 0, 0, 0, 0),
  (100, .iconst 1, 101, 0, 0, 0, (1), 0),
  (101, .isub, 102, 0, 0, 0, 0, 0),
  (102, .istore 5, 104, 5, 0, 0, 0, 0),
  (104, .goto 6, 107, 110, 0, 0, 0, 0),
  (107, .bipush (-2), 109, 0, 0, 0, (-2), 0),
  (109, .ireturn, 110, 0, 0, 0, 0, 0),
  (110, .aload_n 0, 111, 0, 0, 0, 0, 0),
  (111, .iconst 0, 112, 0, 0, 0, (0), 0),
  (112, .putfield 74, 115, 7, 4, 0, 0, 0),
  (115, .aload_n 0, 116, 0, 0, 0, 0, 0),
  (116, .iload_n 1, 117, 1, 0, 0, 0, 0),
  (117, .iconst 0, 118, 0, 0, 0, (0), 0),
  (118, .iload_n 2, 119, 2, 0, 0, 0, 0),
  (119, .invokevirtual 155, 122, 116, 3, 7, 0, 0),
  (122, .aload_n 0, 123, 0, 0, 0, 0, 0),
  (123, .iload 4, 125, 4, 0, 0, 0, 0),
  (125, .iload 5, 127, 5, 0, 0, 0, 0),
  (127, .invokevirtual 77, 130, 115, 2, 7, 0, 0),
  (130, .aload_n 0, 131, 0, 0, 0, 0, 0),
  (131, .iload_n 1, 132, 1, 0, 0, 0, 0),
  (132, .iload_n 2, 133, 2, 0, 0, 0, 0),
  (133, .iconst 3, 134, 0, 0, 0, (3), 0),
  (134, .iadd, 135, 0, 0, 0, 0, 0),
  (135, .invokevirtual 221, 138, 162, 2, 7, 0, 0),
  (138, .ireturn, 139, 0, 0, 0, 0, 0)]
def MX7_pull : mI := (7, ⟨"CornerFrontsModel", "pull", "(II)I"⟩, prog_9_method_57_code, 6, (some (.int)), oX7_pull)
def oX7_straighten : List (Nat × mE) := [(0, .aload_n 0, 1, 0, 0, 0, 0, 0),
  (1, .iload_n 1, 2, 1, 0, 0, 0, 0),
  (2, .iload_n 2, 3, 2, 0, 0, 0, 0),
  (3, .iconst 1, 4, 0, 0, 0, (1), 0),
  (4, .iadd, 5, 0, 0, 0, 0, 0),
  (5, .invokevirtual 218, 8, 160, 2, 7, 0, 0),
  (8, .aload_n 0, 9, 0, 0, 0, 0, 0),
  (9, .iload_n 1, 10, 1, 0, 0, 0, 0),
  (10, .iload_n 2, 11, 2, 0, 0, 0, 0),
  (11, .invokevirtual 218, 14, 160, 2, 7, 0, 0),
  (14, .isub, 15, 0, 0, 0, 0, 0),
  (15, .istore_n 3, 16, 3, 0, 0, 0, 0),
  (16, .aload_n 0, 17, 0, 0, 0, 0, 0),
  (17, .iload_n 1, 18, 1, 0, 0, 0, 0),
  (18, .iload_n 2, 19, 2, 0, 0, 0, 0),
  (19, .invokevirtual 215, 22, 159, 2, 7, 0, 0),
  (22, .ifCond .ne 25, 25, 47, 0, 0, 0, 0),
  (25, .aload_n 0, 26, 0, 0, 0, 0, 0),
  (26, .iload_n 1, 27, 1, 0, 0, 0, 0),
  (27, .iload_n 2, 28, 2, 0, 0, 0, 0),
  (28, .iconst 1, 29, 0, 0, 0, (1), 0),
  (29, .iadd, 30, 0, 0, 0, 0, 0),
  (30, .invokevirtual 215, 33, 159, 2, 7, 0, 0),
  (33, .iconst 2, 34, 0, 0, 0, (2), 0),
  (34, .if_icmp .ne 13, 37, 47, 0, 0, 0, 0),
  (37, .iload_n 3, 38, 3, 0, 0, 0, 0),
  (38, .iconst 1, 39, 0, 0, 0, (1), 0),
  (39, .if_icmp .eq 11, 42, 50, 0, 0, 0, 0),
  (42, .iload_n 3, 43, 3, 0, 0, 0, 0),
  (43, .iconst (-1), 44, 0, 0, 0, (-1), 0),
  (44, .if_icmp .eq 6, 47, 50, 0, 0, 0, 0),
  (47, .bipush (-2), 49, 0, 0, 0, (-2), 0),
  (49, .ireturn, 50, 0, 0, 0, 0, 0),
  (50, .aload_n 0, 51, 0, 0, 0, 0, 0),
  (51, .iconst 0, 52, 0, 0, 0, (0), 0),
  (52, .putfield 74, 55, 7, 4, 0, 0, 0),
  (55, .aload_n 0, 56, 0, 0, 0, 0, 0),
  (56, .iload_n 1, 57, 1, 0, 0, 0, 0),
  (57, .iconst 0, 58, 0, 0, 0, (0), 0),
  (58, .iload_n 2, 59, 2, 0, 0, 0, 0),
  (59, .invokevirtual 155, 62, 116, 3, 7, 0, 0),
  (62, .aload_n 0, 63, 0, 0, 0, 0, 0),
  (63, .iload_n 1, 64, 1, 0, 0, 0, 0),
  (64, .iload_n 2, 65, 2, 0, 0, 0, 0),
  (65, .iconst 2, 66, 0, 0, 0, (2), 0),
  (66, .iadd, 67, 0, 0, 0, 0, 0),
  (67, .invokevirtual 221, 70, 162, 2, 7, 0, 0),
  (70, .ireturn, 71, 0, 0, 0, 0, 0)]
def MX7_straighten : mI := (7, ⟨"CornerFrontsModel", "straighten", "(II)I"⟩, prog_9_method_58_code, 4, (some (.int)), oX7_straighten)
def oX7_move : List (Nat × mE) := [(0, .aload_n 0, 1, 0, 0, 0, 0, 0),
  (1, .iload_n 1, 2, 1, 0, 0, 0, 0),
  (2, .iload_n 3, 3, 3, 0, 0, 0, 0),
  (3, .invokevirtual 159, 6, 114, 2, 7, 0, 0),
  (6, .ifCond .eq 15, 9, 21, 0, 0, 0, 0),
  (9, .iload_n 2, 10, 2, 0, 0, 0, 0),
  (10, .i2l, 11, 0, 0, 0, 0, 0),
  (11, .lconst 0, 12, 0, 0, 0, 0, 0),
  (12, .ldc2_w 183, 15, 0, 0, 0, 0, (4)),
  (15, .invokestatic 66, 18, 112, 3, 7, 0, 0),
  (18, .ifCond .ne 5, 21, 23, 0, 0, 0, 0),
  (21, .iconst (-1), 22, 0, 0, 0, (-1), 0),
  (22, .ireturn, 23, 0, 0, 0, 0, 0),
  (23, .iload_n 2, 24, 2, 0, 0, 0, 0),
  (24, .tableswitch 60 0 3 #[32, 39, 46, 53], 56, 0, 0, 0, 0, 0),
  (56, .aload_n 0, 57, 0, 0, 0, 0, 0),
  (57, .iload_n 1, 58, 1, 0, 0, 0, 0),
  (58, .iload_n 3, 59, 3, 0, 0, 0, 0),
  (59, .invokevirtual 228, 62, 163, 2, 7, 0, 0),
  (62, .ireturn, 63, 0, 0, 0, 0, 0),
  (63, .aload_n 0, 64, 0, 0, 0, 0, 0),
  (64, .iload_n 1, 65, 1, 0, 0, 0, 0),
  (65, .iload_n 3, 66, 3, 0, 0, 0, 0),
  (66, .invokevirtual 231, 69, 164, 2, 7, 0, 0),
  (69, .ireturn, 70, 0, 0, 0, 0, 0),
  (70, .aload_n 0, 71, 0, 0, 0, 0, 0),
  (71, .iload_n 1, 72, 1, 0, 0, 0, 0),
  (72, .iload_n 3, 73, 3, 0, 0, 0, 0),
  (73, .invokevirtual 234, 76, 165, 2, 7, 0, 0),
  (76, .ireturn, 77, 0, 0, 0, 0, 0),
  (77, .aload_n 0, 78, 0, 0, 0, 0, 0),
  (78, .iload_n 1, 79, 1, 0, 0, 0, 0),
  (79, .iload_n 3, 80, 3, 0, 0, 0, 0),
  (80, .invokevirtual 237, 83, 166, 2, 7, 0, 0),
  (83, .ireturn, 84, 0, 0, 0, 0, 0),
  (84, .aload_n 0, 85, 0, 0, 0, 0, 0),
  (85, .iload_n 1, 86, 1, 0, 0, 0, 0),
  (86, .iload_n 3, 87, 3, 0, 0, 0, 0),
  (87, .invokevirtual 240, 90, 167, 2, 7, 0, 0),
  (90, .ireturn, 91, 0, 0, 0, 0, 0)]
def MX7_move : mI := (7, ⟨"CornerFrontsModel", "move", "(III)I"⟩, prog_9_method_59_code, 4, (some (.int)), oX7_move)
def oX7_add : List (Nat × mE) := [(0, .aload_n 0, 1, 0, 0, 0, 0, 0),
  (1, .iload_n 1, 2, 1, 0, 0, 0, 0),
  (2, .invokevirtual 70, 5, 113, 1, 7, 0, 0),
  (5, .ifCond .eq 50, 8, 55, 0, 0, 0, 0),
  (8, .iload_n 2, 9, 2, 0, 0, 0, 0),
  (9, .i2l, 10, 0, 0, 0, 0, 0),
  (10, .lconst 0, 11, 0, 0, 0, 0, 0),
  (11, .ldc2_w 149, 14, 0, 0, 0, 0, (3)),
  (14, .invokestatic 66, 17, 112, 3, 7, 0, 0),
  (17, .ifCond .eq 38, 20, 55, 0, 0, 0, 0),
  (20, .iload_n 3, 21, 3, 0, 0, 0, 0),
  (21, .i2l, 22, 0, 0, 0, 0, 0),
  (22, .lconst 0, 23, 0, 0, 0, 0, 0),
  (23, .aload_n 0, 24, 0, 0, 0, 0, 0),
  (24, .getfield 7, 27, 7, 1, 0, 0, 0),
  (27, .iload_n 1, 28, 1, 0, 0, 0, 0),
  (28, .iaload, 29, 0, 0, 0, 0, 0),
  (29, .i2l, 30, 0, 0, 0, 0, 0),
  (30, .invokestatic 66, 33, 112, 3, 7, 0, 0),
  (33, .ifCond .eq 22, 36, 55, 0, 0, 0, 0),
  (36, .iload 4, 38, 4, 0, 0, 0, 0),
  (38, .i2l, 39, 0, 0, 0, 0, 0),
  (39, .lconst 0, 40, 0, 0, 0, 0, 0),
  (40, .aload_n 0, 41, 0, 0, 0, 0, 0),
  (41, .iload_n 1, 42, 1, 0, 0, 0, 0),
  (42, .iload_n 3, 43, 3, 0, 0, 0, 0),
  (43, .invokevirtual 162, 46, 120, 2, 7, 0, 0),
  (46, .iconst 1, 47, 0, 0, 0, (1), 0),
  (47, .isub, 48, 0, 0, 0, 0, 0),
  (48, .i2l, 49, 0, 0, 0, 0, 0),
  (49, .invokestatic 66, 52, 112, 3, 7, 0, 0),
  (52, .ifCond .ne 5, 55, 57, 0, 0, 0, 0),
  (55, .iconst (-1), 56, 0, 0, 0, (-1), 0),
  (56, .ireturn, 57, 0, 0, 0, 0, 0),
  (57, .iload_n 2, 58, 2, 0, 0, 0, 0),
  (58, .iconst 2, 59, 0, 0, 0, (2), 0),
  (59, .if_icmp .ge 7, 62, 66, 0, 0, 0, 0),
  (62, .iconst 3, 63, 0, 0, 0, (3), 0),
  (63, .goto 4, 66, 67, 0, 0, 0, 0),
  (66, .iconst 2, 67, 0, 0, 0, (2), 0),
  (67, .istore 5, 69, 5, 0, 0, 0, 0),
  (69, .aload_n 0, 70, 0, 0, 0, 0, 0),
  (70, .getfield 7, 73, 7, 1, 0, 0, 0),
  (73, .iload_n 1, 74, 1, 0, 0, 0, 0),
  (74, .iaload, 75, 0, 0, 0, 0, 0),
  (75, .iload 5, 77, 5, 0, 0, 0, 0),
  (77, .iadd, 78, 0, 0, 0, 0, 0),
  (78, .bipush 30, 80, 0, 0, 0, (30), 0),
  (80, .if_icmp .gt 31, 83, 111, 0, 0, 0, 0),
  (83, .iload_n 2, 84, 2, 0, 0, 0, 0),
  (84, .iconst 2, 85, 0, 0, 0, (2), 0),
  (85, .if_icmp .ge 13, 88, 98, 0, 0, 0, 0),
  (88, .aload_n 0, 89, 0, 0, 0, 0, 0),
  (89, .iload_n 1, 90, 1, 0, 0, 0, 0),
  (90, .invokevirtual 180, 93, 121, 1, 7, 0, 0),
  (93, .bipush 12, 95, 0, 0, 0, (12), 0),
  (95, .if_icmp .eq 16, 98, 111, 0, 0, 0, 0),
  (98, .aload_n 0, 99, 0, 0, 0, 0, 0),
  (99, .iload_n 1, 100, 1, 0, 0, 0, 0),
  (100, .iload_n 3, 101, 3, 0, 0, 0, 0),
  (101, .invokevirtual 162, 104, 120, 2, 7, 0, 0),
  (104, .iconst 2, 105, 0, 0, 0, (2), 0),
  (105, .iadd, 106, 0, 0, 0, 0, 0),
  (106, .bipush 10, 108, 0, 0, 0, (10), 0),
  (108, .if_icmp .le 6, 111, 114, 0, 0, 0, 0),
  (111, .bipush (-3), 113, 0, 0, 0, (-3), 0),
  (113, .ireturn, 114, 0, 0, 0, 0, 0),
  (114, .aload_n 0, 115, 0, 0, 0, 0, 0),
  (115, .iconst 0, 116, 0, 0, 0, (0), 0),
  (116, .putfield 74, 119, 7, 4, 0, 0, 0),
  (119, .aload_n 0, 120, 0, 0, 0, 0, 0),
  (120, .iload_n 1, 121, 1, 0, 0, 0, 0),
  (121, .iconst 0, 122, 0, 0, 0, (0), 0),
  (122, .iload_n 3, 123, 3, 0, 0, 0, 0),
  (123, .invokevirtual 155, 126, 116, 3, 7, 0, 0),
  (126, .iload_n 2, 127, 2, 0, 0, 0, 0),
  (127, .ifCond .eq 8, 130, 135, 0, 0, 0, 0),
  (130, .iload_n 2, 131, 2, 0, 0, 0, 0),
  (131, .iconst 2, 132, 0, 0, 0, (2), 0),
  (132, .if_icmp .ne 7, 135, 139, 0, 0, 0, 0),
  (135, .iconst 1, 136, 0, 0, 0, (1), 0),
  (136, .goto 4, 139, 140, 0, 0, 0, 0),
  (139, .iconst 0, 140, 0, 0, 0, (0), 0),
  (140, .istore 6, 142, 6, 0, 0, 0, 0),
  (142, .aload_n 0, 143, 0, 0, 0, 0, 0),
  (143, .iconst 0, 144, 0, 0, 0, (0), 0),
  (144, .iload 6, 146, 6, 0, 0, 0, 0),
  (146, .ifCond .eq 10, 149, 156, 0, 0, 0, 0),
  (149, .iload 4, 151, 4, 0, 0, 0, 0),
  (151, .iconst 1, 152, 0, 0, 0, (1), 0),
  (152, .iadd, 153, 0, 0, 0, 0, 0),
  (153, .goto 5, 156, 158, 0, 0, 0, 0),
  (156, .iload 4, 158, 4, 0, 0, 0, 0),
  (158, .invokevirtual 77, 161, 115, 2, 7, 0, 0),
  (161, .iload_n 2, 162, 2, 0, 0, 0, 0),
  (162, .iconst 2, 163, 0, 0, 0, (2), 0),
  (163, .if_icmp .ge 44, 166, 207, 0, 0, 0, 0),
  (166, .aload_n 0, 167, 0, 0, 0, 0, 0),
  (167, .iconst 1, 168, 0, 0, 0, (1), 0),
  (168, .iload 6, 170, 6, 0, 0, 0, 0),
  (170, .ifCond .eq 8, 173, 178, 0, 0, 0, 0),
  (173, .iload 4, 175, 4, 0, 0, 0, 0),
  (175, .goto 7, 178, 182, 0, 0, 0, 0),
  (178, .iload 4, 180, 4, 0, 0, 0, 0),
  (180, .iconst 1, 181, 0, 0, 0, (1), 0),
  (181, .iadd, 182, 0, 0, 0, 0, 0),
  (182, .invokevirtual 77, 185, 115, 2, 7, 0, 0),
  (185, .aload_n 0, 186, 0, 0, 0, 0, 0),
  (186, .iconst 2, 187, 0, 0, 0, (2), 0),
  (187, .iload 6, 189, 6, 0, 0, 0, 0),
  (189, .ifCond .eq 10, 192, 199, 0, 0, 0, 0),
  (192, .iload 4, 194, 4, 0, 0, 0, 0),
  (194, .iconst 1, 195, 0, 0, 0, (1), 0),
  (195, .iadd, 196, 0, 0, 0, 0, 0),
  (196, .goto 5, 199, 201, 0, 0, 0, 0),
  (199, .iload 4, 201, 4, 0, 0, 0, 0),
  (201, .invokevirtual 77, 204, 115, 2, 7, 0, 0),
  (204, .goto 22, 207, 226, 0, 0, 0, 0),
  (207, .aload_n 0, 208, 0, 0, 0, 0, 0),
  (208, .iconst 2, 209, 0, 0, 0, (2), 0),
  (209, .iload 6, 211, 6, 0, 0, 0, 0),
  (211, .ifCond .eq 8, 214, 219, 0, 0, 0, 0),
  (214, .iload 4, 216, 4, 0, 0, 0, 0),
  (216, .goto 7, 219, 223, 0, 0, 0, 0),
  (219, .iload 4, 221, 4, 0, 0, 0, 0),
  (221, .iconst 1, 222, 0, 0, 0, (1), 0),
  (222, .iadd, 223, 0, 0, 0, 0, 0),
  (223, .invokevirtual 77, 226, 115, 2, 7, 0, 0),
  (226, .aload_n 0, 227, 0, 0, 0, 0, 0),
  (227, .iload_n 1, 228, 1, 0, 0, 0, 0),
  (228, .iload_n 3, 229, 3, 0, 0, 0, 0),
  (229, .invokevirtual 221, 232, 162, 2, 7, 0, 0),
  (232, .ireturn, 233, 0, 0, 0, 0, 0)]
def MX7_add : mI := (7, ⟨"CornerFrontsModel", "add", "(IIII)I"⟩, prog_9_method_60_code, 7, (some (.int)), oX7_add)
def oX7_push : List (Nat × mE) := [(0, .aload_n 0, 1, 0, 0, 0, 0, 0),
  (1, .iload_n 1, 2, 1, 0, 0, 0, 0),
  (2, .iload_n 3, 3, 3, 0, 0, 0, 0),
  (3, .invokevirtual 159, 6, 114, 2, 7, 0, 0),
  (6, .ifCond .eq 13, 9, 19, 0, 0, 0, 0),
  (9, .iload_n 2, 10, 2, 0, 0, 0, 0),
  (10, .i2l, 11, 0, 0, 0, 0, 0),
  (11, .lconst 0, 12, 0, 0, 0, 0, 0),
  (12, .lconst 1, 13, 0, 0, 0, 0, 1),
  (13, .invokestatic 66, 16, 112, 3, 7, 0, 0),
  (16, .ifCond .ne 5, 19, 21, 0, 0, 0, 0),
  (19, .iconst (-1), 20, 0, 0, 0, (-1), 0),
  (20, .ireturn, 21, 0, 0, 0, 0, 0),
  (21, .aload_n 0, 22, 0, 0, 0, 0, 0),
  (22, .iload_n 1, 23, 1, 0, 0, 0, 0),
  (23, .iload_n 3, 24, 3, 0, 0, 0, 0),
  (24, .invokevirtual 215, 27, 159, 2, 7, 0, 0),
  (27, .istore 4, 29, 4, 0, 0, 0, 0),
  (29, .aload_n 0, 30, 0, 0, 0, 0, 0),
  (30, .iload_n 1, 31, 1, 0, 0, 0, 0),
  (31, .iload_n 3, 32, 3, 0, 0, 0, 0),
  (32, .invokevirtual 218, 35, 160, 2, 7, 0, 0),
  (35, .istore 5, 37, 5, 0, 0, 0, 0),
  (37, .iload_n 2, 38, 2, 0, 0, 0, 0),
  (38, .ifCond .ne 10, 41, 48, 0, 0, 0, 0),
  (41, .iload 5, 43, 5, 0, 0, 0, 0),
  (43, .iconst 1, 44, 0, 0, 0, (1), 0),
  (44, .isub, 45, 0, 0, 0, 0, 0),
  (45, .goto 17, 48, 62, 0, 0, 0, 0),
  (48, .iload 4, 50, 4, 0, 0, 0, 0),
  (50, .ifCond .ne 8, 53, 58, 0, 0, 0, 0),
  (53, .iload 5, 55, 5, 0, 0, 0, 0),
  (55, .goto 7, 58, 62, 0, 0, 0, 0),
  (58, .iload 5, 60, 5, 0, 0, 0, 0),
  (60, .iconst 2, 61, 0, 0, 0, (2), 0),
  (61, .iadd, 62, 0, 0, 0, 0, 0),
  (62, .istore 6, 64, 6, 0, 0, 0, 0),
  (64, .iload 4, 66, 4, 0, 0, 0, 0),
  (66, .iconst 1, 67, 0, 0, 0, (1), 0),
  (67, .if_icmp .eq 22, 70, 89, 0, 0, 0, 0),
  (70, .iload 6, 72, 6, 0, 0, 0, 0),
  (72, .i2l, 73, 0, 0, 0, 0, 0),
  (73, .lconst 0, 74, 0, 0, 0, 0, 0),
  (74, .aload_n 0, 75, 0, 0, 0, 0, 0),
  (75, .iload_n 1, 76, 1, 0, 0, 0, 0),
  (76, .iload_n 3, 77, 3, 0, 0, 0, 0),
  (77, .invokevirtual 162, 80, 120, 2, 7, 0, 0),
  (80, .iconst 1, 81, 0, 0, 0, (1), 0),
  (81, .isub, 82, 0, 0, 0, 0, 0),
  (82, .i2l, 83, 0, 0, 0, 0, 0),
  (83, .invokestatic 66, 86, 112, 3, 7, 0, 0),
  (86, .ifCond .ne 6, 89, 92, 0, 0, 0, 0),
  (89, .bipush (-2), 91, 0, 0, 0, (-2), 0),
  (91, .ireturn, 92, 0, 0, 0, 0, 0),
  (92, .aload_n 0, 93, 0, 0, 0, 0, 0),
  (93, .getfield 7, 96, 7, 1, 0, 0, 0),
  (96, .iload_n 1, 97, 1, 0, 0, 0, 0),
  (97, .iaload, 98, 0, 0, 0, 0, 0),
  (98, .iconst 2, 99, 0, 0, 0, (2), 0),
  (99, .iadd, 100, 0, 0, 0, 0, 0),
  (100, .bipush 30, 102, 0, 0, 0, (30), 0),
  (102, .if_icmp .gt 15, 105, 117, 0, 0, 0, 0),
  (105, .aload_n 0, 106, 0, 0, 0, 0, 0),
  (106, .iload_n 1, 107, 1, 0, 0, 0, 0),
  (107, .invokevirtual 180, 110, 121, 1, 7, 0, 0),
  (110, .iconst 2, 111, 0, 0, 0, (2), 0),
  (111, .iadd, 112, 0, 0, 0, 0, 0),
  (112, .bipush 12, 114, 0, 0, 0, (12), 0),
  (114, .if_icmp .le 6, 117, 120, 0, 0, 0, 0),
  (117, .bipush (-3), 119, 0, 0, 0, (-3), 0),
  (119, .ireturn, 120, 0, 0, 0, 0, 0),
  (120, .iload_n 2, 121, 2, 0, 0, 0, 0),
  (121, .ifCond .ne 10, 124, 131, 0, 0, 0, 0),
  (124, .iload 5, 126, 5, 0, 0, 0, 0),
  (126, .iconst 1, 127, 0, 0, 0, (1), 0),
  (127, .isub, 128, 0, 0, 0, 0, 0),
  (128, .goto 7, 131, 135, 0, 0, 0, 0),
  (131, .iload 5, 133, 5, 0, 0, 0, 0),
  (133, .iconst 1, 134, 0, 0, 0, (1), 0),
  (134, .iadd, 135, 0, 0, 0, 0, 0),
  (135, .istore 7, 137, 7, 0, 0, 0, 0),
  (137, .aload_n 0, 138, 0, 0, 0, 0, 0),
  (138, .iconst 0, 139, 0, 0, 0, (0), 0),
  (139, .putfield 74, 142, 7, 4, 0, 0, 0),
  (142, .aload_n 0, 143, 0, 0, 0, 0, 0),
  (143, .iload_n 1, 144, 1, 0, 0, 0, 0),
  (144, .iconst 0, 145, 0, 0, 0, (0), 0),
  (145, .iload_n 3, 146, 3, 0, 0, 0, 0),
  (146, .invokevirtual 155, 149, 116, 3, 7, 0, 0),
  (149, .iload 4, 151, 4, 0, 0, 0, 0),
  (151, .ifCond .ne 27, 154, 178, 0, 0, 0, 0),
  (154, .aload_n 0, 155, 0, 0, 0, 0, 0),
  (155, .iconst 0, 156, 0, 0, 0, (0), 0),
  (156, .iload 7, 158, 7, 0, 0, 0, 0),
  (158, .invokevirtual 77, 161, 115, 2, 7, 0, 0),
  (161, .aload_n 0, 162, 0, 0, 0, 0, 0),
  (162, .iconst 1, 163, 0, 0, 0, (1), 0),
  (163, .iload 5, 165, 5, 0, 0, 0, 0),
  (165, .invokevirtual 77, 168, 115, 2, 7, 0, 0),
  (168, .aload_n 0, 169, 0, 0, 0, 0, 0),
  (169, .iconst 1, 170, 0, 0, 0, (1), 0),
  (170, .iload 7, 172, 7, 0, 0, 0, 0),
  (172, .invokevirtual 77, 175, 115, 2, 7, 0, 0),
  (175, .goto 24, 178, 199, 0, 0, 0, 0),
  (178, .aload_n 0, 179, 0, 0, 0, 0, 0),
  (179, .iconst 1, 180, 0, 0, 0, (1), 0),
  (180, .iload 7, 182, 7, 0, 0, 0, 0),
  (182, .invokevirtual 77, 185, 115, 2, 7, 0, 0),
  (185, .aload_n 0, 186, 0, 0, 0, 0, 0),
  (186, .iconst 1, 187, 0, 0, 0, (1), 0),
  (187, .iload 5, 189, 5, 0, 0, 0, 0),
  (189, .invokevirtual 77, 192, 115, 2, 7, 0, 0),
  (192, .aload_n 0, 193, 0, 0, 0, 0, 0),
  (193, .iconst 2, 194, 0, 0, 0, (2), 0),
  (194, .iload 7, 196, 7, 0, 0, 0, 0),
  (196, .invokevirtual 77, 199, 115, 2, 7, 0, 0),
  (199, .aload_n 0, 200, 0, 0, 0, 0, 0),
  (200, .iload_n 1, 201, 1, 0, 0, 0, 0),
  (201, .iload_n 3, 202, 3, 0, 0, 0, 0),
  (202, .iconst 1, 203, 0, 0, 0, (1), 0),
  (203, .iadd, 204, 0, 0, 0, 0, 0),
  (204, .invokevirtual 221, 207, 162, 2, 7, 0, 0),
  (207, .ireturn, 208, 0, 0, 0, 0, 0)]
def MX7_push : mI := (7, ⟨"CornerFrontsModel", "push", "(III)I"⟩, prog_9_method_61_code, 8, (some (.int)), oX7_push)
def oX7_join : List (Nat × mE) := [(0, .aload_n 0, 1, 0, 0, 0, 0, 0),
  (1, .iload_n 1, 2, 1, 0, 0, 0, 0),
  (2, .invokevirtual 70, 5, 113, 1, 7, 0, 0),
  (5, .ifCond .eq 11, 8, 16, 0, 0, 0, 0),
  (8, .aload_n 0, 9, 0, 0, 0, 0, 0),
  (9, .iload_n 2, 10, 2, 0, 0, 0, 0),
  (10, .invokevirtual 70, 13, 113, 1, 7, 0, 0),
  (13, .ifCond .ne 5, 16, 18, 0, 0, 0, 0),
  (16, .iconst (-1), 17, 0, 0, 0, (-1), 0),
  (17, .ireturn, 18, 0, 0, 0, 0, 0),
  (18, .aload_n 0, 19, 0, 0, 0, 0, 0),
  (19, .getfield 62, 22, 7, 0, 0, 0, 0),
  (22, .bipush 8, 24, 0, 0, 0, (8), 0),
  (24, .if_icmp .eq 39, 27, 63, 0, 0, 0, 0),
  (27, .aload_n 0, 28, 0, 0, 0, 0, 0),
  (28, .getfield 7, 31, 7, 1, 0, 0, 0),
  (31, .iload_n 1, 32, 1, 0, 0, 0, 0),
  (32, .iaload, 33, 0, 0, 0, 0, 0),
  (33, .aload_n 0, 34, 0, 0, 0, 0, 0),
  (34, .getfield 7, 37, 7, 1, 0, 0, 0),
  (37, .iload_n 2, 38, 2, 0, 0, 0, 0),
  (38, .iaload, 39, 0, 0, 0, 0, 0),
  (39, .iadd, 40, 0, 0, 0, 0, 0),
  (40, .iconst 2, 41, 0, 0, 0, (2), 0),
  (41, .isub, 42, 0, 0, 0, 0, 0),
  (42, .bipush 30, 44, 0, 0, 0, (30), 0),
  (44, .if_icmp .gt 19, 47, 63, 0, 0, 0, 0),
  (47, .aload_n 0, 48, 0, 0, 0, 0, 0),
  (48, .iload_n 1, 49, 1, 0, 0, 0, 0),
  (49, .invokevirtual 180, 52, 121, 1, 7, 0, 0),
  (52, .aload_n 0, 53, 0, 0, 0, 0, 0),
  (53, .iload_n 2, 54, 2, 0, 0, 0, 0),
  (54, .invokevirtual 180, 57, 121, 1, 7, 0, 0),
  (57, .iadd, 58, 0, 0, 0, 0, 0),
  (58, .bipush 12, 60, 0, 0, 0, (12), 0),
  (60, .if_icmp .le 6, 63, 66, 0, 0, 0, 0),
  (63, .bipush (-3), 65, 0, 0, 0, (-3), 0),
  (65, .ireturn, 66, 0, 0, 0, 0, 0),
  (66, .aload_n 0, 67, 0, 0, 0, 0, 0),
  (67, .iconst 0, 68, 0, 0, 0, (0), 0),
  (68, .putfield 74, 71, 7, 4, 0, 0, 0),
  (71, .aload_n 0, 72, 0, 0, 0, 0, 0),
  (72, .iload_n 1, 73, 1, 0, 0, 0, 0),
  (73, .iconst 0, 74, 0, 0, 0, (0), 0),
  (74, .aload_n 0, 75, 0, 0, 0, 0, 0),
  (75, .getfield 7, 78, 7, 1, 0, 0, 0),
  (78, .iload_n 1, 79, 1, 0, 0, 0, 0),
  (79, .iaload, 80, 0, 0, 0, 0, 0),
  (80, .iconst 1, 81, 0, 0, 0, (1), 0),
  (81, .isub, 82, 0, 0, 0, 0, 0),
  (82, .invokevirtual 155, 85, 116, 3, 7, 0, 0),
  (85, .aload_n 0, 86, 0, 0, 0, 0, 0),
  (86, .iload_n 2, 87, 2, 0, 0, 0, 0),
  (87, .iconst 1, 88, 0, 0, 0, (1), 0),
  (88, .aload_n 0, 89, 0, 0, 0, 0, 0),
  (89, .getfield 7, 92, 7, 1, 0, 0, 0),
  (92, .iload_n 2, 93, 2, 0, 0, 0, 0),
  (93, .iaload, 94, 0, 0, 0, 0, 0),
  (94, .invokevirtual 155, 97, 116, 3, 7, 0, 0),
  (97, .aload_n 0, 98, 0, 0, 0, 0, 0),
  (98, .invokevirtual 145, 101, 118, 0, 7, 0, 0),
  (101, .ireturn, 102, 0, 0, 0, 0, 0)]
def MX7_join : mI := (7, ⟨"CornerFrontsModel", "join", "(II)I"⟩, prog_9_method_62_code, 3, (some (.int)), oX7_join)
def oX7_unlike : List (Nat × mE) := [(0, .aload_n 0, 1, 0, 0, 0, 0, 0),
  (1, .iload_n 1, 2, 1, 0, 0, 0, 0),
  (2, .invokevirtual 70, 5, 113, 1, 7, 0, 0),
  (5, .ifCond .eq 11, 8, 16, 0, 0, 0, 0),
  (8, .aload_n 0, 9, 0, 0, 0, 0, 0),
  (9, .iload_n 2, 10, 2, 0, 0, 0, 0),
  (10, .invokevirtual 70, 13, 113, 1, 7, 0, 0),
  (13, .ifCond .ne 5, 16, 18, 0, 0, 0, 0),
  (16, .iconst (-1), 17, 0, 0, 0, (-1), 0),
  (17, .ireturn, 18, 0, 0, 0, 0, 0),
  (18, .aload_n 0, 19, 0, 0, 0, 0, 0),
  (19, .getfield 7, 22, 7, 1, 0, 0, 0),
  (22, .iload_n 1, 23, 1, 0, 0, 0, 0),
  (23, .iaload, 24, 0, 0, 0, 0, 0),
  (24, .aload_n 0, 25, 0, 0, 0, 0, 0),
  (25, .getfield 7, 28, 7, 1, 0, 0, 0),
  (28, .iload_n 2, 29, 2, 0, 0, 0, 0),
  (29, .iaload, 30, 0, 0, 0, 0, 0),
  (30, .if_icmp .le 12, 33, 42, 0, 0, 0, 0),
  (33, .aload_n 0, 34, 0, 0, 0, 0, 0),
  (34, .getfield 7, 37, 7, 1, 0, 0, 0),
  (37, .iload_n 1, 38, 1, 0, 0, 0, 0),
  (38, .iaload, 39, 0, 0, 0, 0, 0),
  (39, .goto 9, 42, 48, 0, 0, 0, 0),
  (42, .aload_n 0, 43, 0, 0, 0, 0, 0),
  (43, .getfield 7, 46, 7, 1, 0, 0, 0),
  (46, .iload_n 2, 47, 2, 0, 0, 0, 0),
  (47, .iaload, 48, 0, 0, 0, 0, 0),
  (48, .istore_n 3, 49, 3, 0, 0, 0, 0),
  (49, .iconst 0, 50, 0, 0, 0, (0), 0),
  (50, .istore 4, 52, 4, 0, 0, 0, 0),
  (52, .iload 4, 54, 4, 0, 0, 0, 0),
  (54, .iload_n 3, 55, 3, 0, 0, 0, 0),
  (55, .if_icmp .ge 46, 58, 101, 0, 0, 0, 0),
  (58, .aload_n 0, 59, 0, 0, 0, 0, 0),
  (59, .iload_n 1, 60, 1, 0, 0, 0, 0),
  (60, .iload 4, 62, 4, 0, 0, 0, 0),
  (62, .invokevirtual 215, 65, 159, 2, 7, 0, 0),
  (65, .aload_n 0, 66, 0, 0, 0, 0, 0),
  (66, .iload_n 2, 67, 2, 0, 0, 0, 0),
  (67, .iload 4, 69, 4, 0, 0, 0, 0),
  (69, .invokevirtual 215, 72, 159, 2, 7, 0, 0),
  (72, .if_icmp .ne 20, 75, 92, 0, 0, 0, 0),
  (75, .aload_n 0, 76, 0, 0, 0, 0, 0),
  (76, .iload_n 1, 77, 1, 0, 0, 0, 0),
  (77, .iload 4, 79, 4, 0, 0, 0, 0),
  (79, .invokevirtual 218, 82, 160, 2, 7, 0, 0),
  (82, .aload_n 0, 83, 0, 0, 0, 0, 0),
  (83, .iload_n 2, 84, 2, 0, 0, 0, 0),
  (84, .iload 4, 86, 4, 0, 0, 0, 0),
  (86, .invokevirtual 218, 89, 160, 2, 7, 0, 0),
  (89, .if_icmp .eq 6, 92, 95, 0, 0, 0, 0),
  (92, .iload 4, 94, 4, 0, 0, 0, 0),
  (94, .ireturn, 95, 0, 0, 0, 0, 0),
  (95, .iinc 4 1, 98, 4, 0, 0, (1), 0),
  (98, .goto (-46), 101, 52, 0, 0, 0, 0),
  (101, .bipush (-4), 103, 0, 0, 0, (-4), 0),
  (103, .ireturn, 104, 0, 0, 0, 0, 0)]
def MX7_unlike : mI := (7, ⟨"CornerFrontsModel", "unlike", "(II)I"⟩, prog_9_method_63_code, 5, (some (.int)), oX7_unlike)
def oX7_count : List (Nat × mE) := [(0, .iload_n 1, 1, 1, 0, 0, 0, 0),
  (1, .ifCond .ne 10, 4, 11, 0, 0, 0, 0),
  (4, .aload_n 0, 5, 0, 0, 0, 0, 0),
  (5, .getfield 62, 8, 7, 0, 0, 0, 0),
  (8, .goto 46, 11, 54, 0, 0, 0, 0),
  (11, .iload_n 1, 12, 1, 0, 0, 0, 0),
  (12, .iconst 1, 13, 0, 0, 0, (1), 0),
  (13, .if_icmp .ne 28, 16, 41, 0, 0, 0, 0),
  (16, .aload_n 0, 17, 0, 0, 0, 0, 0),
  (17, .getfield 28, 20, 7, 18, 0, 0, 0),
  (20, .iconst 0, 21, 0, 0, 0, (0), 0),
  (21, .iaload, 22, 0, 0, 0, 0, 0),
  (22, .bipush (-4), 24, 0, 0, 0, (-4), 0),
  (24, .if_icmp .ne 8, 27, 32, 0, 0, 0, 0),
  (27, .bipush (-4), 29, 0, 0, 0, (-4), 0),
  (29, .goto 25, 32, 54, 0, 0, 0, 0),
  (32, .aload_n 0, 33, 0, 0, 0, 0, 0),
  (33, .getfield 31, 36, 7, 19, 0, 0, 0),
  (36, .iconst 0, 37, 0, 0, 0, (0), 0),
  (37, .iaload, 38, 0, 0, 0, 0, 0),
  (38, .goto 16, 41, 54, 0, 0, 0, 0),
  (41, .iload_n 1, 42, 1, 0, 0, 0, 0),
  (42, .iconst 2, 43, 0, 0, 0, (2), 0),
  (43, .if_icmp .ne 10, 46, 53, 0, 0, 0, 0),
  (46, .aload_n 0, 47, 0, 0, 0, 0, 0),
  (47, .getfield 89, 50, 7, 8, 0, 0, 0),
  (50, .goto 4, 53, 54, 0, 0, 0, 0),
  (53, .iconst (-1), 54, 0, 0, 0, (-1), 0),
  (54, .ireturn, 55, 0, 0, 0, 0, 0)]
def MX7_count : mI := (7, ⟨"CornerFrontsModel", "count", "(I)I"⟩, prog_9_method_64_code, 2, (some (.int)), oX7_count)
def oL_law : List (Nat × mE) := [(0, .new 7, 3, 0, 0, 0, 0, 0),
  (3, .dup, 4, 0, 0, 0, 0, 0),
  (4, .invokespecial 9, 7, 76, 0, 6, 0, 0),
  (7, .astore_n 1, 8, 1, 0, 0, 0, 0),
  (8, .new 10, 11, 0, 0, 0, 0, 0),
  (11, .dup, 12, 0, 0, 0, 0, 0),
  (12, .invokespecial 12, 15, 111, 0, 7, 0, 0),
  (15, .astore_n 2, 16, 2, 0, 0, 0, 0),
  (16, .iconst 0, 17, 0, 0, 0, (0), 0),
  (17, .istore_n 3, 18, 3, 0, 0, 0, 0),
  (18, .iload_n 3, 19, 3, 0, 0, 0, 0),
  (19, .aload_n 0, 20, 0, 0, 0, 0, 0),
  (20, .arraylength, 21, 0, 0, 0, 0, 0),
  (21, .iconst 5, 22, 0, 0, 0, (5), 0),
  (22, .isub, 23, 0, 0, 0, 0, 0),
  (23, .if_icmp .gt 989, 26, 1012, 0, 0, 0, 0),
  (26, .aload_n 0, 27, 0, 0, 0, 0, 0),
  (27, .iload_n 3, 28, 3, 0, 0, 0, 0),
  (28, .iaload, 29, 0, 0, 0, 0, 0),
  (29, .bipush 31, 31, 0, 0, 0, (31), 0),
  (31, .iand, 32, 0, 0, 0, 0, 0),
  (32, .tableswitch 974 0 23 #[112, 165, 188, 201, 214, 257, 300, 353, 376, 389, 432, 465, 508, 551, 594, 627, 660, 703, 746, 789, 842, 885, 918, 951], 144, 0, 0, 0, 0, 0),
  (144, .aload_n 1, 145, 1, 0, 0, 0, 0),
  (145, .aload_n 0, 146, 0, 0, 0, 0, 0),
  (146, .iload_n 3, 147, 3, 0, 0, 0, 0),
  (147, .iconst 1, 148, 0, 0, 0, (1), 0),
  (148, .iadd, 149, 0, 0, 0, 0, 0),
  (149, .iaload, 150, 0, 0, 0, 0, 0),
  (150, .i2l, 151, 0, 0, 0, 0, 0),
  (151, .bipush 32, 153, 0, 0, 0, (32), 0),
  (153, .lshl, 154, 0, 0, 0, 0, 0),
  (154, .aload_n 0, 155, 0, 0, 0, 0, 0),
  (155, .iload_n 3, 156, 3, 0, 0, 0, 0),
  (156, .iconst 2, 157, 0, 0, 0, (2), 0),
  (157, .iadd, 158, 0, 0, 0, 0, 0),
  (158, .iaload, 159, 0, 0, 0, 0, 0),
  (159, .i2l, 160, 0, 0, 0, 0, 0),
  (160, .ldc2_w 13, 163, 0, 0, 0, 0, (4294967295)),
  (163, .land, 164, 0, 0, 0, 0, 0),
  (164, .lor, 165, 0, 0, 0, 0, 0),
  (165, .invokevirtual 15, 168, 77, 1, 6, 0, 0),
  (168, .aload_n 2, 169, 2, 0, 0, 0, 0),
  (169, .aload_n 0, 170, 0, 0, 0, 0, 0),
  (170, .iload_n 3, 171, 3, 0, 0, 0, 0),
  (171, .iconst 1, 172, 0, 0, 0, (1), 0),
  (172, .iadd, 173, 0, 0, 0, 0, 0),
  (173, .iaload, 174, 0, 0, 0, 0, 0),
  (174, .i2l, 175, 0, 0, 0, 0, 0),
  (175, .bipush 32, 177, 0, 0, 0, (32), 0),
  (177, .lshl, 178, 0, 0, 0, 0, 0),
  (178, .aload_n 0, 179, 0, 0, 0, 0, 0),
  (179, .iload_n 3, 180, 3, 0, 0, 0, 0),
  (180, .iconst 2, 181, 0, 0, 0, (2), 0),
  (181, .iadd, 182, 0, 0, 0, 0, 0),
  (182, .iaload, 183, 0, 0, 0, 0, 0),
  (183, .i2l, 184, 0, 0, 0, 0, 0),
  (184, .ldc2_w 13, 187, 0, 0, 0, 0, (4294967295)),
  (187, .land, 188, 0, 0, 0, 0, 0),
  (188, .lor, 189, 0, 0, 0, 0, 0),
  (189, .invokevirtual 19, 192, 122, 1, 7, 0, 0),
  (192, .if_icmp .eq 814, 195, 1006, 0, 0, 0, 0),
  (195, .iconst 0, 196, 0, 0, 0, (0), 0),
  (196, .ireturn, 197, 0, 0, 1, 0, 0),
  (197, .aload_n 1, 198, 1, 0, 0, 0, 0),
  (198, .aload_n 0, 199, 0, 0, 0, 0, 0),
  (199, .iload_n 3, 200, 3, 0, 0, 0, 0),
  (200, .iconst 1, 201, 0, 0, 0, (1), 0),
  (201, .iadd, 202, 0, 0, 0, 0, 0),
  (202, .iaload, 203, 0, 0, 0, 0, 0),
  (203, .invokevirtual 20, 206, 78, 1, 6, 0, 0),
  (206, .aload_n 2, 207, 2, 0, 0, 0, 0),
  (207, .aload_n 0, 208, 0, 0, 0, 0, 0),
  (208, .iload_n 3, 209, 3, 0, 0, 0, 0),
  (209, .iconst 1, 210, 0, 0, 0, (1), 0),
  (210, .iadd, 211, 0, 0, 0, 0, 0),
  (211, .iaload, 212, 0, 0, 0, 0, 0),
  (212, .invokevirtual 24, 215, 123, 1, 7, 0, 0),
  (215, .if_icmp .eq 791, 218, 1006, 0, 0, 0, 0),
  (218, .iconst 0, 219, 0, 0, 0, (0), 0),
  (219, .ireturn, 220, 0, 0, 1, 0, 0),
  (220, .aload_n 1, 221, 1, 0, 0, 0, 0),
  (221, .invokevirtual 25, 224, 79, 0, 6, 0, 0),
  (224, .aload_n 2, 225, 2, 0, 0, 0, 0),
  (225, .invokevirtual 29, 228, 131, 0, 7, 0, 0),
  (228, .if_icmp .eq 778, 231, 1006, 0, 0, 0, 0),
  (231, .iconst 0, 232, 0, 0, 0, (0), 0),
  (232, .ireturn, 233, 0, 0, 1, 0, 0),
  (233, .aload_n 1, 234, 1, 0, 0, 0, 0),
  (234, .invokevirtual 30, 237, 80, 0, 6, 0, 0),
  (237, .aload_n 2, 238, 2, 0, 0, 0, 0),
  (238, .invokevirtual 33, 241, 132, 0, 7, 0, 0),
  (241, .if_icmp .eq 765, 244, 1006, 0, 0, 0, 0),
  (244, .iconst 0, 245, 0, 0, 0, (0), 0),
  (245, .ireturn, 246, 0, 0, 1, 0, 0),
  (246, .aload_n 1, 247, 1, 0, 0, 0, 0),
  (247, .aload_n 0, 248, 0, 0, 0, 0, 0),
  (248, .iload_n 3, 249, 3, 0, 0, 0, 0),
  (249, .iconst 1, 250, 0, 0, 0, (1), 0),
  (250, .iadd, 251, 0, 0, 0, 0, 0),
  (251, .iaload, 252, 0, 0, 0, 0, 0),
  (252, .aload_n 0, 253, 0, 0, 0, 0, 0),
  (253, .iload_n 3, 254, 3, 0, 0, 0, 0),
  (254, .iconst 2, 255, 0, 0, 0, (2), 0),
  (255, .iadd, 256, 0, 0, 0, 0, 0),
  (256, .iaload, 257, 0, 0, 0, 0, 0),
  (257, .aload_n 0, 258, 0, 0, 0, 0, 0),
  (258, .iload_n 3, 259, 3, 0, 0, 0, 0),
  (259, .iconst 3, 260, 0, 0, 0, (3), 0),
  (260, .iadd, 261, 0, 0, 0, 0, 0),
  (261, .iaload, 262, 0, 0, 0, 0, 0),
  (262, .invokevirtual 34, 265, 81, 3, 6, 0, 0),
  (265, .aload_n 2, 266, 2, 0, 0, 0, 0),
  (266, .aload_n 0, 267, 0, 0, 0, 0, 0),
  (267, .iload_n 3, 268, 3, 0, 0, 0, 0),
  (268, .iconst 1, 269, 0, 0, 0, (1), 0),
  (269, .iadd, 270, 0, 0, 0, 0, 0),
  (270, .iaload, 271, 0, 0, 0, 0, 0),
  (271, .aload_n 0, 272, 0, 0, 0, 0, 0),
  (272, .iload_n 3, 273, 3, 0, 0, 0, 0),
  (273, .iconst 2, 274, 0, 0, 0, (2), 0),
  (274, .iadd, 275, 0, 0, 0, 0, 0),
  (275, .iaload, 276, 0, 0, 0, 0, 0),
  (276, .aload_n 0, 277, 0, 0, 0, 0, 0),
  (277, .iload_n 3, 278, 3, 0, 0, 0, 0),
  (278, .iconst 3, 279, 0, 0, 0, (3), 0),
  (279, .iadd, 280, 0, 0, 0, 0, 0),
  (280, .iaload, 281, 0, 0, 0, 0, 0),
  (281, .invokevirtual 38, 284, 133, 3, 7, 0, 0),
  (284, .if_icmp .eq 722, 287, 1006, 0, 0, 0, 0),
  (287, .iconst 0, 288, 0, 0, 0, (0), 0),
  (288, .ireturn, 289, 0, 0, 1, 0, 0),
  (289, .aload_n 1, 290, 1, 0, 0, 0, 0),
  (290, .aload_n 0, 291, 0, 0, 0, 0, 0),
  (291, .iload_n 3, 292, 3, 0, 0, 0, 0),
  (292, .iconst 1, 293, 0, 0, 0, (1), 0),
  (293, .iadd, 294, 0, 0, 0, 0, 0),
  (294, .iaload, 295, 0, 0, 0, 0, 0),
  (295, .aload_n 0, 296, 0, 0, 0, 0, 0),
  (296, .iload_n 3, 297, 3, 0, 0, 0, 0),
  (297, .iconst 2, 298, 0, 0, 0, (2), 0),
  (298, .iadd, 299, 0, 0, 0, 0, 0),
  (299, .iaload, 300, 0, 0, 0, 0, 0),
  (300, .aload_n 0, 301, 0, 0, 0, 0, 0),
  (301, .iload_n 3, 302, 3, 0, 0, 0, 0),
  (302, .iconst 3, 303, 0, 0, 0, (3), 0),
  (303, .iadd, 304, 0, 0, 0, 0, 0),
  (304, .iaload, 305, 0, 0, 0, 0, 0),
  (305, .invokevirtual 39, 308, 82, 3, 6, 0, 0),
  (308, .aload_n 2, 309, 2, 0, 0, 0, 0),
  (309, .aload_n 0, 310, 0, 0, 0, 0, 0),
  (310, .iload_n 3, 311, 3, 0, 0, 0, 0),
  (311, .iconst 1, 312, 0, 0, 0, (1), 0),
  (312, .iadd, 313, 0, 0, 0, 0, 0),
  (313, .iaload, 314, 0, 0, 0, 0, 0),
  (314, .aload_n 0, 315, 0, 0, 0, 0, 0),
  (315, .iload_n 3, 316, 3, 0, 0, 0, 0),
  (316, .iconst 2, 317, 0, 0, 0, (2), 0),
  (317, .iadd, 318, 0, 0, 0, 0, 0),
  (318, .iaload, 319, 0, 0, 0, 0, 0),
  (319, .aload_n 0, 320, 0, 0, 0, 0, 0),
  (320, .iload_n 3, 321, 3, 0, 0, 0, 0),
  (321, .iconst 3, 322, 0, 0, 0, (3), 0),
  (322, .iadd, 323, 0, 0, 0, 0, 0),
  (323, .iaload, 324, 0, 0, 0, 0, 0),
  (324, .invokevirtual 42, 327, 134, 3, 7, 0, 0),
  (327, .if_icmp .eq 679, 330, 1006, 0, 0, 0, 0),
  (330, .iconst 0, 331, 0, 0, 0, (0), 0),
  (331, .ireturn, 332, 0, 0, 1, 0, 0),
  (332, .aload_n 1, 333, 1, 0, 0, 0, 0),
  (333, .aload_n 0, 334, 0, 0, 0, 0, 0),
  (334, .iload_n 3, 335, 3, 0, 0, 0, 0),
  (335, .iconst 1, 336, 0, 0, 0, (1), 0),
  (336, .iadd, 337, 0, 0, 0, 0, 0),
  (337, .iaload, 338, 0, 0, 0, 0, 0),
  (338, .aload_n 0, 339, 0, 0, 0, 0, 0),
  (339, .iload_n 3, 340, 3, 0, 0, 0, 0),
  (340, .iconst 2, 341, 0, 0, 0, (2), 0),
  (341, .iadd, 342, 0, 0, 0, 0, 0),
  (342, .iaload, 343, 0, 0, 0, 0, 0),
  (343, .aload_n 0, 344, 0, 0, 0, 0, 0),
  (344, .iload_n 3, 345, 3, 0, 0, 0, 0),
  (345, .iconst 3, 346, 0, 0, 0, (3), 0),
  (346, .iadd, 347, 0, 0, 0, 0, 0),
  (347, .iaload, 348, 0, 0, 0, 0, 0),
  (348, .aload_n 0, 349, 0, 0, 0, 0, 0),
  (349, .iload_n 3, 350, 3, 0, 0, 0, 0),
  (350, .iconst 4, 351, 0, 0, 0, (4), 0),
  (351, .iadd, 352, 0, 0, 0, 0, 0),
  (352, .iaload, 353, 0, 0, 0, 0, 0),
  (353, .invokevirtual 43, 356, 83, 4, 6, 0, 0),
  (356, .aload_n 2, 357, 2, 0, 0, 0, 0),
  (357, .aload_n 0, 358, 0, 0, 0, 0, 0),
  (358, .iload_n 3, 359, 3, 0, 0, 0, 0),
  (359, .iconst 1, 360, 0, 0, 0, (1), 0),
  (360, .iadd, 361, 0, 0, 0, 0, 0),
  (361, .iaload, 362, 0, 0, 0, 0, 0),
  (362, .aload_n 0, 363, 0, 0, 0, 0, 0),
  (363, .iload_n 3, 364, 3, 0, 0, 0, 0),
  (364, .iconst 2, 365, 0, 0, 0, (2), 0),
  (365, .iadd, 366, 0, 0, 0, 0, 0),
  (366, .iaload, 367, 0, 0, 0, 0, 0),
  (367, .aload_n 0, 368, 0, 0, 0, 0, 0),
  (368, .iload_n 3, 369, 3, 0, 0, 0, 0),
  (369, .iconst 3, 370, 0, 0, 0, (3), 0),
  (370, .iadd, 371, 0, 0, 0, 0, 0),
  (371, .iaload, 372, 0, 0, 0, 0, 0),
  (372, .aload_n 0, 373, 0, 0, 0, 0, 0),
  (373, .iload_n 3, 374, 3, 0, 0, 0, 0),
  (374, .iconst 4, 375, 0, 0, 0, (4), 0),
  (375, .iadd, 376, 0, 0, 0, 0, 0),
  (376, .iaload, 377, 0, 0, 0, 0, 0),
  (377, .invokevirtual 47, 380, 135, 4, 7, 0, 0),
  (380, .if_icmp .eq 626, 383, 1006, 0, 0, 0, 0),
  (383, .iconst 0, 384, 0, 0, 0, (0), 0),
  (384, .ireturn, 385, 0, 0, 1, 0, 0),
  (385, .aload_n 1, 386, 1, 0, 0, 0, 0),
  (386, .aload_n 0, 387, 0, 0, 0, 0, 0),
  (387, .iload_n 3, 388, 3, 0, 0, 0, 0),
  (388, .iconst 1, 389, 0, 0, 0, (1), 0),
  (389, .iadd, 390, 0, 0, 0, 0, 0),
  (390, .iaload, 391, 0, 0, 0, 0, 0),
  (391, .invokevirtual 48, 394, 84, 1, 6, 0, 0),
  (394, .aload_n 2, 395, 2, 0, 0, 0, 0),
  (395, .aload_n 0, 396, 0, 0, 0, 0, 0),
  (396, .iload_n 3, 397, 3, 0, 0, 0, 0),
  (397, .iconst 1, 398, 0, 0, 0, (1), 0),
  (398, .iadd, 399, 0, 0, 0, 0, 0),
  (399, .iaload, 400, 0, 0, 0, 0, 0),
  (400, .invokevirtual 51, 403, 136, 1, 7, 0, 0),
  (403, .if_icmp .eq 603, 406, 1006, 0, 0, 0, 0),
  (406, .iconst 0, 407, 0, 0, 0, (0), 0),
  (407, .ireturn, 408, 0, 0, 1, 0, 0),
  (408, .aload_n 1, 409, 1, 0, 0, 0, 0),
  (409, .invokevirtual 52, 412, 85, 0, 6, 0, 0),
  (412, .aload_n 2, 413, 2, 0, 0, 0, 0),
  (413, .invokevirtual 55, 416, 137, 0, 7, 0, 0),
  (416, .if_icmp .eq 590, 419, 1006, 0, 0, 0, 0),
  (419, .iconst 0, 420, 0, 0, 0, (0), 0),
  (420, .ireturn, 421, 0, 0, 1, 0, 0),
  (421, .aload_n 1, 422, 1, 0, 0, 0, 0),
  (422, .aload_n 0, 423, 0, 0, 0, 0, 0),
  (423, .iload_n 3, 424, 3, 0, 0, 0, 0),
  (424, .iconst 1, 425, 0, 0, 0, (1), 0),
  (425, .iadd, 426, 0, 0, 0, 0, 0),
  (426, .iaload, 427, 0, 0, 0, 0, 0),
  (427, .aload_n 0, 428, 0, 0, 0, 0, 0),
  (428, .iload_n 3, 429, 3, 0, 0, 0, 0),
  (429, .iconst 2, 430, 0, 0, 0, (2), 0),
  (430, .iadd, 431, 0, 0, 0, 0, 0),
  (431, .iaload, 432, 0, 0, 0, 0, 0),
  (432, .aload_n 0, 433, 0, 0, 0, 0, 0),
  (433, .iload_n 3, 434, 3, 0, 0, 0, 0),
  (434, .iconst 3, 435, 0, 0, 0, (3), 0),
  (435, .iadd, 436, 0, 0, 0, 0, 0),
  (436, .iaload, 437, 0, 0, 0, 0, 0),
  (437, .invokevirtual 56, 440, 86, 3, 6, 0, 0),
  (440, .aload_n 2, 441, 2, 0, 0, 0, 0),
  (441, .aload_n 0, 442, 0, 0, 0, 0, 0),
  (442, .iload_n 3, 443, 3, 0, 0, 0, 0),
  (443, .iconst 1, 444, 0, 0, 0, (1), 0),
  (444, .iadd, 445, 0, 0, 0, 0, 0),
  (445, .iaload, 446, 0, 0, 0, 0, 0),
  (446, .aload_n 0, 447, 0, 0, 0, 0, 0),
  (447, .iload_n 3, 448, 3, 0, 0, 0, 0),
  (448, .iconst 2, 449, 0, 0, 0, (2), 0),
  (449, .iadd, 450, 0, 0, 0, 0, 0),
  (450, .iaload, 451, 0, 0, 0, 0, 0),
  (451, .aload_n 0, 452, 0, 0, 0, 0, 0),
  (452, .iload_n 3, 453, 3, 0, 0, 0, 0),
  (453, .iconst 3, 454, 0, 0, 0, (3), 0),
  (454, .iadd, 455, 0, 0, 0, 0, 0),
  (455, .iaload, 456, 0, 0, 0, 0, 0),
  (456, .invokevirtual 59, 459, 138, 3, 7, 0, 0),
  (459, .if_icmp .eq 547, 462, 1006, 0, 0, 0, 0),
  (462, .iconst 0, 463, 0, 0, 0, (0), 0),
  (463, .ireturn, 464, 0, 0, 1, 0, 0),
  (464, .aload_n 1, 465, 1, 0, 0, 0, 0),
  (465, .aload_n 0, 466, 0, 0, 0, 0, 0),
  (466, .iload_n 3, 467, 3, 0, 0, 0, 0),
  (467, .iconst 1, 468, 0, 0, 0, (1), 0),
  (468, .iadd, 469, 0, 0, 0, 0, 0),
  (469, .iaload, 470, 0, 0, 0, 0, 0),
  (470, .aload_n 0, 471, 0, 0, 0, 0, 0),
  (471, .iload_n 3, 472, 3, 0, 0, 0, 0),
  (472, .iconst 2, 473, 0, 0, 0, (2), 0),
  (473, .iadd, 474, 0, 0, 0, 0, 0),
  (474, .iaload, 475, 0, 0, 0, 0, 0),
  (475, .invokevirtual 60, 478, 87, 2, 6, 0, 0),
  (478, .aload_n 2, 479, 2, 0, 0, 0, 0),
  (479, .aload_n 0, 480, 0, 0, 0, 0, 0),
  (480, .iload_n 3, 481, 3, 0, 0, 0, 0),
  (481, .iconst 1, 482, 0, 0, 0, (1), 0),
  (482, .iadd, 483, 0, 0, 0, 0, 0),
  (483, .iaload, 484, 0, 0, 0, 0, 0),
  (484, .aload_n 0, 485, 0, 0, 0, 0, 0),
  (485, .iload_n 3, 486, 3, 0, 0, 0, 0),
  (486, .iconst 2, 487, 0, 0, 0, (2), 0),
  (487, .iadd, 488, 0, 0, 0, 0, 0),
  (488, .iaload, 489, 0, 0, 0, 0, 0),
  (489, .invokevirtual 64, 492, 142, 2, 7, 0, 0),
  (492, .if_icmp .eq 514, 495, 1006, 0, 0, 0, 0),
  (495, .iconst 0, 496, 0, 0, 0, (0), 0),
  (496, .ireturn, 497, 0, 0, 1, 0, 0),
  (497, .aload_n 1, 498, 1, 0, 0, 0, 0),
  (498, .aload_n 0, 499, 0, 0, 0, 0, 0),
  (499, .iload_n 3, 500, 3, 0, 0, 0, 0),
  (500, .iconst 1, 501, 0, 0, 0, (1), 0),
  (501, .iadd, 502, 0, 0, 0, 0, 0),
  (502, .iaload, 503, 0, 0, 0, 0, 0),
  (503, .aload_n 0, 504, 0, 0, 0, 0, 0),
  (504, .iload_n 3, 505, 3, 0, 0, 0, 0),
  (505, .iconst 2, 506, 0, 0, 0, (2), 0),
  (506, .iadd, 507, 0, 0, 0, 0, 0),
  (507, .iaload, 508, 0, 0, 0, 0, 0),
  (508, .aload_n 0, 509, 0, 0, 0, 0, 0),
  (509, .iload_n 3, 510, 3, 0, 0, 0, 0),
  (510, .iconst 3, 511, 0, 0, 0, (3), 0),
  (511, .iadd, 512, 0, 0, 0, 0, 0),
  (512, .iaload, 513, 0, 0, 0, 0, 0),
  (513, .invokevirtual 65, 516, 88, 3, 6, 0, 0),
  (516, .aload_n 2, 517, 2, 0, 0, 0, 0),
  (517, .aload_n 0, 518, 0, 0, 0, 0, 0),
  (518, .iload_n 3, 519, 3, 0, 0, 0, 0),
  (519, .iconst 1, 520, 0, 0, 0, (1), 0),
  (520, .iadd, 521, 0, 0, 0, 0, 0),
  (521, .iaload, 522, 0, 0, 0, 0, 0),
  (522, .aload_n 0, 523, 0, 0, 0, 0, 0),
  (523, .iload_n 3, 524, 3, 0, 0, 0, 0),
  (524, .iconst 2, 525, 0, 0, 0, (2), 0),
  (525, .iadd, 526, 0, 0, 0, 0, 0),
  (526, .iaload, 527, 0, 0, 0, 0, 0),
  (527, .aload_n 0, 528, 0, 0, 0, 0, 0),
  (528, .iload_n 3, 529, 3, 0, 0, 0, 0),
  (529, .iconst 3, 530, 0, 0, 0, (3), 0),
  (530, .iadd, 531, 0, 0, 0, 0, 0),
  (531, .iaload, 532, 0, 0, 0, 0, 0),
  (532, .invokevirtual 68, 535, 143, 3, 7, 0, 0),
  (535, .if_icmp .eq 471, 538, 1006, 0, 0, 0, 0),
  (538, .iconst 0, 539, 0, 0, 0, (0), 0),
  (539, .ireturn, 540, 0, 0, 1, 0, 0),
  (540, .aload_n 1, 541, 1, 0, 0, 0, 0),
  (541, .aload_n 0, 542, 0, 0, 0, 0, 0),
  (542, .iload_n 3, 543, 3, 0, 0, 0, 0),
  (543, .iconst 1, 544, 0, 0, 0, (1), 0),
  (544, .iadd, 545, 0, 0, 0, 0, 0),
  (545, .iaload, 546, 0, 0, 0, 0, 0),
  (546, .aload_n 0, 547, 0, 0, 0, 0, 0),
  (547, .iload_n 3, 548, 3, 0, 0, 0, 0),
  (548, .iconst 2, 549, 0, 0, 0, (2), 0),
  (549, .iadd, 550, 0, 0, 0, 0, 0),
  (550, .iaload, 551, 0, 0, 0, 0, 0),
  (551, .aload_n 0, 552, 0, 0, 0, 0, 0),
  (552, .iload_n 3, 553, 3, 0, 0, 0, 0),
  (553, .iconst 3, 554, 0, 0, 0, (3), 0),
  (554, .iadd, 555, 0, 0, 0, 0, 0),
  (555, .iaload, 556, 0, 0, 0, 0, 0),
  (556, .invokevirtual 69, 559, 89, 3, 6, 0, 0),
  (559, .aload_n 2, 560, 2, 0, 0, 0, 0),
  (560, .aload_n 0, 561, 0, 0, 0, 0, 0),
  (561, .iload_n 3, 562, 3, 0, 0, 0, 0),
  (562, .iconst 1, 563, 0, 0, 0, (1), 0),
  (563, .iadd, 564, 0, 0, 0, 0, 0),
  (564, .iaload, 565, 0, 0, 0, 0, 0),
  (565, .aload_n 0, 566, 0, 0, 0, 0, 0),
  (566, .iload_n 3, 567, 3, 0, 0, 0, 0),
  (567, .iconst 2, 568, 0, 0, 0, (2), 0),
  (568, .iadd, 569, 0, 0, 0, 0, 0),
  (569, .iaload, 570, 0, 0, 0, 0, 0),
  (570, .aload_n 0, 571, 0, 0, 0, 0, 0),
  (571, .iload_n 3, 572, 3, 0, 0, 0, 0),
  (572, .iconst 3, 573, 0, 0, 0, (3), 0),
  (573, .iadd, 574, 0, 0, 0, 0, 0),
  (574, .iaload, 575, 0, 0, 0, 0, 0),
  (575, .invokevirtual 72, 578, 145, 3, 7, 0, 0),
  (578, .if_icmp .eq 428, 581, 1006, 0, 0, 0, 0),
  (581, .iconst 0, 582, 0, 0, 0, (0), 0),
  (582, .ireturn, 583, 0, 0, 1, 0, 0),
  (583, .aload_n 1, 584, 1, 0, 0, 0, 0),
  (584, .aload_n 0, 585, 0, 0, 0, 0, 0),
  (585, .iload_n 3, 586, 3, 0, 0, 0, 0),
  (586, .iconst 1, 587, 0, 0, 0, (1), 0),
  (587, .iadd, 588, 0, 0, 0, 0, 0),
  (588, .iaload, 589, 0, 0, 0, 0, 0),
  (589, .aload_n 0, 590, 0, 0, 0, 0, 0),
  (590, .iload_n 3, 591, 3, 0, 0, 0, 0),
  (591, .iconst 2, 592, 0, 0, 0, (2), 0),
  (592, .iadd, 593, 0, 0, 0, 0, 0),
  (593, .iaload, 594, 0, 0, 0, 0, 0),
  (594, .aload_n 0, 595, 0, 0, 0, 0, 0),
  (595, .iload_n 3, 596, 3, 0, 0, 0, 0),
  (596, .iconst 3, 597, 0, 0, 0, (3), 0),
  (597, .iadd, 598, 0, 0, 0, 0, 0),
  (598, .iaload, 599, 0, 0, 0, 0, 0),
  (599, .invokevirtual 73, 602, 90, 3, 6, 0, 0),
  (602, .aload_n 2, 603, 2, 0, 0, 0, 0),
  (603, .aload_n 0, 604, 0, 0, 0, 0, 0),
  (604, .iload_n 3, 605, 3, 0, 0, 0, 0),
  (605, .iconst 1, 606, 0, 0, 0, (1), 0),
  (606, .iadd, 607, 0, 0, 0, 0, 0),
  (607, .iaload, 608, 0, 0, 0, 0, 0),
  (608, .aload_n 0, 609, 0, 0, 0, 0, 0),
  (609, .iload_n 3, 610, 3, 0, 0, 0, 0),
  (610, .iconst 2, 611, 0, 0, 0, (2), 0),
  (611, .iadd, 612, 0, 0, 0, 0, 0),
  (612, .iaload, 613, 0, 0, 0, 0, 0),
  (613, .aload_n 0, 614, 0, 0, 0, 0, 0),
  (614, .iload_n 3, 615, 3, 0, 0, 0, 0),
  (615, .iconst 3, 616, 0, 0, 0, (3), 0),
  (616, .iadd, 617, 0, 0, 0, 0, 0),
  (617, .iaload, 618, 0, 0, 0, 0, 0),
  (618, .invokevirtual 76, 621, 146, 3, 7, 0, 0),
  (621, .if_icmp .eq 385, 624, 1006, 0, 0, 0, 0),
  (624, .iconst 0, 625, 0, 0, 0, (0), 0),
  (625, .ireturn, 626, 0, 0, 1, 0, 0),
  (626, .aload_n 1, 627, 1, 0, 0, 0, 0),
  (627, .aload_n 0, 628, 0, 0, 0, 0, 0),
  (628, .iload_n 3, 629, 3, 0, 0, 0, 0),
  (629, .iconst 1, 630, 0, 0, 0, (1), 0),
  (630, .iadd, 631, 0, 0, 0, 0, 0),
  (631, .iaload, 632, 0, 0, 0, 0, 0),
  (632, .aload_n 0, 633, 0, 0, 0, 0, 0),
  (633, .iload_n 3, 634, 3, 0, 0, 0, 0),
  (634, .iconst 2, 635, 0, 0, 0, (2), 0),
  (635, .iadd, 636, 0, 0, 0, 0, 0),
  (636, .iaload, 637, 0, 0, 0, 0, 0),
  (637, .invokevirtual 77, 640, 91, 2, 6, 0, 0),
  (640, .aload_n 2, 641, 2, 0, 0, 0, 0),
  (641, .aload_n 0, 642, 0, 0, 0, 0, 0),
  (642, .iload_n 3, 643, 3, 0, 0, 0, 0),
  (643, .iconst 1, 644, 0, 0, 0, (1), 0),
  (644, .iadd, 645, 0, 0, 0, 0, 0),
  (645, .iaload, 646, 0, 0, 0, 0, 0),
  (646, .aload_n 0, 647, 0, 0, 0, 0, 0),
  (647, .iload_n 3, 648, 3, 0, 0, 0, 0),
  (648, .iconst 2, 649, 0, 0, 0, (2), 0),
  (649, .iadd, 650, 0, 0, 0, 0, 0),
  (650, .iaload, 651, 0, 0, 0, 0, 0),
  (651, .invokevirtual 80, 654, 148, 2, 7, 0, 0),
  (654, .if_icmp .eq 352, 657, 1006, 0, 0, 0, 0),
  (657, .iconst 0, 658, 0, 0, 0, (0), 0),
  (658, .ireturn, 659, 0, 0, 1, 0, 0),
  (659, .aload_n 1, 660, 1, 0, 0, 0, 0),
  (660, .aload_n 0, 661, 0, 0, 0, 0, 0),
  (661, .iload_n 3, 662, 3, 0, 0, 0, 0),
  (662, .iconst 1, 663, 0, 0, 0, (1), 0),
  (663, .iadd, 664, 0, 0, 0, 0, 0),
  (664, .iaload, 665, 0, 0, 0, 0, 0),
  (665, .aload_n 0, 666, 0, 0, 0, 0, 0),
  (666, .iload_n 3, 667, 3, 0, 0, 0, 0),
  (667, .iconst 2, 668, 0, 0, 0, (2), 0),
  (668, .iadd, 669, 0, 0, 0, 0, 0),
  (669, .iaload, 670, 0, 0, 0, 0, 0),
  (670, .invokevirtual 81, 673, 92, 2, 6, 0, 0),
  (673, .aload_n 2, 674, 2, 0, 0, 0, 0),
  (674, .aload_n 0, 675, 0, 0, 0, 0, 0),
  (675, .iload_n 3, 676, 3, 0, 0, 0, 0),
  (676, .iconst 1, 677, 0, 0, 0, (1), 0),
  (677, .iadd, 678, 0, 0, 0, 0, 0),
  (678, .iaload, 679, 0, 0, 0, 0, 0),
  (679, .aload_n 0, 680, 0, 0, 0, 0, 0),
  (680, .iload_n 3, 681, 3, 0, 0, 0, 0),
  (681, .iconst 2, 682, 0, 0, 0, (2), 0),
  (682, .iadd, 683, 0, 0, 0, 0, 0),
  (683, .iaload, 684, 0, 0, 0, 0, 0),
  (684, .invokevirtual 84, 687, 150, 2, 7, 0, 0),
  (687, .if_icmp .eq 319, 690, 1006, 0, 0, 0, 0),
  (690, .iconst 0, 691, 0, 0, 0, (0), 0),
  (691, .ireturn, 692, 0, 0, 1, 0, 0),
  (692, .aload_n 1, 693, 1, 0, 0, 0, 0),
  (693, .aload_n 0, 694, 0, 0, 0, 0, 0),
  (694, .iload_n 3, 695, 3, 0, 0, 0, 0),
  (695, .iconst 1, 696, 0, 0, 0, (1), 0),
  (696, .iadd, 697, 0, 0, 0, 0, 0),
  (697, .iaload, 698, 0, 0, 0, 0, 0),
  (698, .aload_n 0, 699, 0, 0, 0, 0, 0),
  (699, .iload_n 3, 700, 3, 0, 0, 0, 0),
  (700, .iconst 2, 701, 0, 0, 0, (2), 0),
  (701, .iadd, 702, 0, 0, 0, 0, 0),
  (702, .iaload, 703, 0, 0, 0, 0, 0),
  (703, .aload_n 0, 704, 0, 0, 0, 0, 0),
  (704, .iload_n 3, 705, 3, 0, 0, 0, 0),
  (705, .iconst 3, 706, 0, 0, 0, (3), 0),
  (706, .iadd, 707, 0, 0, 0, 0, 0),
  (707, .iaload, 708, 0, 0, 0, 0, 0),
  (708, .invokevirtual 85, 711, 93, 3, 6, 0, 0),
  (711, .aload_n 2, 712, 2, 0, 0, 0, 0),
  (712, .aload_n 0, 713, 0, 0, 0, 0, 0),
  (713, .iload_n 3, 714, 3, 0, 0, 0, 0),
  (714, .iconst 1, 715, 0, 0, 0, (1), 0),
  (715, .iadd, 716, 0, 0, 0, 0, 0),
  (716, .iaload, 717, 0, 0, 0, 0, 0),
  (717, .aload_n 0, 718, 0, 0, 0, 0, 0),
  (718, .iload_n 3, 719, 3, 0, 0, 0, 0),
  (719, .iconst 2, 720, 0, 0, 0, (2), 0),
  (720, .iadd, 721, 0, 0, 0, 0, 0),
  (721, .iaload, 722, 0, 0, 0, 0, 0),
  (722, .aload_n 0, 723, 0, 0, 0, 0, 0),
  (723, .iload_n 3, 724, 3, 0, 0, 0, 0),
  (724, .iconst 3, 725, 0, 0, 0, (3), 0),
  (725, .iadd, 726, 0, 0, 0, 0, 0),
  (726, .iaload, 727, 0, 0, 0, 0, 0),
  (727, .invokevirtual 88, 730, 157, 3, 7, 0, 0),
  (730, .if_icmp .eq 276, 733, 1006, 0, 0, 0, 0),
  (733, .iconst 0, 734, 0, 0, 0, (0), 0),
  (734, .ireturn, 735, 0, 0, 1, 0, 0),
  (735, .aload_n 1, 736, 1, 0, 0, 0, 0),
  (736, .aload_n 0, 737, 0, 0, 0, 0, 0),
  (737, .iload_n 3, 738, 3, 0, 0, 0, 0),
  (738, .iconst 1, 739, 0, 0, 0, (1), 0),
  (739, .iadd, 740, 0, 0, 0, 0, 0),
  (740, .iaload, 741, 0, 0, 0, 0, 0),
  (741, .aload_n 0, 742, 0, 0, 0, 0, 0),
  (742, .iload_n 3, 743, 3, 0, 0, 0, 0),
  (743, .iconst 2, 744, 0, 0, 0, (2), 0),
  (744, .iadd, 745, 0, 0, 0, 0, 0),
  (745, .iaload, 746, 0, 0, 0, 0, 0),
  (746, .aload_n 0, 747, 0, 0, 0, 0, 0),
  (747, .iload_n 3, 748, 3, 0, 0, 0, 0),
  (748, .iconst 3, 749, 0, 0, 0, (3), 0),
  (749, .iadd, 750, 0, 0, 0, 0, 0),
  (750, .iaload, 751, 0, 0, 0, 0, 0),
  (751, .invokevirtual 89, 754, 94, 3, 6, 0, 0),
  (754, .aload_n 2, 755, 2, 0, 0, 0, 0),
  (755, .aload_n 0, 756, 0, 0, 0, 0, 0),
  (756, .iload_n 3, 757, 3, 0, 0, 0, 0),
  (757, .iconst 1, 758, 0, 0, 0, (1), 0),
  (758, .iadd, 759, 0, 0, 0, 0, 0),
  (759, .iaload, 760, 0, 0, 0, 0, 0),
  (760, .aload_n 0, 761, 0, 0, 0, 0, 0),
  (761, .iload_n 3, 762, 3, 0, 0, 0, 0),
  (762, .iconst 2, 763, 0, 0, 0, (2), 0),
  (763, .iadd, 764, 0, 0, 0, 0, 0),
  (764, .iaload, 765, 0, 0, 0, 0, 0),
  (765, .aload_n 0, 766, 0, 0, 0, 0, 0),
  (766, .iload_n 3, 767, 3, 0, 0, 0, 0),
  (767, .iconst 3, 768, 0, 0, 0, (3), 0),
  (768, .iadd, 769, 0, 0, 0, 0, 0),
  (769, .iaload, 770, 0, 0, 0, 0, 0),
  (770, .invokevirtual 92, 773, 158, 3, 7, 0, 0),
  (773, .if_icmp .eq 233, 776, 1006, 0, 0, 0, 0),
  (776, .iconst 0, 777, 0, 0, 0, (0), 0),
  (777, .ireturn, 778, 0, 0, 1, 0, 0),
  (778, .aload_n 1, 779, 1, 0, 0, 0, 0),
  (779, .aload_n 0, 780, 0, 0, 0, 0, 0),
  (780, .iload_n 3, 781, 3, 0, 0, 0, 0),
  (781, .iconst 1, 782, 0, 0, 0, (1), 0),
  (782, .iadd, 783, 0, 0, 0, 0, 0),
  (783, .iaload, 784, 0, 0, 0, 0, 0),
  (784, .aload_n 0, 785, 0, 0, 0, 0, 0),
  (785, .iload_n 3, 786, 3, 0, 0, 0, 0),
  (786, .iconst 2, 787, 0, 0, 0, (2), 0),
  (787, .iadd, 788, 0, 0, 0, 0, 0),
  (788, .iaload, 789, 0, 0, 0, 0, 0),
  (789, .aload_n 0, 790, 0, 0, 0, 0, 0),
  (790, .iload_n 3, 791, 3, 0, 0, 0, 0),
  (791, .iconst 3, 792, 0, 0, 0, (3), 0),
  (792, .iadd, 793, 0, 0, 0, 0, 0),
  (793, .iaload, 794, 0, 0, 0, 0, 0),
  (794, .invokevirtual 93, 797, 95, 3, 6, 0, 0),
  (797, .aload_n 2, 798, 2, 0, 0, 0, 0),
  (798, .aload_n 0, 799, 0, 0, 0, 0, 0),
  (799, .iload_n 3, 800, 3, 0, 0, 0, 0),
  (800, .iconst 1, 801, 0, 0, 0, (1), 0),
  (801, .iadd, 802, 0, 0, 0, 0, 0),
  (802, .iaload, 803, 0, 0, 0, 0, 0),
  (803, .aload_n 0, 804, 0, 0, 0, 0, 0),
  (804, .iload_n 3, 805, 3, 0, 0, 0, 0),
  (805, .iconst 2, 806, 0, 0, 0, (2), 0),
  (806, .iadd, 807, 0, 0, 0, 0, 0),
  (807, .iaload, 808, 0, 0, 0, 0, 0),
  (808, .aload_n 0, 809, 0, 0, 0, 0, 0),
  (809, .iload_n 3, 810, 3, 0, 0, 0, 0),
  (810, .iconst 3, 811, 0, 0, 0, (3), 0),
  (811, .iadd, 812, 0, 0, 0, 0, 0),
  (812, .iaload, 813, 0, 0, 0, 0, 0),
  (813, .invokevirtual 96, 816, 168, 3, 7, 0, 0),
  (816, .if_icmp .eq 190, 819, 1006, 0, 0, 0, 0),
  (819, .iconst 0, 820, 0, 0, 0, (0), 0),
  (820, .ireturn, 821, 0, 0, 1, 0, 0),
  (821, .aload_n 1, 822, 1, 0, 0, 0, 0),
  (822, .aload_n 0, 823, 0, 0, 0, 0, 0),
  (823, .iload_n 3, 824, 3, 0, 0, 0, 0),
  (824, .iconst 1, 825, 0, 0, 0, (1), 0),
  (825, .iadd, 826, 0, 0, 0, 0, 0),
  (826, .iaload, 827, 0, 0, 0, 0, 0),
  (827, .aload_n 0, 828, 0, 0, 0, 0, 0),
  (828, .iload_n 3, 829, 3, 0, 0, 0, 0),
  (829, .iconst 2, 830, 0, 0, 0, (2), 0),
  (830, .iadd, 831, 0, 0, 0, 0, 0),
  (831, .iaload, 832, 0, 0, 0, 0, 0),
  (832, .aload_n 0, 833, 0, 0, 0, 0, 0),
  (833, .iload_n 3, 834, 3, 0, 0, 0, 0),
  (834, .iconst 3, 835, 0, 0, 0, (3), 0),
  (835, .iadd, 836, 0, 0, 0, 0, 0),
  (836, .iaload, 837, 0, 0, 0, 0, 0),
  (837, .aload_n 0, 838, 0, 0, 0, 0, 0),
  (838, .iload_n 3, 839, 3, 0, 0, 0, 0),
  (839, .iconst 4, 840, 0, 0, 0, (4), 0),
  (840, .iadd, 841, 0, 0, 0, 0, 0),
  (841, .iaload, 842, 0, 0, 0, 0, 0),
  (842, .invokevirtual 97, 845, 96, 4, 6, 0, 0),
  (845, .aload_n 2, 846, 2, 0, 0, 0, 0),
  (846, .aload_n 0, 847, 0, 0, 0, 0, 0),
  (847, .iload_n 3, 848, 3, 0, 0, 0, 0),
  (848, .iconst 1, 849, 0, 0, 0, (1), 0),
  (849, .iadd, 850, 0, 0, 0, 0, 0),
  (850, .iaload, 851, 0, 0, 0, 0, 0),
  (851, .aload_n 0, 852, 0, 0, 0, 0, 0),
  (852, .iload_n 3, 853, 3, 0, 0, 0, 0),
  (853, .iconst 2, 854, 0, 0, 0, (2), 0),
  (854, .iadd, 855, 0, 0, 0, 0, 0),
  (855, .iaload, 856, 0, 0, 0, 0, 0),
  (856, .aload_n 0, 857, 0, 0, 0, 0, 0),
  (857, .iload_n 3, 858, 3, 0, 0, 0, 0),
  (858, .iconst 3, 859, 0, 0, 0, (3), 0),
  (859, .iadd, 860, 0, 0, 0, 0, 0),
  (860, .iaload, 861, 0, 0, 0, 0, 0),
  (861, .aload_n 0, 862, 0, 0, 0, 0, 0),
  (862, .iload_n 3, 863, 3, 0, 0, 0, 0),
  (863, .iconst 4, 864, 0, 0, 0, (4), 0),
  (864, .iadd, 865, 0, 0, 0, 0, 0),
  (865, .iaload, 866, 0, 0, 0, 0, 0),
  (866, .invokevirtual 100, 869, 169, 4, 7, 0, 0),
  (869, .if_icmp .eq 137, 872, 1006, 0, 0, 0, 0),
  (872, .iconst 0, 873, 0, 0, 0, (0), 0),
  (873, .ireturn, 874, 0, 0, 1, 0, 0),
  (874, .aload_n 1, 875, 1, 0, 0, 0, 0),
  (875, .aload_n 0, 876, 0, 0, 0, 0, 0),
  (876, .iload_n 3, 877, 3, 0, 0, 0, 0),
  (877, .iconst 1, 878, 0, 0, 0, (1), 0),
  (878, .iadd, 879, 0, 0, 0, 0, 0),
  (879, .iaload, 880, 0, 0, 0, 0, 0),
  (880, .aload_n 0, 881, 0, 0, 0, 0, 0),
  (881, .iload_n 3, 882, 3, 0, 0, 0, 0),
  (882, .iconst 2, 883, 0, 0, 0, (2), 0),
  (883, .iadd, 884, 0, 0, 0, 0, 0),
  (884, .iaload, 885, 0, 0, 0, 0, 0),
  (885, .aload_n 0, 886, 0, 0, 0, 0, 0),
  (886, .iload_n 3, 887, 3, 0, 0, 0, 0),
  (887, .iconst 3, 888, 0, 0, 0, (3), 0),
  (888, .iadd, 889, 0, 0, 0, 0, 0),
  (889, .iaload, 890, 0, 0, 0, 0, 0),
  (890, .invokevirtual 101, 893, 97, 3, 6, 0, 0),
  (893, .aload_n 2, 894, 2, 0, 0, 0, 0),
  (894, .aload_n 0, 895, 0, 0, 0, 0, 0),
  (895, .iload_n 3, 896, 3, 0, 0, 0, 0),
  (896, .iconst 1, 897, 0, 0, 0, (1), 0),
  (897, .iadd, 898, 0, 0, 0, 0, 0),
  (898, .iaload, 899, 0, 0, 0, 0, 0),
  (899, .aload_n 0, 900, 0, 0, 0, 0, 0),
  (900, .iload_n 3, 901, 3, 0, 0, 0, 0),
  (901, .iconst 2, 902, 0, 0, 0, (2), 0),
  (902, .iadd, 903, 0, 0, 0, 0, 0),
  (903, .iaload, 904, 0, 0, 0, 0, 0),
  (904, .aload_n 0, 905, 0, 0, 0, 0, 0),
  (905, .iload_n 3, 906, 3, 0, 0, 0, 0),
  (906, .iconst 3, 907, 0, 0, 0, (3), 0),
  (907, .iadd, 908, 0, 0, 0, 0, 0),
  (908, .iaload, 909, 0, 0, 0, 0, 0),
  (909, .invokevirtual 104, 912, 170, 3, 7, 0, 0),
  (912, .if_icmp .eq 94, 915, 1006, 0, 0, 0, 0),
  (915, .iconst 0, 916, 0, 0, 0, (0), 0),
  (916, .ireturn, 917, 0, 0, 1, 0, 0),
  (917, .aload_n 1, 918, 1, 0, 0, 0, 0),
  (918, .aload_n 0, 919, 0, 0, 0, 0, 0),
  (919, .iload_n 3, 920, 3, 0, 0, 0, 0),
  (920, .iconst 1, 921, 0, 0, 0, (1), 0),
  (921, .iadd, 922, 0, 0, 0, 0, 0),
  (922, .iaload, 923, 0, 0, 0, 0, 0),
  (923, .aload_n 0, 924, 0, 0, 0, 0, 0),
  (924, .iload_n 3, 925, 3, 0, 0, 0, 0),
  (925, .iconst 2, 926, 0, 0, 0, (2), 0),
  (926, .iadd, 927, 0, 0, 0, 0, 0),
  (927, .iaload, 928, 0, 0, 0, 0, 0),
  (928, .invokevirtual 105, 931, 98, 2, 6, 0, 0),
  (931, .aload_n 2, 932, 2, 0, 0, 0, 0),
  (932, .aload_n 0, 933, 0, 0, 0, 0, 0),
  (933, .iload_n 3, 934, 3, 0, 0, 0, 0),
  (934, .iconst 1, 935, 0, 0, 0, (1), 0),
  (935, .iadd, 936, 0, 0, 0, 0, 0),
  (936, .iaload, 937, 0, 0, 0, 0, 0),
  (937, .aload_n 0, 938, 0, 0, 0, 0, 0),
  (938, .iload_n 3, 939, 3, 0, 0, 0, 0),
  (939, .iconst 2, 940, 0, 0, 0, (2), 0),
  (940, .iadd, 941, 0, 0, 0, 0, 0),
  (941, .iaload, 942, 0, 0, 0, 0, 0),
  (942, .invokevirtual 108, 945, 171, 2, 7, 0, 0),
  (945, .if_icmp .eq 61, 948, 1006, 0, 0, 0, 0),
  (948, .iconst 0, 949, 0, 0, 0, (0), 0),
  (949, .ireturn, 950, 0, 0, 1, 0, 0),
  (950, .aload_n 1, 951, 1, 0, 0, 0, 0),
  (951, .aload_n 0, 952, 0, 0, 0, 0, 0),
  (952, .iload_n 3, 953, 3, 0, 0, 0, 0),
  (953, .iconst 1, 954, 0, 0, 0, (1), 0),
  (954, .iadd, 955, 0, 0, 0, 0, 0),
  (955, .iaload, 956, 0, 0, 0, 0, 0),
  (956, .aload_n 0, 957, 0, 0, 0, 0, 0),
  (957, .iload_n 3, 958, 3, 0, 0, 0, 0),
  (958, .iconst 2, 959, 0, 0, 0, (2), 0),
  (959, .iadd, 960, 0, 0, 0, 0, 0),
  (960, .iaload, 961, 0, 0, 0, 0, 0),
  (961, .invokevirtual 109, 964, 99, 2, 6, 0, 0),
  (964, .aload_n 2, 965, 2, 0, 0, 0, 0),
  (965, .aload_n 0, 966, 0, 0, 0, 0, 0),
  (966, .iload_n 3, 967, 3, 0, 0, 0, 0),
  (967, .iconst 1, 968, 0, 0, 0, (1), 0),
  (968, .iadd, 969, 0, 0, 0, 0, 0),
  (969, .iaload, 970, 0, 0, 0, 0, 0),
  (970, .aload_n 0, 971, 0, 0, 0, 0, 0),
  (971, .iload_n 3, 972, 3, 0, 0, 0, 0),
  (972, .iconst 2, 973, 0, 0, 0, (2), 0),
  (973, .iadd, 974, 0, 0, 0, 0, 0),
  (974, .iaload, 975, 0, 0, 0, 0, 0),
  (975, .invokevirtual 112, 978, 172, 2, 7, 0, 0),
  (978, .if_icmp .eq 28, 981, 1006, 0, 0, 0, 0),
  (981, .iconst 0, 982, 0, 0, 0, (0), 0),
  (982, .ireturn, 983, 0, 0, 1, 0, 0),
  (983, .aload_n 1, 984, 1, 0, 0, 0, 0),
  (984, .aload_n 0, 985, 0, 0, 0, 0, 0),
  (985, .iload_n 3, 986, 3, 0, 0, 0, 0),
  (986, .iconst 1, 987, 0, 0, 0, (1), 0),
  (987, .iadd, 988, 0, 0, 0, 0, 0),
  (988, .iaload, 989, 0, 0, 0, 0, 0),
  (989, .invokevirtual 113, 992, 100, 1, 6, 0, 0),
  (992, .aload_n 2, 993, 2, 0, 0, 0, 0),
  (993, .aload_n 0, 994, 0, 0, 0, 0, 0),
  (994, .iload_n 3, 995, 3, 0, 0, 0, 0),
  (995, .iconst 1, 996, 0, 0, 0, (1), 0),
  (996, .iadd, 997, 0, 0, 0, 0, 0),
  (997, .iaload, 998, 0, 0, 0, 0, 0),
  (998, .invokevirtual 116, 1001, 173, 1, 7, 0, 0),
  (1001, .if_icmp .eq 5, 1004, 1006, 0, 0, 0, 0),
  (1004, .iconst 0, 1005, 0, 0, 0, (0), 0),
  (1005, .ireturn, 1006, 0, 0, 1, 0, 0),
  (1006, .iinc 3 5, 1009, 3, 0, 0, (5), 0),
  (1009, .goto (-991), 1012, 18, 0, 0, 0, 0),
  (1012, .iconst 1, 1013, 0, 0, 0, (1), 0),
  (1013, .ireturn, 1014, 0, 0, 1, 0, 0)]
def ML_law : mI := (8, ⟨"CornerFrontsLaw", "law", "([I)Z"⟩, code, 4, (some .boolean), oL_law)
def oJ6_bitCount_0f7a4 : List (Nat × mE) := [(0, .iload_n 0, 1, 0, 0, 0, 0, 0),
  (1, .iload_n 0, 2, 0, 0, 0, 0, 0),
  (2, .iconst 1, 3, 0, 0, 0, (1), 0),
  (3, .iushr, 4, 0, 0, 0, 0, 0),
  (4, .ldc_w 265, 7, 0, 0, 0, (1431655765), 0),
  (7, .iand, 8, 0, 0, 0, 0, 0),
  (8, .isub, 9, 0, 0, 0, 0, 0),
  (9, .istore_n 0, 10, 0, 0, 0, 0, 0),
  (10, .iload_n 0, 11, 0, 0, 0, 0, 0),
  (11, .ldc_w 266, 14, 0, 0, 0, (858993459), 0),
  (14, .iand, 15, 0, 0, 0, 0, 0),
  (15, .iload_n 0, 16, 0, 0, 0, 0, 0),
  (16, .iconst 2, 17, 0, 0, 0, (2), 0),
  (17, .iushr, 18, 0, 0, 0, 0, 0),
  (18, .ldc_w 266, 21, 0, 0, 0, (858993459), 0),
  (21, .iand, 22, 0, 0, 0, 0, 0),
  (22, .iadd, 23, 0, 0, 0, 0, 0),
  (23, .istore_n 0, 24, 0, 0, 0, 0, 0),
  (24, .iload_n 0, 25, 0, 0, 0, 0, 0),
  (25, .iload_n 0, 26, 0, 0, 0, 0, 0),
  (26, .iconst 4, 27, 0, 0, 0, (4), 0),
  (27, .iushr, 28, 0, 0, 0, 0, 0),
  (28, .iadd, 29, 0, 0, 0, 0, 0),
  (29, .ldc_w 267, 32, 0, 0, 0, (252645135), 0),
  (32, .iand, 33, 0, 0, 0, 0, 0),
  (33, .istore_n 0, 34, 0, 0, 0, 0, 0),
  (34, .iload_n 0, 35, 0, 0, 0, 0, 0),
  (35, .iload_n 0, 36, 0, 0, 0, 0, 0),
  (36, .bipush 8, 38, 0, 0, 0, (8), 0),
  (38, .iushr, 39, 0, 0, 0, 0, 0),
  (39, .iadd, 40, 0, 0, 0, 0, 0),
  (40, .istore_n 0, 41, 0, 0, 0, 0, 0),
  (41, .iload_n 0, 42, 0, 0, 0, 0, 0),
  (42, .iload_n 0, 43, 0, 0, 0, 0, 0),
  (43, .bipush 16, 45, 0, 0, 0, (16), 0),
  (45, .iushr, 46, 0, 0, 0, 0, 0),
  (46, .iadd, 47, 0, 0, 0, 0, 0),
  (47, .istore_n 0, 48, 0, 0, 0, 0, 0),
  (48, .iload_n 0, 49, 0, 0, 0, 0, 0),
  (49, .bipush 63, 51, 0, 0, 0, (63), 0),
  (51, .iand, 52, 0, 0, 0, 0, 0),
  (52, .ireturn, 53, 0, 0, 0, 0, 0)]
def MJ6_bitCount_0f7a4 : mI := (9, ⟨"java/lang/Integer", "bitCount", "(I)I"⟩, prog_11_method_49_code, 1, (some (.int)), oJ6_bitCount_0f7a4)
def mNone : mI := (0, ⟨"", "", ""⟩, code, 0, none, [])
/-- the methods by their numbers -/
def mtab (n : Nat) : mI := match n with
  | 0 => MX0_init
  | 1 => MX0_clear
  | 2 => MX0_become
  | 3 => MX0_isWhole
  | 4 => MX0_hasRoomFor
  | 5 => MX0_hasStrandsFor
  | 6 => MX0_append
  | 7 => MX0_appendRange
  | 8 => MX0_appendPatch
  | 9 => MX0_mostStrands
  | 10 => MX0_firstUnlike
  | 11 => MX0_strandsAdded
  | 12 => MX1_init
  | 13 => MX1_begin
  | 14 => MX1_put
  | 15 => MX1_putThree
  | 16 => MX1_planMove
  | 17 => MX1_planSwap
  | 18 => MX1_planSlide
  | 19 => MX1_planUncurl
  | 20 => MX1_planPull
  | 21 => MX1_planStraighten
  | 22 => MX1_hasKinds
  | 23 => MX1_goesThereAndBack
  | 24 => MX1_planAdd
  | 25 => MX1_planPush
  | 26 => MX1_planBirthPush
  | 27 => MX1_planDeathPush
  | 28 => MX2_init
  | 29 => MX2_renew
  | 30 => MX2_write
  | 31 => MX2_narrowed
  | 32 => MX2_tell
  | 33 => MX3_init
  | 34 => MX3_countAll
  | 35 => MX3_findFirst
  | 36 => MX3_foundWith
  | 37 => MX3_begin
  | 38 => MX3_isOfSort
  | 39 => MX3_search
  | 40 => MX3_searchPaired
  | 41 => MX3_searchCross
  | 42 => MX3_note
  | 43 => MX3_pairNew
  | 44 => MX3_dropPair
  | 45 => MX3_changePlaces
  | 46 => MX3_interlocked
  | 47 => MX4_init
  | 48 => MX4_take
  | 49 => MX4_tell
  | 50 => MX4_tellEvent
  | 51 => MX4_misplaced
  | 52 => MX4_readToken
  | 53 => MX4_readLetter
  | 54 => MX4_readNumber
  | 55 => MX4_isFigure
  | 56 => MX5_init
  | 57 => MX5_trace
  | 58 => MX5_layArcs
  | 59 => MX5_beginArcs
  | 60 => MX5_endArcs
  | 61 => MX5_walk
  | 62 => MX5_mark
  | 63 => MX5_turnCorner
  | 64 => MX5_isPiece
  | 65 => MX5_pieceAt
  | 66 => MX5_lowerArc
  | 67 => MX5_upperArc
  | 68 => MX5_isPlus
  | 69 => MX5_plusCrosses
  | 70 => MX5_writhe
  | 71 => MX5_linking
  | 72 => MX5_signSum
  | 73 => MX5_deaths
  | 74 => MX5_turn
  | 75 => MX5_levelStep
  | 76 => MX6_init
  | 77 => MX6_feed
  | 78 => MX6_end
  | 79 => MX6_front
  | 80 => MX6_fault
  | 81 => MX6_sheet
  | 82 => MX6_lay
  | 83 => MX6_draw
  | 84 => MX6_copy
  | 85 => MX6_drop
  | 86 => MX6_event
  | 87 => MX6_about
  | 88 => MX6_piece
  | 89 => MX6_number
  | 90 => MX6_link
  | 91 => MX6_sign
  | 92 => MX6_degree
  | 93 => MX6_rulings
  | 94 => MX6_first
  | 95 => MX6_move
  | 96 => MX6_add
  | 97 => MX6_push
  | 98 => MX6_join
  | 99 => MX6_unlike
  | 100 => MX6_count
  | 101 => MX6_isFront
  | 102 => MX6_isEvent
  | 103 => MX6_isCross
  | 104 => MX6_isSheet
  | 105 => MX6_isLane
  | 106 => MX6_isSort
  | 107 => MX6_hasSort
  | 108 => MX6_traced
  | 109 => MX6_keepDraft
  | 110 => MX6_applyPatch
  | 111 => MX7_init
  | 112 => MX7_in
  | 113 => MX7_is
  | 114 => MX7_isEvent
  | 115 => MX7_put
  | 116 => MX7_putOf
  | 117 => MX7_store
  | 118 => MX7_added
  | 119 => MX7_adds
  | 120 => MX7_ahead
  | 121 => MX7_crossesOf
  | 122 => MX7_feed
  | 123 => MX7_end
  | 124 => MX7_byteAt
  | 125 => MX7_fails
  | 126 => MX7_next
  | 127 => MX7_isTooMuch
  | 128 => MX7_hasPlace
  | 129 => MX7_comes
  | 130 => MX7_begin
  | 131 => MX7_front
  | 132 => MX7_fault
  | 133 => MX7_sheet
  | 134 => MX7_lay
  | 135 => MX7_draw
  | 136 => MX7_copy
  | 137 => MX7_drop
  | 138 => MX7_event
  | 139 => MX7_goAlong
  | 140 => MX7_goOne
  | 141 => MX7_isPlus
  | 142 => MX7_about
  | 143 => MX7_piece
  | 144 => MX7_signed
  | 145 => MX7_number
  | 146 => MX7_link
  | 147 => MX7_isCross
  | 148 => MX7_sign
  | 149 => MX7_degreeOf
  | 150 => MX7_degree
  | 151 => MX7_layMay
  | 152 => MX7_isMixed
  | 153 => MX7_crossed
  | 154 => MX7_born
  | 155 => MX7_dies
  | 156 => MX7_ruled
  | 157 => MX7_rulings
  | 158 => MX7_first
  | 159 => MX7_kindAt
  | 160 => MX7_numberAt
  | 161 => MX7_stands
  | 162 => MX7_rest
  | 163 => MX7_swap
  | 164 => MX7_slide
  | 165 => MX7_uncurl
  | 166 => MX7_pull
  | 167 => MX7_straighten
  | 168 => MX7_move
  | 169 => MX7_add
  | 170 => MX7_push
  | 171 => MX7_join
  | 172 => MX7_unlike
  | 173 => MX7_count
  | 174 => ML_law
  | 175 => MJ6_bitCount_0f7a4
  | _ => mNone
def rTabW0 : List (Nat × Nat × Nat × Nat × Nat × Nat × Nat) := [(0, 2, 0, 137, 136, 0, 80), (1, 0, 0, 353, 351, 352, 80), (2, 0, 1, 492, 490, 491, 80), (3, 0, 0, 460, 458, 459, 80), (4, 0, 1, 472, 470, 471, 80), (5, 0, 2, 481, 479, 480, 80), (6, 0, 2, 476, 474, 475, 80), (7, 0, 3, 812, 810, 811, 80), (8, 0, 1, 817, 815, 816, 80), (9, 0, 0, 597, 595, 596, 80), (10, 0, 1, 853, 851, 852, 80), (11, 1, 1, 484, 483, 0, 80), (12, 2, 0, 177, 176, 0, 81), (13, 0, 1, 771, 770, 32, 81), (14, 0, 2, 776, 775, 33, 81)]
def rTabW1 : List (Nat × Nat × Nat × Nat × Nat × Nat × Nat) := [(15, 0, 6, 791, 790, 35, 81), (16, 0, 3, 763, 761, 762, 81), (17, 0, 2, 767, 766, 31, 81), (18, 0, 2, 780, 779, 34, 81), (19, 0, 2, 795, 794, 36, 81), (20, 0, 2, 799, 798, 37, 81), (21, 0, 2, 803, 802, 38, 81), (22, 1, 5, 783, 782, 0, 81), (23, 1, 2, 786, 785, 0, 81), (24, 0, 2, 825, 823, 824, 81), (25, 0, 3, 833, 831, 832, 81), (26, 0, 3, 837, 836, 40, 81), (27, 0, 3, 841, 840, 41, 81), (28, 2, 0, 288, 287, 0, 84), (29, 0, 2, 513, 511, 512, 84)]
def rTabW2 : List (Nat × Nat × Nat × Nat × Nat × Nat × Nat) := [(30, 0, 2, 521, 519, 520, 84), (31, 0, 1, 525, 524, 7, 84), (32, 0, 4, 533, 531, 532, 84), (33, 2, 0, 256, 255, 0, 83), (34, 0, 2, 693, 691, 692, 83), (35, 0, 2, 755, 753, 754, 83), (36, 0, 1, 747, 745, 746, 83), (37, 0, 3, 697, 696, 22, 83), (38, 1, 3, 700, 699, 0, 83), (39, 0, 3, 706, 705, 23, 83), (40, 0, 3, 724, 723, 26, 83), (41, 0, 3, 732, 731, 28, 83), (42, 0, 1, 710, 709, 24, 83), (43, 0, 2, 720, 719, 25, 83), (44, 0, 2, 728, 727, 27, 83)]
def rTabW3 : List (Nat × Nat × Nat × Nat × Nat × Nat × Nat) := [(45, 0, 2, 736, 735, 29, 83), (46, 0, 2, 741, 740, 30, 83), (47, 2, 0, 106, 105, 0, 79), (48, 0, 1, 337, 335, 336, 79), (49, 0, 1, 349, 347, 348, 79), (50, 0, 1, 464, 463, 4, 79), (51, 0, 0, 468, 467, 5, 79), (52, 0, 0, 357, 356, 0, 79), (53, 0, 0, 369, 368, 3, 79), (54, 0, 0, 365, 364, 2, 79), (55, 0, 1, 361, 360, 1, 79), (56, 2, 0, 200, 199, 0, 82), (57, 0, 1, 568, 566, 567, 82), (58, 0, 0, 572, 571, 11, 82), (59, 0, 3, 577, 576, 12, 82)]
def rTabW4 : List (Nat × Nat × Nat × Nat × Nat × Nat × Nat) := [(60, 0, 2, 581, 580, 13, 82), (61, 0, 1, 585, 584, 14, 82), (62, 0, 4, 589, 588, 15, 82), (63, 0, 2, 593, 592, 16, 82), (64, 0, 1, 630, 628, 629, 82), (65, 0, 2, 622, 620, 621, 82), (66, 0, 1, 610, 609, 17, 82), (67, 0, 1, 614, 613, 18, 82), (68, 0, 1, 606, 604, 605, 82), (69, 0, 0, 602, 600, 601, 82), (70, 0, 1, 634, 632, 633, 82), (71, 0, 2, 654, 652, 653, 82), (72, 0, 2, 638, 637, 19, 82), (73, 0, 1, 642, 640, 641, 82), (74, 0, 1, 646, 644, 645, 82)]
def rTabW5 : List (Nat × Nat × Nat × Nat × Nat × Nat × Nat) := [(75, 0, 1, 671, 669, 670, 82), (76, 2, 0, 98, 97, 0, 78), (77, 0, 1, 333, 331, 332, 78), (78, 0, 1, 341, 339, 340, 78), (79, 0, 0, 345, 343, 344, 78), (80, 0, 0, 499, 497, 498, 78), (81, 0, 3, 503, 501, 502, 78), (82, 0, 3, 517, 515, 516, 78), (83, 0, 4, 529, 527, 528, 78), (84, 0, 1, 540, 538, 539, 78), (85, 0, 0, 548, 546, 547, 78), (86, 0, 3, 552, 550, 551, 78), (87, 0, 2, 560, 558, 559, 78), (88, 0, 3, 618, 616, 617, 78), (89, 0, 3, 626, 624, 625, 78)]
def rTabW6 : List (Nat × Nat × Nat × Nat × Nat × Nat × Nat) := [(90, 0, 3, 650, 648, 649, 78), (91, 0, 2, 658, 656, 657, 78), (92, 0, 2, 667, 665, 666, 78), (93, 0, 3, 682, 680, 681, 78), (94, 0, 3, 751, 749, 750, 78), (95, 0, 3, 759, 757, 758, 78), (96, 0, 4, 821, 819, 820, 78), (97, 0, 3, 829, 827, 828, 78), (98, 0, 2, 845, 843, 844, 78), (99, 0, 2, 849, 847, 848, 78), (100, 0, 1, 858, 856, 857, 78), (101, 0, 1, 544, 543, 8, 78), (102, 0, 2, 556, 555, 9, 78), (103, 0, 2, 662, 661, 20, 78), (104, 1, 1, 506, 505, 0, 78)]
def rTabW7 : List (Nat × Nat × Nat × Nat × Nat × Nat × Nat) := [(105, 1, 1, 509, 508, 0, 78), (106, 1, 1, 685, 684, 0, 78), (107, 0, 2, 689, 688, 21, 78), (108, 0, 1, 564, 563, 10, 78), (109, 0, 0, 488, 487, 6, 78), (110, 0, 2, 807, 806, 39, 78), (111, 2, 0, 863, 862, 0, 85), (112, 1, 3, 966, 965, 0, 85), (113, 0, 1, 1042, 1041, 52, 85), (114, 0, 2, 1058, 1057, 54, 85), (115, 0, 2, 1004, 1003, 49, 85), (116, 0, 3, 1046, 1045, 53, 85), (117, 0, 1, 1015, 1014, 51, 85), (118, 0, 0, 1011, 1010, 50, 85), (119, 1, 1, 1007, 1006, 0, 85)]
def rTabW8 : List (Nat × Nat × Nat × Nat × Nat × Nat × Nat) := [(120, 0, 2, 1062, 1061, 55, 85), (121, 0, 1, 1083, 1082, 59, 85), (122, 0, 1, 959, 957, 958, 85), (123, 0, 1, 963, 961, 962, 85), (124, 0, 1, 982, 981, 44, 85), (125, 0, 1, 988, 987, 45, 85), (126, 0, 0, 978, 977, 43, 85), (127, 0, 1, 992, 991, 46, 85), (128, 0, 2, 996, 995, 47, 85), (129, 0, 2, 1000, 999, 48, 85), (130, 0, 0, 974, 973, 42, 85), (131, 0, 0, 970, 968, 969, 85), (132, 0, 0, 1019, 1017, 1018, 85), (133, 0, 3, 1023, 1021, 1022, 85), (134, 0, 3, 1029, 1027, 1028, 85)]
def rTabW9 : List (Nat × Nat × Nat × Nat × Nat × Nat × Nat) := [(135, 0, 4, 1033, 1031, 1032, 85), (136, 0, 1, 1038, 1036, 1037, 85), (137, 0, 0, 1050, 1048, 1049, 85), (138, 0, 3, 1054, 1052, 1053, 85), (139, 0, 1, 1071, 1070, 56, 85), (140, 0, 3, 1075, 1074, 57, 85), (141, 0, 2, 1079, 1078, 58, 85), (142, 0, 2, 1066, 1064, 1065, 85), (143, 0, 3, 1087, 1085, 1086, 85), (144, 0, 3, 1096, 1095, 60, 85), (145, 0, 3, 1091, 1089, 1090, 85), (146, 0, 3, 1100, 1098, 1099, 85), (147, 0, 2, 1108, 1107, 61, 85), (148, 0, 2, 1104, 1102, 1103, 85), (149, 0, 2, 1116, 1115, 62, 85)]
def rTabW10 : List (Nat × Nat × Nat × Nat × Nat × Nat × Nat) := [(150, 0, 2, 1112, 1110, 1111, 85), (151, 0, 2, 1124, 1123, 63, 85), (152, 1, 4, 1143, 1142, 0, 85), (153, 0, 2, 1140, 1139, 67, 85), (154, 0, 2, 1132, 1131, 65, 85), (155, 0, 2, 1136, 1135, 66, 85), (156, 0, 3, 1128, 1127, 64, 85), (157, 0, 3, 1120, 1118, 1119, 85), (158, 0, 3, 1147, 1145, 1146, 85), (159, 0, 2, 1159, 1158, 69, 85), (160, 0, 2, 1163, 1162, 70, 85), (161, 0, 7, 1175, 1174, 73, 85), (162, 0, 2, 1167, 1166, 71, 85), (163, 0, 2, 1155, 1154, 68, 85), (164, 0, 2, 1171, 1170, 72, 85)]
def rTabW11 : List (Nat × Nat × Nat × Nat × Nat × Nat × Nat) := [(165, 0, 2, 1179, 1178, 74, 85), (166, 0, 2, 1183, 1182, 75, 85), (167, 0, 2, 1187, 1186, 76, 85), (168, 0, 3, 1151, 1149, 1150, 85), (169, 0, 4, 1191, 1189, 1190, 85), (170, 0, 3, 1195, 1193, 1194, 85), (171, 0, 2, 1199, 1197, 1198, 85), (172, 0, 2, 1203, 1201, 1202, 85), (173, 0, 1, 1207, 1205, 1206, 85), (175, 1, 1, 713, 712, 0, 93)]
def rTabW : List (Nat × Nat × Nat × Nat × Nat × Nat × Nat) := rTabW0 ++ (rTabW1 ++ (rTabW2 ++ (rTabW3 ++ (rTabW4 ++ (rTabW5 ++ (rTabW6 ++ (rTabW7 ++ (rTabW8 ++ (rTabW9 ++ (rTabW10 ++ (rTabW11)))))))))))
set_option maxRecDepth 100000 in
theorem mtab_eq : mtab 0 = MX0_init ∧ mtab 1 = MX0_clear ∧ mtab 2 = MX0_become ∧ mtab 3 = MX0_isWhole ∧ mtab 4 = MX0_hasRoomFor ∧ mtab 5 = MX0_hasStrandsFor ∧ mtab 6 = MX0_append ∧ mtab 7 = MX0_appendRange ∧ mtab 8 = MX0_appendPatch ∧ mtab 9 = MX0_mostStrands ∧ mtab 10 = MX0_firstUnlike ∧ mtab 11 = MX0_strandsAdded ∧ mtab 12 = MX1_init ∧ mtab 13 = MX1_begin ∧ mtab 14 = MX1_put ∧ mtab 15 = MX1_putThree ∧ mtab 16 = MX1_planMove ∧ mtab 17 = MX1_planSwap ∧ mtab 18 = MX1_planSlide ∧ mtab 19 = MX1_planUncurl ∧ mtab 20 = MX1_planPull ∧ mtab 21 = MX1_planStraighten ∧ mtab 22 = MX1_hasKinds ∧ mtab 23 = MX1_goesThereAndBack ∧ mtab 24 = MX1_planAdd ∧ mtab 25 = MX1_planPush ∧ mtab 26 = MX1_planBirthPush ∧ mtab 27 = MX1_planDeathPush ∧ mtab 28 = MX2_init ∧ mtab 29 = MX2_renew ∧ mtab 30 = MX2_write ∧ mtab 31 = MX2_narrowed ∧ mtab 32 = MX2_tell ∧ mtab 33 = MX3_init ∧ mtab 34 = MX3_countAll ∧ mtab 35 = MX3_findFirst ∧ mtab 36 = MX3_foundWith ∧ mtab 37 = MX3_begin ∧ mtab 38 = MX3_isOfSort ∧ mtab 39 = MX3_search ∧ mtab 40 = MX3_searchPaired ∧ mtab 41 = MX3_searchCross ∧ mtab 42 = MX3_note ∧ mtab 43 = MX3_pairNew ∧ mtab 44 = MX3_dropPair ∧ mtab 45 = MX3_changePlaces ∧ mtab 46 = MX3_interlocked ∧ mtab 47 = MX4_init ∧ mtab 48 = MX4_take ∧ mtab 49 = MX4_tell ∧ mtab 50 = MX4_tellEvent ∧ mtab 51 = MX4_misplaced ∧ mtab 52 = MX4_readToken ∧ mtab 53 = MX4_readLetter ∧ mtab 54 = MX4_readNumber ∧ mtab 55 = MX4_isFigure ∧ mtab 56 = MX5_init ∧ mtab 57 = MX5_trace ∧ mtab 58 = MX5_layArcs ∧ mtab 59 = MX5_beginArcs ∧ mtab 60 = MX5_endArcs ∧ mtab 61 = MX5_walk ∧ mtab 62 = MX5_mark ∧ mtab 63 = MX5_turnCorner ∧ mtab 64 = MX5_isPiece ∧ mtab 65 = MX5_pieceAt ∧ mtab 66 = MX5_lowerArc ∧ mtab 67 = MX5_upperArc ∧ mtab 68 = MX5_isPlus ∧ mtab 69 = MX5_plusCrosses ∧ mtab 70 = MX5_writhe ∧ mtab 71 = MX5_linking ∧ mtab 72 = MX5_signSum ∧ mtab 73 = MX5_deaths ∧ mtab 74 = MX5_turn ∧ mtab 75 = MX5_levelStep ∧ mtab 76 = MX6_init ∧ mtab 77 = MX6_feed ∧ mtab 78 = MX6_end ∧ mtab 79 = MX6_front ∧ mtab 80 = MX6_fault ∧ mtab 81 = MX6_sheet ∧ mtab 82 = MX6_lay ∧ mtab 83 = MX6_draw ∧ mtab 84 = MX6_copy ∧ mtab 85 = MX6_drop ∧ mtab 86 = MX6_event ∧ mtab 87 = MX6_about ∧ mtab 88 = MX6_piece ∧ mtab 89 = MX6_number ∧ mtab 90 = MX6_link ∧ mtab 91 = MX6_sign ∧ mtab 92 = MX6_degree ∧ mtab 93 = MX6_rulings ∧ mtab 94 = MX6_first ∧ mtab 95 = MX6_move ∧ mtab 96 = MX6_add ∧ mtab 97 = MX6_push ∧ mtab 98 = MX6_join ∧ mtab 99 = MX6_unlike ∧ mtab 100 = MX6_count ∧ mtab 101 = MX6_isFront ∧ mtab 102 = MX6_isEvent ∧ mtab 103 = MX6_isCross ∧ mtab 104 = MX6_isSheet ∧ mtab 105 = MX6_isLane ∧ mtab 106 = MX6_isSort ∧ mtab 107 = MX6_hasSort ∧ mtab 108 = MX6_traced ∧ mtab 109 = MX6_keepDraft ∧ mtab 110 = MX6_applyPatch ∧ mtab 111 = MX7_init ∧ mtab 112 = MX7_in ∧ mtab 113 = MX7_is ∧ mtab 114 = MX7_isEvent ∧ mtab 115 = MX7_put ∧ mtab 116 = MX7_putOf ∧ mtab 117 = MX7_store ∧ mtab 118 = MX7_added ∧ mtab 119 = MX7_adds ∧ mtab 120 = MX7_ahead ∧ mtab 121 = MX7_crossesOf ∧ mtab 122 = MX7_feed ∧ mtab 123 = MX7_end ∧ mtab 124 = MX7_byteAt ∧ mtab 125 = MX7_fails ∧ mtab 126 = MX7_next ∧ mtab 127 = MX7_isTooMuch ∧ mtab 128 = MX7_hasPlace ∧ mtab 129 = MX7_comes ∧ mtab 130 = MX7_begin ∧ mtab 131 = MX7_front ∧ mtab 132 = MX7_fault ∧ mtab 133 = MX7_sheet ∧ mtab 134 = MX7_lay ∧ mtab 135 = MX7_draw ∧ mtab 136 = MX7_copy ∧ mtab 137 = MX7_drop ∧ mtab 138 = MX7_event ∧ mtab 139 = MX7_goAlong ∧ mtab 140 = MX7_goOne ∧ mtab 141 = MX7_isPlus ∧ mtab 142 = MX7_about ∧ mtab 143 = MX7_piece ∧ mtab 144 = MX7_signed ∧ mtab 145 = MX7_number ∧ mtab 146 = MX7_link ∧ mtab 147 = MX7_isCross ∧ mtab 148 = MX7_sign ∧ mtab 149 = MX7_degreeOf ∧ mtab 150 = MX7_degree ∧ mtab 151 = MX7_layMay ∧ mtab 152 = MX7_isMixed ∧ mtab 153 = MX7_crossed ∧ mtab 154 = MX7_born ∧ mtab 155 = MX7_dies ∧ mtab 156 = MX7_ruled ∧ mtab 157 = MX7_rulings ∧ mtab 158 = MX7_first ∧ mtab 159 = MX7_kindAt ∧ mtab 160 = MX7_numberAt ∧ mtab 161 = MX7_stands ∧ mtab 162 = MX7_rest ∧ mtab 163 = MX7_swap ∧ mtab 164 = MX7_slide ∧ mtab 165 = MX7_uncurl ∧ mtab 166 = MX7_pull ∧ mtab 167 = MX7_straighten ∧ mtab 168 = MX7_move ∧ mtab 169 = MX7_add ∧ mtab 170 = MX7_push ∧ mtab 171 = MX7_join ∧ mtab 172 = MX7_unlike ∧ mtab 173 = MX7_count ∧ mtab 174 = ML_law ∧ mtab 175 = MJ6_bitCount_0f7a4 := ⟨rfl, rfl, rfl, rfl, rfl, rfl, rfl, rfl, rfl, rfl, rfl, rfl, rfl, rfl, rfl, rfl, rfl, rfl, rfl, rfl, rfl, rfl, rfl, rfl, rfl, rfl, rfl, rfl, rfl, rfl, rfl, rfl, rfl, rfl, rfl, rfl, rfl, rfl, rfl, rfl, rfl, rfl, rfl, rfl, rfl, rfl, rfl, rfl, rfl, rfl, rfl, rfl, rfl, rfl, rfl, rfl, rfl, rfl, rfl, rfl, rfl, rfl, rfl, rfl, rfl, rfl, rfl, rfl, rfl, rfl, rfl, rfl, rfl, rfl, rfl, rfl, rfl, rfl, rfl, rfl, rfl, rfl, rfl, rfl, rfl, rfl, rfl, rfl, rfl, rfl, rfl, rfl, rfl, rfl, rfl, rfl, rfl, rfl, rfl, rfl, rfl, rfl, rfl, rfl, rfl, rfl, rfl, rfl, rfl, rfl, rfl, rfl, rfl, rfl, rfl, rfl, rfl, rfl, rfl, rfl, rfl, rfl, rfl, rfl, rfl, rfl, rfl, rfl, rfl, rfl, rfl, rfl, rfl, rfl, rfl, rfl, rfl, rfl, rfl, rfl, rfl, rfl, rfl, rfl, rfl, rfl, rfl, rfl, rfl, rfl, rfl, rfl, rfl, rfl, rfl, rfl, rfl, rfl, rfl, rfl, rfl, rfl, rfl, rfl, rfl, rfl, rfl, rfl, rfl, rfl, rfl, rfl, rfl, rfl, rfl, rfl⟩
end
section
/-! the machine seen from above: a heap by addresses, locals and stack as lists; MW: from here the method ends as told; MC: a call ends as told -/
abbrev mH : Type := Nat → Option va_E
abbrev mL : Type := List (Option Value)
abbrev mAl : Type := Nat × Nat × Nat
/-- launch, class numbers, first address, array classes, String constants -/
abbrev mG : Type := Launch × va_G × Nat × (Nat → ClassId) × (Nat → Nat) × (Nat → Nat)
abbrev mZ : Type := Room × (List Frame → Array Value → State → State → Prop) × (Array Value → State → Prop)
def gB (G : mG) : Nat := G.2.2.1
def gD (G : mG) : va_G := G.2.1
def gC (G : mG) (k : Nat) : ClassId := G.2.2.2.1 k
def gA (G : mG) : Nat → Prop := fun q => gB G ≤ q
def gT (G : mG) : List (ClassId × FieldType) := [(gC G 0, .int), (gC G 1, .byte), (gC G 2, .boolean), (gC G 3, .array .int), (gC G 4, .object "CornerFronts$Front"), (gC G 5, .object "CornerFronts$Sheet")]
def lw_g : List Cond := lw_tbl.filter goodWord
def isNest (w : Cond) : Bool := match w with | .fieldLinkNest .. => true | .methodLinkNest .. => true | _ => false
def lw_n : List Cond := lw_tbl.filter isNest
def gS (G : mG) (U : State) (H : Heap) : Prop := (∀ w ∈ lw_n, va_Nw w U) ∧ vk_S 1 [3] [[98, 120, 100]] G.2.2.2.2.1 G.2.2.2.2.2 (gA G) U H ∧ vk_R "CornerFronts$Tape" 68 "bxd" (G.2.2.2.2.1 0) U ∧ va_Z "java/lang/String" "COMPACT_STRINGS" "Z" (.int 1) (gA G) U H
def mset (h : mH) (a : Nat) (e : va_E) : mH := fun q => if q = a then some e else h q
theorem mset_same {h : mH} {a : Nat} {e : va_E} : mset h a e a = some e := if_pos rfl
theorem mset_ne {h : mH} {a b : Nat} {e : va_E} (n : b ≠ a) : mset h a e b = h b := if_neg n
def mP (G : mG) (h : mH) (H : Heap) : Prop := ∀ (x : Nat) (e : va_E), h x = some e → gB G ≤ x ∧ va_at (gD G) vwCl (x, e) H
def mws (h : mH) (N : Nat) : va_W := (List.range N).filterMap (fun x => (h x).map (fun e => (x, e)))
theorem mws_mem {h : mH} {N x : Nat} {e : va_E} : (x, e) ∈ mws h N ↔ x < N ∧ h x = some e := by
  unfold mws
  rw [List.mem_filterMap]
  constructor
  · rintro ⟨a, h1, h2⟩
    rw [List.mem_range] at h1
    cases ha : h a with
    | none => rw [ha] at h2; cases h2
    | some e2 =>
      rw [ha] at h2
      simp only [Option.map_some, Option.some.injEq, Prod.mk.injEq] at h2
      obtain ⟨rfl, rfl⟩ := h2
      exact ⟨h1, ha⟩
  · rintro ⟨h1, h2⟩
    exact ⟨x, List.mem_range.mpr h1, by rw [h2]; rfl⟩
theorem mws_pw (h : mH) : ∀ N : Nat, (mws h N).Pairwise (fun p q => p.1 < q.1) := by
  intro N
  unfold mws
  rw [List.pairwise_filterMap]
  refine List.Pairwise.imp ?_ List.pairwise_lt_range
  intro a b hab p hp q hq
  cases ha : h a with
  | none => rw [ha] at hp; cases hp
  | some e1 =>
    cases hb : h b with
    | none => rw [hb] at hq; cases hq
    | some e2 =>
      rw [ha] at hp
      rw [hb] at hq
      simp only [Option.map_some, Option.some.injEq] at hp hq
      rw [← hp, ← hq]
      exact hab
theorem mws_D {G : mG} {h : mH} {H : Heap} (hP : mP G h H) (N : Nat) : va_D (gA G) (mws h N) := by
  refine ⟨fun i j p q hi hj hpq => ?_, fun k q hk => ?_⟩
  · have hpw := List.pairwise_iff_getElem.mp (mws_pw h N)
    obtain ⟨li, ei⟩ := List.getElem?_eq_some_iff.mp hi
    obtain ⟨lj, ej⟩ := List.getElem?_eq_some_iff.mp hj
    rcases Nat.lt_trichotomy i j with c | c | c
    · have := hpw i j li lj c
      rw [ei, ej] at this
      omega
    · exact c
    · have := hpw j i lj li c
      rw [ei, ej] at this
      omega
  · have := mws_mem.mp (show (q.1, q.2) ∈ mws h N from List.mem_of_getElem? hk)
    exact (hP q.1 q.2 this.2).1
theorem mws_P {G : mG} {h : mH} {H : Heap} (hP : mP G h H) (N : Nat) : va_P (gD G) vwCl (mws h N) H := by
  intro k q hk
  have := mws_mem.mp (show (q.1, q.2) ∈ mws h N from List.mem_of_getElem? hk)
  exact (hP q.1 q.2 this.2).2
theorem mws_at {G : mG} {h : mH} {H : Heap} (hP : mP G h H) {x : Nat} {e : va_E} (hx : h x = some e) : ∃ q0 : Nat, (mws h H.size)[q0]? = some (x, e) := by
  have h1 := (hP x e hx).2.lt
  exact List.getElem?_of_mem (mws_mem.mpr ⟨h1, hx⟩)
theorem mP_set {G : mG} {h : mH} {H H1 : Heap} (hP : mP G h H) {x q0 : Nat} {e e1 : va_E} (hx : h x = some e) (hq : (mws h H.size)[q0]? = some (x, e)) (hP1 : va_P (gD G) vwCl ((mws h H.size).set q0 (x, e1)) H1) : mP G (mset h x e1) H1 := by
  intro y ey hy
  by_cases c : y = x
  · subst c
    rw [mset_same] at hy
    cases hy
    refine ⟨(hP y e hx).1, hP1 q0 _ ?_⟩
    rw [List.getElem?_set_self (List.getElem?_eq_some_iff.mp hq).1]
  · rw [mset_ne c] at hy
    obtain ⟨i, hi⟩ := mws_at hP hy
    refine ⟨(hP y ey hy).1, hP1 i _ ?_⟩
    have hne : q0 ≠ i := by
      intro ee
      subst ee
      rw [hq] at hi
      cases hi
      exact c rfl
    rw [List.getElem?_set_ne hne]
    exact hi
theorem mP_push {G : mG} {h : mH} {H H1 : Heap} (hP : mP G h H) (hB : gB G ≤ H.size) {e1 : va_E} (hP1 : va_P (gD G) vwCl (mws h H.size ++ [(H.size, e1)]) H1) : mP G (mset h H.size e1) H1 := by
  intro y ey hy
  by_cases c : y = H.size
  · subst c
    rw [mset_same] at hy
    cases hy
    refine ⟨hB, hP1 (mws h H.size).length _ ?_⟩
    rw [List.getElem?_append_right (Nat.le_refl _)]
    simp
  · rw [mset_ne c] at hy
    obtain ⟨i, hi⟩ := mws_at hP hy
    refine ⟨(hP y ey hy).1, hP1 i _ ?_⟩
    rw [List.getElem?_append_left (List.getElem?_eq_some_iff.mp hi).1]
    exact hi
/-! methods -/
def mCls (M : mI) : Nat := M.1
def mNm (M : mI) : MethodName := M.2.1
def mCd (M : mI) : ByteArray := M.2.2.1
def mMx (M : mI) : Nat := M.2.2.2.1
def mRt (M : mI) : Option FieldType := M.2.2.2.2.1
def mOps (M : mI) : List (Nat × mE) := M.2.2.2.2.2
def mft (M : mI) (pc : Nat) : Option mE := ((mOps M).find? (fun q => q.1 == pc)).map (fun q => q.2)
def mWd (M : mI) : List Cond := Cond.code (mNm M) (mCd M) (mMx M) (mRt M) :: lw_g
def mRm (d mc ms : Nat) : Room := { frames := d, cells := mc, slots := ms, locals := 64 * d }
def mIn (G : mG) (h : mH) (N : Nat) (U : State) : Prop := U.heap.size = N ∧ mP G h U.heap ∧ va_K (gD G) vwCl (gT G) U ∧ gS G U U.heap ∧ gB G ≤ N
def mQ (G : mG) (mc : Nat) (post : Option Value → mH → Prop) : Array Value → State → Outcome → State → Prop := fun _ st o t => (∃ (r : Option Value) (h : mH), o = .returned r ∧ post r h ∧ t.heap.size = st.heap.size + mc ∧ mP G h t.heap) ∧ va_F (gA G) st t
def MC (G : mG) (M : mI) (d mc ms : Nat) (args : List Value) (h : mH) (N : Nat) (post : Option Value → mH → Prop) : Prop :=
  Met G.1 (mNm M) (mWd M) (mRm d mc ms) (va_Pc args (mIn G h N)) (mQ G mc post) mc ms (gA G)
def mCx (G : mG) (M : mI) (p : Program) (s : State) (m : MethodId) (args : Array Value) (meth : Method) (c : Code) : Prop :=
  p.tables.exec = Jvm.exec ∧ c.code = mCd M ∧ meth.sig.returnType = mRt M ∧ c.maxLocals = mMx M ∧ s.vm.findClass (mOwn (mCls M)) = some m.cls ∧ (∀ w ∈ lw_g, w.before args s = true) ∧ meth.locks = false ∧ va_K (gD G) vwCl (gT G) s ∧ gS G s s.heap ∧ gB G ≤ s.heap.size ∧ meth.name = (mNm M).name
def mLoc (ls : Array Slot) (n : Nat) (L : mL) : Prop := ls.size = n ∧ L.length = n ∧ lv_wf ls ∧ ∀ (i : Nat) (v : Value), L[i]? = some (some v) → ls[i]? = some (.val v)
def MW (G : mG) (M : mI) (Z : mZ) (pc : Nat) (L : mL) (st : List Value) (h : mH) (al : mAl) : Prop :=
  ∀ (p : Program) (e : Env) (s : State) (m : MethodId) (args : Array Value) (below : List Frame) (meth : Method) (c : Code), mCx G M p s m args meth c → Z.2.2 args s →
    ∀ (H : Heap) (locs : List Loc) (ls : Array Slot), al.1 = s.heap.size + al.2.1 ∧ al.1 ≤ H.size ∧ al.2.1 ≤ Z.1.cells ∧ al.2.2 ≤ Z.1.slots → mP G h H → va_S (gA G) s.heap H locs → mLoc ls (mMx M) L →
      W p G.1 e Z.1 s m args below meth c H locs al.2.1 al.2.2 (Z.2.1 below args s) (F0 m pc ls st)
/-- the end of a method: the room, and what holds -/
def mz (G : mG) (d mc ms : Nat) (post : Option Value → mH → Prop) : mZ := (mRm d mc ms, fun below args s => MQ below (mQ G mc post) args s mc ms (gA G), fun _ _ => True)
/-! what an instruction asks, by its operands -/
def w_i (st : List Value) (f : Int32 → List Value → Prop) : Prop := match st with | .int x :: r => f x r | _ => False
def w_ii (st : List Value) (f : Int32 → Int32 → List Value → Prop) : Prop := match st with | .int y :: .int x :: r => f x y r | _ => False
def w_l (st : List Value) (f : Int64 → List Value → Prop) : Prop := match st with | .long x :: r => f x r | _ => False
def w_ll (st : List Value) (f : Int64 → Int64 → List Value → Prop) : Prop := match st with | .long y :: .long x :: r => f x y r | _ => False
def w_li (st : List Value) (f : Int64 → Int32 → List Value → Prop) : Prop := match st with | .int y :: .long x :: r => f x y r | _ => False
def w_r (st : List Value) (f : Nat → List Value → Prop) : Prop := match st with | .ref x :: r => f x r | _ => False
def w_ri (st : List Value) (f : Nat → Int32 → List Value → Prop) : Prop := match st with | .int i :: .ref x :: r => f x i r | _ => False
def w_rii (st : List Value) (f : Nat → Int32 → Int32 → List Value → Prop) : Prop := match st with | .int v :: .int i :: .ref x :: r => f x i v r | _ => False
def w_rir (st : List Value) (f : Nat → Int32 → Nat → List Value → Prop) : Prop := match st with | .ref v :: .int i :: .ref x :: r => f x i v r | _ => False
def w_rv (st : List Value) (f : Nat → Value → List Value → Prop) : Prop := match st with | v :: .ref x :: r => f x v r | _ => False
def w_cp (st : List Value) (f : Nat → Int32 → Nat → Int32 → Int32 → List Value → Prop) : Prop := match st with | .int n :: .int dp :: .ref y :: .int sp :: .ref x :: r => f x sp y dp n r | _ => False
theorem w_i_inv {st : List Value} {f : Int32 → List Value → Prop} (h : w_i st f) : ∃ x r, st = .int x :: r ∧ f x r := by
  unfold w_i at h
  split at h
  · exact ⟨_, _, rfl, h⟩
  · exact h.elim
theorem w_ii_inv {st : List Value} {f : Int32 → Int32 → List Value → Prop} (h : w_ii st f) : ∃ x y r, st = .int y :: .int x :: r ∧ f x y r := by
  unfold w_ii at h
  split at h
  · exact ⟨_, _, _, rfl, h⟩
  · exact h.elim
theorem w_l_inv {st : List Value} {f : Int64 → List Value → Prop} (h : w_l st f) : ∃ x r, st = .long x :: r ∧ f x r := by
  unfold w_l at h
  split at h
  · exact ⟨_, _, rfl, h⟩
  · exact h.elim
theorem w_ll_inv {st : List Value} {f : Int64 → Int64 → List Value → Prop} (h : w_ll st f) : ∃ x y r, st = .long y :: .long x :: r ∧ f x y r := by
  unfold w_ll at h
  split at h
  · exact ⟨_, _, _, rfl, h⟩
  · exact h.elim
theorem w_li_inv {st : List Value} {f : Int64 → Int32 → List Value → Prop} (h : w_li st f) : ∃ x y r, st = .int y :: .long x :: r ∧ f x y r := by
  unfold w_li at h
  split at h
  · exact ⟨_, _, _, rfl, h⟩
  · exact h.elim
theorem w_r_inv {st : List Value} {f : Nat → List Value → Prop} (h : w_r st f) : ∃ x r, st = .ref x :: r ∧ f x r := by
  unfold w_r at h
  split at h
  · exact ⟨_, _, rfl, h⟩
  · exact h.elim
theorem w_ri_inv {st : List Value} {f : Nat → Int32 → List Value → Prop} (h : w_ri st f) : ∃ x i r, st = .int i :: .ref x :: r ∧ f x i r := by
  unfold w_ri at h
  split at h
  · exact ⟨_, _, _, rfl, h⟩
  · exact h.elim
theorem w_rii_inv {st : List Value} {f : Nat → Int32 → Int32 → List Value → Prop} (h : w_rii st f) : ∃ x i v r, st = .int v :: .int i :: .ref x :: r ∧ f x i v r := by
  unfold w_rii at h
  split at h
  · exact ⟨_, _, _, _, rfl, h⟩
  · exact h.elim
theorem w_rir_inv {st : List Value} {f : Nat → Int32 → Nat → List Value → Prop} (h : w_rir st f) : ∃ x i v r, st = .ref v :: .int i :: .ref x :: r ∧ f x i v r := by
  unfold w_rir at h
  split at h
  · exact ⟨_, _, _, _, rfl, h⟩
  · exact h.elim
theorem w_rv_inv {st : List Value} {f : Nat → Value → List Value → Prop} (h : w_rv st f) : ∃ x v r, st = v :: .ref x :: r ∧ f x v r := by
  unfold w_rv at h
  split at h
  · exact ⟨_, _, _, rfl, h⟩
  · exact h.elim
theorem w_cp_inv {st : List Value} {f : Nat → Int32 → Nat → Int32 → Int32 → List Value → Prop} (h : w_cp st f) : ∃ x sp y dp n r, st = .int n :: .int dp :: .ref y :: .int sp :: .ref x :: r ∧ f x sp y dp n r := by
  unfold w_cp at h
  split at h
  · exact ⟨_, _, _, _, _, _, rfl, h⟩
  · exact h.elim
/-! a cell, by its form -/
def w_ob (h : mH) (x c : Nat) (f : List Value → Prop) : Prop := match h x with | some (.inr (c', fs)) => c' = c ∧ f fs | _ => False
def w_ai (h : mH) (x : Nat) (c : ClassId) (f : Nat → (Nat → Int32) → Prop) : Prop := match h x with | some (.inl (c', n, .inl g)) => c' = c ∧ f n g | _ => False
def w_ar (h : mH) (x : Nat) (c : ClassId) (f : Nat → (Nat → Option Nat) → Prop) : Prop := match h x with | some (.inl (c', n, .inr (.inr (.inr (.inr g))))) => c' = c ∧ f n g | _ => False
theorem w_ob_inv {h : mH} {x c : Nat} {f : List Value → Prop} (q : w_ob h x c f) : ∃ fs, h x = some (.inr (c, fs)) ∧ f fs := by
  unfold w_ob at q
  split at q
  next c' fs e => obtain ⟨rfl, q⟩ := q; exact ⟨fs, e, q⟩
  next => exact q.elim
theorem w_ai_inv {h : mH} {x : Nat} {c : ClassId} {f : Nat → (Nat → Int32) → Prop} (q : w_ai h x c f) : ∃ n g, h x = some (.inl (c, n, .inl g)) ∧ f n g := by
  unfold w_ai at q
  split at q
  next c' n g e => obtain ⟨rfl, q⟩ := q; exact ⟨n, g, e, q⟩
  next => exact q.elim
theorem w_ar_inv {h : mH} {x : Nat} {c : ClassId} {f : Nat → (Nat → Option Nat) → Prop} (q : w_ar h x c f) : ∃ n g, h x = some (.inl (c, n, .inr (.inr (.inr (.inr g))))) ∧ f n g := by
  unfold w_ar at q
  split at q
  next c' n g e => obtain ⟨rfl, q⟩ := q; exact ⟨n, g, e, q⟩
  next => exact q.elim
def w_o {α : Type} (o : Option α) (f : α → Prop) : Prop := match o with | some v => f v | none => False
theorem w_o_inv {α : Type} {o : Option α} {f : α → Prop} (q : w_o o f) : ∃ v, o = some v ∧ f v := by
  unfold w_o at q
  split at q
  · exact ⟨_, rfl, q⟩
  · exact q.elim
theorem w_ob_of {h : mH} {x c : Nat} {f : List Value → Prop} {fs : List Value} (e : h x = some (.inr (c, fs))) (q : f fs) : w_ob h x c f := by unfold w_ob; rw [e]; exact ⟨rfl, q⟩
theorem w_ai_of {h : mH} {x : Nat} {c : ClassId} {f : Nat → (Nat → Int32) → Prop} {n : Nat} {g : Nat → Int32} (e : h x = some (.inl (c, n, .inl g))) (q : f n g) : w_ai h x c f := by unfold w_ai; rw [e]; exact ⟨rfl, q⟩
theorem w_ar_of {h : mH} {x : Nat} {c : ClassId} {f : Nat → (Nat → Option Nat) → Prop} {n : Nat} {g : Nat → Option Nat} (e : h x = some (.inl (c, n, .inr (.inr (.inr (.inr g)))))) (q : f n g) : w_ar h x c f := by unfold w_ar; rw [e]; exact ⟨rfl, q⟩
/-- a store into place i does not break a long -/
def mOk1 (L : mL) (i : Nat) : Prop := match i with | 0 => True | j + 1 => match L[j]? with | some (some v) => v.category = 1 | _ => True
def mfit (ty : FieldType) (v : Value) : Prop := match ty, v with
  | .int, .int _ => True
  | .boolean, .int x => x = 0 ∨ x = 1
  | .object _, .ref _ => True
  | .array _, .ref _ => True
  | _, _ => False
theorem mfit_ok {ty : FieldType} {v : Value} (h : mfit ty v) : narrow ty v = v ∧ fits ty v = true := by
  unfold mfit at h
  split at h
  · exact ⟨rfl, rfl⟩
  · rcases h with rfl | rfl
    · exact ⟨by decide, by decide⟩
    · exact ⟨by decide, by decide⟩
  · exact ⟨rfl, rfl⟩
  · exact ⟨rfl, rfl⟩
  · exact h.elim
def mrt (ty : Option FieldType) (x : Int32) : Prop := match ty with
  | some .int => True
  | some .boolean => x = 0 ∨ x = 1
  | _ => False
def mpop : Nat → List Value → List Value → Option (List Value × List Value)
  | 0, acc, st => some (acc, st)
  | n + 1, acc, v :: st => mpop n (v :: acc) st
  | _ + 1, _, [] => none
theorem mpop_eq : ∀ (n : Nat) (acc st a r : List Value), mpop n acc st = some (a, r) → ∃ b : List Value, a = b.reverse ++ acc ∧ st = b ++ r ∧ b.length = n
  | 0, acc, st, a, r, h => by cases h; exact ⟨[], rfl, rfl, rfl⟩
  | n + 1, acc, v :: st, a, r, h => by
    obtain ⟨b, h1, h2, h3⟩ := mpop_eq n (v :: acc) st a r h
    exact ⟨v :: b, by rw [h1]; simp, by rw [h2]; rfl, by simp [h3]⟩
  | _ + 1, _, [], _, _, h => by cases h
def mstW (r : List Value) : Nat := (r.map fun v => v.category).sum
/-- what a constructor makes: cells, slots -/
def mCost (c : Nat) : Nat × Nat := match c with
  | 0 => (3, 91)
  | 1 => (2, 6)
  | 2 => (1, 62)
  | 3 => (38, 484)
  | 4 => (1, 120)
  | 5 => (45, 663)
  | 6 => (136, 2500)
  | 7 => (17, 2100)
  | _ => (0, 0)
def mcmp (c : ClassFile.Cond) (x y : Int32) : Prop := match c with
  | .eq => x = y
  | .ne => ¬ x = y
  | .lt => x < y
  | .ge => y ≤ x
  | .gt => y < x
  | .le => x ≤ y
/-! what is asked of one value, of a list: unfolded from the outside -/
def w_int (x : Value) (f : Int32 → Prop) : Prop := match x with | .int y => f y | _ => False
def w_ref (x : Value) (f : Nat → Prop) : Prop := match x with | .ref y => f y | _ => False
def w_lng (x : Value) (f : Int64 → Prop) : Prop := match x with | .long y => f y | _ => False
theorem w_int_inv {x : Value} {f : Int32 → Prop} (h : w_int x f) : ∃ y, x = .int y ∧ f y := by
  unfold w_int at h
  split at h
  · exact ⟨_, rfl, h⟩
  · exact h.elim
theorem w_ref_inv {x : Value} {f : Nat → Prop} (h : w_ref x f) : ∃ y, x = .ref y ∧ f y := by
  unfold w_ref at h
  split at h
  · exact ⟨_, rfl, h⟩
  · exact h.elim
theorem w_lng_inv {x : Value} {f : Int64 → Prop} (h : w_lng x f) : ∃ y, x = .long y ∧ f y := by
  unfold w_lng at h
  split at h
  · exact ⟨_, rfl, h⟩
  · exact h.elim
def w_set (L : mL) (i : Nat) (v : Option Value) (f : mL → Prop) : Prop := f (L.set i v)
def w_fset (L : List Value) (i : Nat) (v : Value) (f : List Value → Prop) : Prop := f (L.set i v)
def w_dup (st : List Value) (f : Value → List Value → Prop) : Prop := match st with | x :: r => x.category = 1 ∧ f x r | _ => False
def w_dup2 (st : List Value) (f : Value → Value → List Value → Prop) : Prop := match st with | x :: y :: r => x.category = 1 ∧ y.category = 1 ∧ f x y r | _ => False
def w_pop (n : Nat) (acc st : List Value) (f : List Value → List Value → Prop) : Prop := w_o (mpop n acc st) fun q => f q.1 q.2
/-- a value as a field's kind has it: 0 int, 1 boolean, 2 reference -/
def w_fit (c : Nat) (v : Value) (P : Prop) : Prop := match c, v with
  | 0, .int _ => P
  | 1, .int x => (x = 0 ∨ x = 1) ∧ P
  | 2, .ref _ => P
  | _, _ => False
/-- the answer: 0 int, 1 boolean -/
def w_ret (c : Nat) (st : List Value) (f : Int32 → Prop) : Prop := match c, st with
  | 0, [.int x] => f x
  | 1, [.int x] => (x = 0 ∨ x = 1) ∧ f x
  | _, _ => False
def w_rtr (st : List Value) (f : Nat → Prop) : Prop := match st with | [.ref x] => f x | _ => False
def w_rtv (st : List Value) (P : Prop) : Prop := match st with | [] => P | _ => False
/-- what stands behind a call -/
def w_k (k : Nat → mL → List Value → mH → mAl → Prop) (nx : Nat) (L : mL) (r : List Value) (al : mAl) : Option Value → mH → Prop := fun rv h' => k nx L (rv.toList ++ r) h' al
def wpI (G : mG) (d : Nat) (R : Room) (ret : Option Value → mH → mAl → Prop) (k : Nat → mL → List Value → mH → mAl → Prop) (e : mE) (L : mL) (st : List Value) (h : mH) (al : mAl) : Prop :=
  match e with
  | (ins, nx, a, b, c, v, w) => match ins with
    | .iconst _ => k nx L (.int v :: st) h al
    | .bipush _ => k nx L (.int v :: st) h al
    | .sipush _ => k nx L (.int v :: st) h al
    | .lconst _ => k nx L (.long w :: st) h al
    | .ldc2_w _ => k nx L (.long w :: st) h al
    | .iload_n _ => w_o (L.getD a none) fun x => w_int x fun x => k nx L (.int x :: st) h al
    | .iload _ => w_o (L.getD a none) fun x => w_int x fun x => k nx L (.int x :: st) h al
    | .aload_n _ => w_o (L.getD a none) fun x => w_ref x fun x => k nx L (.ref x :: st) h al
    | .aload _ => w_o (L.getD a none) fun x => w_ref x fun x => k nx L (.ref x :: st) h al
    | .lload_n _ => w_o (L.getD a none) fun x => w_lng x fun x => k nx L (.long x :: st) h al
    | .lload _ => w_o (L.getD a none) fun x => w_lng x fun x => k nx L (.long x :: st) h al
    | .istore_n _ => w_i st fun x r => mOk1 L a ∧ w_set L a (some (.int x)) fun L => k nx L r h al
    | .istore _ => w_i st fun x r => mOk1 L a ∧ w_set L a (some (.int x)) fun L => k nx L r h al
    | .astore_n _ => w_r st fun x r => mOk1 L a ∧ w_set L a (some (.ref x)) fun L => k nx L r h al
    | .astore _ => w_r st fun x r => mOk1 L a ∧ w_set L a (some (.ref x)) fun L => k nx L r h al
    | .lstore _ => w_l st fun x r => mOk1 L a ∧ a + 1 < L.length ∧ w_set L (a + 1) none fun L => w_set L a (some (.long x)) fun L => k nx L r h al
    | .iinc _ _ => w_o (L.getD a none) fun x => w_int x fun x => mOk1 L a ∧ w_set L a (some (.int (x + v))) fun L => k nx L st h al
    | .dup => w_dup st fun x r => k nx L (x :: x :: r) h al
    | .dup2 => w_dup2 st fun x y r => k nx L (x :: y :: x :: y :: r) h al
    | .iadd => w_ii st fun x y r => k nx L (.int (x + y) :: r) h al
    | .isub => w_ii st fun x y r => k nx L (.int (x - y) :: r) h al
    | .imul => w_ii st fun x y r => k nx L (.int (x * y) :: r) h al
    | .idiv => w_ii st fun x y r => ¬ y = 0 ∧ k nx L (.int (x / y) :: r) h al
    | .irem => w_ii st fun x y r => ¬ y = 0 ∧ k nx L (.int (x - x / y * y) :: r) h al
    | .iand => w_ii st fun x y r => k nx L (.int (x &&& y) :: r) h al
    | .ior => w_ii st fun x y r => k nx L (.int (x ||| y) :: r) h al
    | .ixor => w_ii st fun x y r => k nx L (.int (x ^^^ y) :: r) h al
    | .ishl => w_ii st fun x y r => k nx L (.int (x <<< (y &&& 31)) :: r) h al
    | .ishr => w_ii st fun x y r => k nx L (.int (x >>> (y &&& 31)) :: r) h al
    | .iushr => w_ii st fun x y r => k nx L (.int (x.toUInt32 >>> (y.toUInt32 &&& Int32.toUInt32 31)).toInt32 :: r) h al
    | .ineg => w_i st fun x r => k nx L (.int (-x) :: r) h al
    | .i2l => w_i st fun x r => k nx L (.long x.toInt64 :: r) h al
    | .i2b => w_i st fun x r => k nx L (.int x.toInt8.toInt32 :: r) h al
    | .i2s => w_i st fun x r => k nx L (.int x.toInt16.toInt32 :: r) h al
    | .i2c => w_i st fun x r => k nx L (.int (x.toUInt32 % 65536).toInt32 :: r) h al
    | .l2i => w_l st fun x r => k nx L (.int x.toInt32 :: r) h al
    | .ladd => w_ll st fun x y r => k nx L (.long (x + y) :: r) h al
    | .land => w_ll st fun x y r => k nx L (.long (x &&& y) :: r) h al
    | .lor => w_ll st fun x y r => k nx L (.long (x ||| y) :: r) h al
    | .lcmp => w_ll st fun x y r => k nx L (.int (lg_cmp x y) :: r) h al
    | .lshl => w_li st fun x y r => k nx L (.long (x <<< (y.toInt64 &&& 63)) :: r) h al
    | .lshr => w_li st fun x y r => k nx L (.long (x >>> (y.toInt64 &&& 63)) :: r) h al
    | .ifCond c _ => w_i st fun x r => (mcmp c x 0 → k a L r h al) ∧ (¬ mcmp c x 0 → k nx L r h al)
    | .if_icmp c _ => w_ii st fun x y r => (mcmp c x y → k a L r h al) ∧ (¬ mcmp c x y → k nx L r h al)
    | .goto _ => k a L st h al
    | .getfield _ => w_r st fun x r => w_ob h x a fun fs => w_o fs[b]? fun v => k nx L (v :: r) h al
    | .putfield _ => w_rv st fun x v r => w_ob h x a fun fs => b < fs.length ∧ w_fit c v (w_fset fs b v fun fs => k nx L r (mset h x (.inr (a, fs))) al)
    | .iaload => w_ri st fun x i r => w_ai h x (gC G 0) fun n f => vp_in i n ∧ k nx L (.int (f i.toNatClampNeg) :: r) h al
    | .baload => w_ri st fun x i r => w_ai h x (gC G a) fun n f => vp_in i n ∧ k nx L (.int (f i.toNatClampNeg) :: r) h al
    | .aaload => w_ri st fun x i r => w_ar h x (gC G a) fun n f => vp_in i n ∧ w_o (f i.toNatClampNeg) fun y => k nx L (.ref y :: r) h al
    | .iastore => w_rii st fun x i v r => w_ai h x (gC G 0) fun n f => vp_in i n ∧ k nx L r (mset h x (.inl (gC G 0, n, .inl (upd f i.toNatClampNeg v)))) al
    | .bastore => w_rii st fun x i v r => w_ai h x (gC G a) fun n f => vp_in i n ∧ k nx L r (mset h x (.inl (gC G a, n, .inl (upd f i.toNatClampNeg (vp_nar (if a = 1 then .byte else .boolean) v))))) al
    | .invokevirtual _ => if a = 999 then False else w_pop b [] st fun As st => w_r st fun x r => w_ob h x c fun _ => 1 ≤ d ∧ mstW r ≤ 8 ∧ MC G (mtab a) (d - 1) 0 0 (.ref x :: As) h al.1 (w_k k nx L r al)
    | .invokestatic _ =>
      if a = 1000 then w_cp st fun x sp y dp n r => w_ai h x (gC G 0) fun n0 f => w_ai h y (gC G 0) fun n1 g => 1 ≤ d ∧ mstW r ≤ 8 ∧ ¬ sp < 0 ∧ ¬ dp < 0 ∧ ¬ n < 0 ∧ sp.toNatClampNeg + n.toNatClampNeg ≤ n0 ∧ dp.toNatClampNeg + n.toNatClampNeg ≤ n1 ∧ k nx L r (mset h y (.inl (gC G 0, n1, .inl (va_cpy f g sp.toNatClampNeg dp.toNatClampNeg n.toNatClampNeg)))) al
      else if a = 1010 then w_ii st fun x y r => 1 ≤ d ∧ mstW r ≤ 8 ∧ k nx L (.int (if x < y then y else x) :: r) h al
      else if a = 1011 then w_ii st fun x y r => 1 ≤ d ∧ mstW r ≤ 8 ∧ k nx L (.int (if y < x then y else x) :: r) h al
      else if a = 1012 then w_i st fun x r => 1 ≤ d ∧ mstW r ≤ 8 ∧ k nx L (.int (if 0 ≤ x then x else 0 - x) :: r) h al
      else if a = 1013 then False
      else w_pop b [] st fun As r => 1 ≤ d ∧ mstW r ≤ 8 ∧ MC G (mtab a) (d - 1) 0 0 As h al.1 (w_k k nx L r al)
    | .invokespecial _ =>
      if a = 1001 then w_r st fun _ r => 1 ≤ d ∧ mstW r ≤ 8 ∧ k nx L r h al
      else w_pop b [] st fun As st => w_r st fun x r => 1 ≤ d ∧ mstW r ≤ 8 ∧ al.2.1 + (mCost c).1 ≤ R.cells ∧ al.2.2 + (mCost c).2 ≤ R.slots ∧ MC G (mtab a) (d - 1) (mCost c).1 (mCost c).2 (.ref x :: As) h al.1 (w_k k nx L r (al.1 + (mCost c).1, al.2.1 + (mCost c).1, al.2.2 + (mCost c).2))
    | .ireturn => w_ret c st fun x => ret (some (.int x)) h al
    | .areturn => w_rtr st fun x => ret (some (.ref x)) h al
    | .return_ => w_rtv st (ret none h al)
    | _ => False
end
section
/-! the tables are right; one step of wpI is a step of the machine -/
def stdLen (i : Instr) : Nat := match i with
  | .newarray _ | .ldc _ | .bipush _ | .iload _ | .aload _ | .lload _ | .istore _ | .astore _ | .lstore _ => 2
  | .new _ | .anewarray _ | .ldc_w _ | .sipush _ | .ldc2_w _ | .iinc _ _ | .ifCond _ _ | .if_icmp _ _ | .goto _ | .getfield _ | .putfield _ | .invokevirtual _ | .invokestatic _ | .invokespecial _ => 3
  | .multianewarray _ _ => 4
  | .tableswitch _ _ _ _ | .lookupswitch _ _ => 0
  | _ => 1
def okR (M : mI) (pc : Nat) (e : mE) : Bool := match e with
  | (ins, _, a, b, c, v, w) => match ins with
    | .iconst n => decide (Int32.ofInt n = v)
    | .bipush n => decide ((Int8.ofInt n).toInt32 = v)
    | .sipush n => decide ((Int16.ofInt n).toInt32 = v)
    | .lconst n => decide (Int64.ofNat (n : Nat) = w)
    | .ldc2_w i => rTabL.any (fun q => q.1 == mCls M && (q.2.1 == i && q.2.2.1 == w))
    | .iload_n n | .aload_n n | .lload_n n => decide ((n : Nat) = a)
    | .istore_n n | .astore_n n => decide ((n : Nat) = a ∧ a < mMx M)
    | .iload i | .aload i | .lload i | .lstore i => decide (i = a)
    | .istore i | .astore i => decide (i = a ∧ a < mMx M)
    | .iinc i n => decide (i = a ∧ Int32.ofInt n = v)
    | .ifCond _ off | .if_icmp _ off | .goto off => decide ((pc : Int) + off = (a : Int))
    | .getfield i => rTabF.any (fun q => q.1 == mCls M && (q.2.1 == i && (q.2.2.1 == a && q.2.2.2.1 == b)))
    | .putfield i => rTabF.any (fun q => q.1 == mCls M && (q.2.1 == i && (q.2.2.1 == a && (q.2.2.2.1 == b && q.2.2.2.2.1 == 0)))) && ((match vwCl[a]? with | some c => !(c.2.1 b).2.2.2 || (decide ((mNm M).name = "<init>") && decide (c.1 = mOwn (mCls M))) | none => false) && (match c, tyCl a b with | 0, .int => true | 1, .boolean => true | 2, .object _ => true | 2, .array _ => true | _, _ => false))
    | .baload | .bastore => a == 1 || a == 2
    | .aaload => a == 3 || (a == 4 || a == 5)
    | .invokevirtual i => a == 999 || (rTabM.any (fun q => q.1 == mCls M && (q.2.1 == i && (q.2.2.1 == a && q.2.2.2.1 == 0))) && rTabW.any (fun q => q.1 == a && (q.2.1 == 0 && q.2.2.1 == b)) && decide (mCls (mtab a) = c))
    | .invokestatic i => if a = 1000 ∨ a = 1010 ∨ a = 1011 ∨ a = 1012 ∨ a = 1013 then rTabS.any (fun q => q.1 == mCls M && (q.2.1 == i && q.2.2.1 == a)) else (rTabM.any (fun q => q.1 == mCls M && (q.2.1 == i && (q.2.2.1 == a && q.2.2.2.1 == 0))) && rTabW.any (fun q => q.1 == a && (q.2.1 == 1 && q.2.2.1 == b)))
    | .invokespecial i => if a = 1001 then rTabS.any (fun q => q.1 == mCls M && (q.2.1 == i && q.2.2.1 == a)) else (rTabM.any (fun q => q.1 == mCls M && (q.2.1 == i && q.2.2.1 == a)) && rTabW.any (fun q => q.1 == a && (q.2.1 == 2 && q.2.2.1 == b)))
    | .ireturn => (match c, mRt M with | 0, some .int => true | 1, some .boolean => true | _, _ => false)
    | .areturn => (match mRt M with | some (.object _) => true | _ => false)
    | .return_ => decide (mRt M = none)
    | _ => true
def okE (M : mI) (q : Nat × mE) : Bool := decide (q.1 ≤ q.2.2.1 ∧ decode (mCd M) q.1 = .ok (q.2.1, q.2.2.1 - q.1)) && (decide (stdLen q.2.1 = 0 ∨ q.2.2.1 = q.1 + stdLen q.2.1) && okR M q.1 q.2)
def okM (M : mI) : Bool := (mOps M).all (okE M)
/-- methods of the JDK that have rows of their own -/
def spName (n : Nat) : MethodName := if n = 1001 then objectInit else if n = 1000 then arraycopyName else if n = 1010 then Lib.Math.max.name else if n = 1011 then Lib.Math.min.name else if n = 1012 then Lib.Math.abs.name else ⟨"java/lang/Math", "floorMod", "(II)I"⟩
def okF (q : Nat × Nat × Nat × Nat × Nat × Nat) : Bool := match vwCl[q.2.2.1]? with
  | some (C, T, n) => decide (q.2.2.2.1 < n) && (decide ((T q.2.2.2.1).1 = C) && (if q.2.2.2.2.1 = 0 then decide (lw_tbl[q.2.2.2.2.2]? = some (.fieldLink (mOwn q.1) q.2.1 C (T q.2.2.2.1).2.1 (T q.2.2.2.1).2.2.1)) else decide (lw_tbl[q.2.2.2.2.2]? = some (.fieldLinkNest (mOwn q.1) q.2.1 C (T q.2.2.2.1).2.1 (T q.2.2.2.1).2.2.1 "CornerFronts"))))
  | none => false
def okMl (q : Nat × Nat × Nat × Nat × Nat) : Bool := if q.2.2.2.1 = 0 then decide (lw_tbl[q.2.2.2.2]? = some (.methodLink (mOwn q.1) q.2.1 (mNm (mtab q.2.2.1)))) else decide (lw_tbl[q.2.2.2.2]? = some (.methodLinkNest (mOwn q.1) q.2.1 (mNm (mtab q.2.2.1)) "CornerFronts"))
def okW (q : Nat × Nat × Nat × Nat × Nat × Nat × Nat) : Bool :=
  ((if q.2.1 = 1 then decide (lw_tbl[q.2.2.2.2.1]? = some (.static (mNm (mtab q.1)))) else decide (lw_tbl[q.2.2.2.2.1]? = some (.instanceMethod (mNm (mtab q.1))))) &&
  ((if q.2.1 = 0 then decide (lw_tbl[q.2.2.2.2.2.1]? = some (.selects (mNm (mtab q.1)).cls (mNm (mtab q.1)) (mNm (mtab q.1)))) else true) &&
  (decide (lw_tbl[q.2.2.2.2.2.2]? = some (.initialized (mNm (mtab q.1)).cls)) &&
  (decide ((mNm (mtab q.1)).cls ≠ "java/lang/invoke/MethodHandle" ∧ (mNm (mtab q.1)).cls ≠ "java/lang/invoke/VarHandle" ∧ (parseMethodDescriptor (mNm (mtab q.1)).desc).map (fun d => d.parameters.length) = some q.2.2.1) &&
  (decide (plainName (mNm (mtab q.1)).cls = true ∧ mMx (mtab q.1) ≤ 45 ∧ mOwn (mCls (mtab q.1)) = (mNm (mtab q.1)).cls) &&
  ((if q.2.1 = 2 then decide ((mNm (mtab q.1)).name = "<init>" ∧ mRt (mtab q.1) = none) else true) && (if q.2.1 = 0 then decide ((vwCl[mCls (mtab q.1)]?).map (fun c => c.1) = some (mNm (mtab q.1)).cls) else true)))))))
set_option maxRecDepth 100000 in
theorem tabF_ok : rTabF.all okF = true := by decide +kernel
set_option maxRecDepth 100000 in
theorem tabM_ok : rTabM.all okMl = true := by decide +kernel
set_option maxRecDepth 100000 in
theorem tabL_ok : rTabL.all (fun q => decide (lw_tbl[q.2.2.2]? = some (.constantLong (mOwn q.1) q.2.1 q.2.2.1))) = true := by decide +kernel
set_option maxRecDepth 100000 in
theorem tabS_ok : rTabS.all (fun q => decide (lw_tbl[q.2.2.2]? = some (.methodLink (mOwn q.1) q.2.1 (spName q.2.2.1)))) = true := by decide +kernel
set_option maxRecDepth 100000 in
theorem posS_ok : Cond.instanceMethod objectInit ∈ lw_tbl ∧ Cond.code objectInit ⟨#[0xb1]⟩ 1 none ∈ lw_tbl ∧ Cond.native arraycopyName ∈ lw_tbl ∧ Cond.static arraycopyName ∈ lw_tbl ∧ Cond.initialized "java/lang/System" ∈ lw_tbl :=
  ⟨List.mem_of_getElem? (i := posS.getD 0 0) (by decide +kernel), List.mem_of_getElem? (i := posS.getD 1 0) (by decide +kernel), List.mem_of_getElem? (i := posS.getD 2 0) (by decide +kernel), List.mem_of_getElem? (i := posS.getD 3 0) (by decide +kernel), List.mem_of_getElem? (i := posS.getD 4 0) (by decide +kernel)⟩
set_option maxRecDepth 100000 in
theorem posMt_ok : Cond.static Lib.Math.max.name ∈ lw_tbl ∧ Cond.code Lib.Math.max.name Lib.Math.max.code 2 (some .int) ∈ lw_tbl ∧ Cond.static Lib.Math.min.name ∈ lw_tbl ∧ Cond.code Lib.Math.min.name Lib.Math.min.code 2 (some .int) ∈ lw_tbl ∧ Cond.static Lib.Math.abs.name ∈ lw_tbl ∧ Cond.code Lib.Math.abs.name Lib.Math.abs.code 1 (some .int) ∈ lw_tbl ∧ Cond.initialized "java/lang/Math" ∈ lw_tbl :=
  ⟨List.mem_of_getElem? (i := posMt.getD 0 0) (by decide +kernel), List.mem_of_getElem? (i := posMt.getD 1 0) (by decide +kernel), List.mem_of_getElem? (i := posMt.getD 2 0) (by decide +kernel), List.mem_of_getElem? (i := posMt.getD 3 0) (by decide +kernel), List.mem_of_getElem? (i := posMt.getD 4 0) (by decide +kernel), List.mem_of_getElem? (i := posMt.getD 5 0) (by decide +kernel), List.mem_of_getElem? (i := posMt.getD 6 0) (by decide +kernel)⟩
set_option maxRecDepth 100000 in
theorem cl_in0 : ∀ w ∈ u_ws RX0 TX0 5, w ∈ lw_tbl := by decide +kernel
set_option maxRecDepth 100000 in
theorem cl_in1 : ∀ w ∈ u_ws RX1 TX1 4, w ∈ lw_tbl := by decide +kernel
set_option maxRecDepth 100000 in
theorem cl_in2 : ∀ w ∈ u_ws RX2 TX2 3, w ∈ lw_tbl := by decide +kernel
set_option maxRecDepth 100000 in
theorem cl_in3 : ∀ w ∈ u_ws RX3 TX3 7, w ∈ lw_tbl := by decide +kernel
set_option maxRecDepth 100000 in
theorem cl_in4 : ∀ w ∈ u_ws RX4 TX4 6, w ∈ lw_tbl := by decide +kernel
set_option maxRecDepth 100000 in
theorem cl_in5 : ∀ w ∈ u_ws RX5 TX5 13, w ∈ lw_tbl := by decide +kernel
set_option maxRecDepth 100000 in
theorem cl_in6 : ∀ w ∈ u_ws RX6 TX6 9, w ∈ lw_tbl := by decide +kernel
set_option maxRecDepth 100000 in
theorem cl_in7 : ∀ w ∈ u_ws RX7 TX7 30, w ∈ lw_tbl := by decide +kernel
def clP (ci : Nat) (q : vw_C) : Prop := (∀ k, k < q.2.2 → parseFieldDescriptor (q.2.1 k).2.2.1 = some (tyCl ci k)) ∧ (∀ a, a < q.2.2 → ∀ b, b < q.2.2 → a ≠ b → (q.2.1 a).2.1 ≠ (q.2.1 b).2.1)
set_option maxRecDepth 100000 in
theorem cl_p0 : clP 0 (RX0, TX0, 5) := ⟨by decide +kernel, by decide +kernel⟩
set_option maxRecDepth 100000 in
theorem cl_p1 : clP 1 (RX1, TX1, 4) := ⟨by decide +kernel, by decide +kernel⟩
set_option maxRecDepth 100000 in
theorem cl_p2 : clP 2 (RX2, TX2, 3) := ⟨by decide +kernel, by decide +kernel⟩
set_option maxRecDepth 100000 in
theorem cl_p3 : clP 3 (RX3, TX3, 7) := ⟨by decide +kernel, by decide +kernel⟩
set_option maxRecDepth 100000 in
theorem cl_p4 : clP 4 (RX4, TX4, 6) := ⟨by decide +kernel, by decide +kernel⟩
set_option maxRecDepth 100000 in
theorem cl_p5 : clP 5 (RX5, TX5, 13) := ⟨by decide +kernel, by decide +kernel⟩
set_option maxRecDepth 100000 in
theorem cl_p6 : clP 6 (RX6, TX6, 9) := ⟨by decide +kernel, by decide +kernel⟩
set_option maxRecDepth 100000 in
theorem cl_p7 : clP 7 (RX7, TX7, 30) := ⟨by decide +kernel, by decide +kernel⟩
theorem cl_facts : ∀ (ci : Nat) (q : vw_C), vwCl[ci]? = some q → (∀ w ∈ u_ws q.1 q.2.1 q.2.2, w ∈ lw_tbl) ∧ clP ci q
  | 0, _, h => by cases h; exact ⟨cl_in0, cl_p0⟩
  | 1, _, h => by cases h; exact ⟨cl_in1, cl_p1⟩
  | 2, _, h => by cases h; exact ⟨cl_in2, cl_p2⟩
  | 3, _, h => by cases h; exact ⟨cl_in3, cl_p3⟩
  | 4, _, h => by cases h; exact ⟨cl_in4, cl_p4⟩
  | 5, _, h => by cases h; exact ⟨cl_in5, cl_p5⟩
  | 6, _, h => by cases h; exact ⟨cl_in6, cl_p6⟩
  | 7, _, h => by cases h; exact ⟨cl_in7, cl_p7⟩
  | n + 8, _, h => by cases h
set_option maxRecDepth 100000 in
theorem tc_0 : Cond.code (mNm MX0_init) (mCd MX0_init) (mMx MX0_init) (mRt MX0_init) ∈ lw_tbl := List.mem_of_getElem? (i := 137) rfl
set_option maxRecDepth 100000 in
theorem tc_1 : Cond.code (mNm MX0_clear) (mCd MX0_clear) (mMx MX0_clear) (mRt MX0_clear) ∈ lw_tbl := List.mem_of_getElem? (i := 353) rfl
set_option maxRecDepth 100000 in
theorem tc_2 : Cond.code (mNm MX0_become) (mCd MX0_become) (mMx MX0_become) (mRt MX0_become) ∈ lw_tbl := List.mem_of_getElem? (i := 492) rfl
set_option maxRecDepth 100000 in
theorem tc_3 : Cond.code (mNm MX0_isWhole) (mCd MX0_isWhole) (mMx MX0_isWhole) (mRt MX0_isWhole) ∈ lw_tbl := List.mem_of_getElem? (i := 460) rfl
set_option maxRecDepth 100000 in
theorem tc_4 : Cond.code (mNm MX0_hasRoomFor) (mCd MX0_hasRoomFor) (mMx MX0_hasRoomFor) (mRt MX0_hasRoomFor) ∈ lw_tbl := List.mem_of_getElem? (i := 472) rfl
set_option maxRecDepth 100000 in
theorem tc_5 : Cond.code (mNm MX0_hasStrandsFor) (mCd MX0_hasStrandsFor) (mMx MX0_hasStrandsFor) (mRt MX0_hasStrandsFor) ∈ lw_tbl := List.mem_of_getElem? (i := 481) rfl
set_option maxRecDepth 100000 in
theorem tc_6 : Cond.code (mNm MX0_append) (mCd MX0_append) (mMx MX0_append) (mRt MX0_append) ∈ lw_tbl := List.mem_of_getElem? (i := 476) rfl
set_option maxRecDepth 100000 in
theorem tc_7 : Cond.code (mNm MX0_appendRange) (mCd MX0_appendRange) (mMx MX0_appendRange) (mRt MX0_appendRange) ∈ lw_tbl := List.mem_of_getElem? (i := 812) rfl
set_option maxRecDepth 100000 in
theorem tc_8 : Cond.code (mNm MX0_appendPatch) (mCd MX0_appendPatch) (mMx MX0_appendPatch) (mRt MX0_appendPatch) ∈ lw_tbl := List.mem_of_getElem? (i := 817) rfl
set_option maxRecDepth 100000 in
theorem tc_9 : Cond.code (mNm MX0_mostStrands) (mCd MX0_mostStrands) (mMx MX0_mostStrands) (mRt MX0_mostStrands) ∈ lw_tbl := List.mem_of_getElem? (i := 597) rfl
set_option maxRecDepth 100000 in
theorem tc_10 : Cond.code (mNm MX0_firstUnlike) (mCd MX0_firstUnlike) (mMx MX0_firstUnlike) (mRt MX0_firstUnlike) ∈ lw_tbl := List.mem_of_getElem? (i := 853) rfl
set_option maxRecDepth 100000 in
theorem tc_11 : Cond.code (mNm MX0_strandsAdded) (mCd MX0_strandsAdded) (mMx MX0_strandsAdded) (mRt MX0_strandsAdded) ∈ lw_tbl := List.mem_of_getElem? (i := 484) rfl
set_option maxRecDepth 100000 in
theorem tc_12 : Cond.code (mNm MX1_init) (mCd MX1_init) (mMx MX1_init) (mRt MX1_init) ∈ lw_tbl := List.mem_of_getElem? (i := 177) rfl
set_option maxRecDepth 100000 in
theorem tc_13 : Cond.code (mNm MX1_begin) (mCd MX1_begin) (mMx MX1_begin) (mRt MX1_begin) ∈ lw_tbl := List.mem_of_getElem? (i := 771) rfl
set_option maxRecDepth 100000 in
theorem tc_14 : Cond.code (mNm MX1_put) (mCd MX1_put) (mMx MX1_put) (mRt MX1_put) ∈ lw_tbl := List.mem_of_getElem? (i := 776) rfl
set_option maxRecDepth 100000 in
theorem tc_15 : Cond.code (mNm MX1_putThree) (mCd MX1_putThree) (mMx MX1_putThree) (mRt MX1_putThree) ∈ lw_tbl := List.mem_of_getElem? (i := 791) rfl
set_option maxRecDepth 100000 in
theorem tc_16 : Cond.code (mNm MX1_planMove) (mCd MX1_planMove) (mMx MX1_planMove) (mRt MX1_planMove) ∈ lw_tbl := List.mem_of_getElem? (i := 763) rfl
set_option maxRecDepth 100000 in
theorem tc_17 : Cond.code (mNm MX1_planSwap) (mCd MX1_planSwap) (mMx MX1_planSwap) (mRt MX1_planSwap) ∈ lw_tbl := List.mem_of_getElem? (i := 767) rfl
set_option maxRecDepth 100000 in
theorem tc_18 : Cond.code (mNm MX1_planSlide) (mCd MX1_planSlide) (mMx MX1_planSlide) (mRt MX1_planSlide) ∈ lw_tbl := List.mem_of_getElem? (i := 780) rfl
set_option maxRecDepth 100000 in
theorem tc_19 : Cond.code (mNm MX1_planUncurl) (mCd MX1_planUncurl) (mMx MX1_planUncurl) (mRt MX1_planUncurl) ∈ lw_tbl := List.mem_of_getElem? (i := 795) rfl
set_option maxRecDepth 100000 in
theorem tc_20 : Cond.code (mNm MX1_planPull) (mCd MX1_planPull) (mMx MX1_planPull) (mRt MX1_planPull) ∈ lw_tbl := List.mem_of_getElem? (i := 799) rfl
set_option maxRecDepth 100000 in
theorem tc_21 : Cond.code (mNm MX1_planStraighten) (mCd MX1_planStraighten) (mMx MX1_planStraighten) (mRt MX1_planStraighten) ∈ lw_tbl := List.mem_of_getElem? (i := 803) rfl
set_option maxRecDepth 100000 in
theorem tc_22 : Cond.code (mNm MX1_hasKinds) (mCd MX1_hasKinds) (mMx MX1_hasKinds) (mRt MX1_hasKinds) ∈ lw_tbl := List.mem_of_getElem? (i := 783) rfl
set_option maxRecDepth 100000 in
theorem tc_23 : Cond.code (mNm MX1_goesThereAndBack) (mCd MX1_goesThereAndBack) (mMx MX1_goesThereAndBack) (mRt MX1_goesThereAndBack) ∈ lw_tbl := List.mem_of_getElem? (i := 786) rfl
set_option maxRecDepth 100000 in
theorem tc_24 : Cond.code (mNm MX1_planAdd) (mCd MX1_planAdd) (mMx MX1_planAdd) (mRt MX1_planAdd) ∈ lw_tbl := List.mem_of_getElem? (i := 825) rfl
set_option maxRecDepth 100000 in
theorem tc_25 : Cond.code (mNm MX1_planPush) (mCd MX1_planPush) (mMx MX1_planPush) (mRt MX1_planPush) ∈ lw_tbl := List.mem_of_getElem? (i := 833) rfl
set_option maxRecDepth 100000 in
theorem tc_26 : Cond.code (mNm MX1_planBirthPush) (mCd MX1_planBirthPush) (mMx MX1_planBirthPush) (mRt MX1_planBirthPush) ∈ lw_tbl := List.mem_of_getElem? (i := 837) rfl
set_option maxRecDepth 100000 in
theorem tc_27 : Cond.code (mNm MX1_planDeathPush) (mCd MX1_planDeathPush) (mMx MX1_planDeathPush) (mRt MX1_planDeathPush) ∈ lw_tbl := List.mem_of_getElem? (i := 841) rfl
set_option maxRecDepth 100000 in
theorem tc_28 : Cond.code (mNm MX2_init) (mCd MX2_init) (mMx MX2_init) (mRt MX2_init) ∈ lw_tbl := List.mem_of_getElem? (i := 288) rfl
set_option maxRecDepth 100000 in
theorem tc_29 : Cond.code (mNm MX2_renew) (mCd MX2_renew) (mMx MX2_renew) (mRt MX2_renew) ∈ lw_tbl := List.mem_of_getElem? (i := 513) rfl
set_option maxRecDepth 100000 in
theorem tc_30 : Cond.code (mNm MX2_write) (mCd MX2_write) (mMx MX2_write) (mRt MX2_write) ∈ lw_tbl := List.mem_of_getElem? (i := 521) rfl
set_option maxRecDepth 100000 in
theorem tc_31 : Cond.code (mNm MX2_narrowed) (mCd MX2_narrowed) (mMx MX2_narrowed) (mRt MX2_narrowed) ∈ lw_tbl := List.mem_of_getElem? (i := 525) rfl
set_option maxRecDepth 100000 in
theorem tc_32 : Cond.code (mNm MX2_tell) (mCd MX2_tell) (mMx MX2_tell) (mRt MX2_tell) ∈ lw_tbl := List.mem_of_getElem? (i := 533) rfl
set_option maxRecDepth 100000 in
theorem tc_33 : Cond.code (mNm MX3_init) (mCd MX3_init) (mMx MX3_init) (mRt MX3_init) ∈ lw_tbl := List.mem_of_getElem? (i := 256) rfl
set_option maxRecDepth 100000 in
theorem tc_34 : Cond.code (mNm MX3_countAll) (mCd MX3_countAll) (mMx MX3_countAll) (mRt MX3_countAll) ∈ lw_tbl := List.mem_of_getElem? (i := 693) rfl
set_option maxRecDepth 100000 in
theorem tc_35 : Cond.code (mNm MX3_findFirst) (mCd MX3_findFirst) (mMx MX3_findFirst) (mRt MX3_findFirst) ∈ lw_tbl := List.mem_of_getElem? (i := 755) rfl
set_option maxRecDepth 100000 in
theorem tc_36 : Cond.code (mNm MX3_foundWith) (mCd MX3_foundWith) (mMx MX3_foundWith) (mRt MX3_foundWith) ∈ lw_tbl := List.mem_of_getElem? (i := 747) rfl
set_option maxRecDepth 100000 in
theorem tc_37 : Cond.code (mNm MX3_begin) (mCd MX3_begin) (mMx MX3_begin) (mRt MX3_begin) ∈ lw_tbl := List.mem_of_getElem? (i := 697) rfl
set_option maxRecDepth 100000 in
theorem tc_38 : Cond.code (mNm MX3_isOfSort) (mCd MX3_isOfSort) (mMx MX3_isOfSort) (mRt MX3_isOfSort) ∈ lw_tbl := List.mem_of_getElem? (i := 700) rfl
set_option maxRecDepth 100000 in
theorem tc_39 : Cond.code (mNm MX3_search) (mCd MX3_search) (mMx MX3_search) (mRt MX3_search) ∈ lw_tbl := List.mem_of_getElem? (i := 706) rfl
set_option maxRecDepth 100000 in
theorem tc_40 : Cond.code (mNm MX3_searchPaired) (mCd MX3_searchPaired) (mMx MX3_searchPaired) (mRt MX3_searchPaired) ∈ lw_tbl := List.mem_of_getElem? (i := 724) rfl
set_option maxRecDepth 100000 in
theorem tc_41 : Cond.code (mNm MX3_searchCross) (mCd MX3_searchCross) (mMx MX3_searchCross) (mRt MX3_searchCross) ∈ lw_tbl := List.mem_of_getElem? (i := 732) rfl
set_option maxRecDepth 100000 in
theorem tc_42 : Cond.code (mNm MX3_note) (mCd MX3_note) (mMx MX3_note) (mRt MX3_note) ∈ lw_tbl := List.mem_of_getElem? (i := 710) rfl
set_option maxRecDepth 100000 in
theorem tc_43 : Cond.code (mNm MX3_pairNew) (mCd MX3_pairNew) (mMx MX3_pairNew) (mRt MX3_pairNew) ∈ lw_tbl := List.mem_of_getElem? (i := 720) rfl
set_option maxRecDepth 100000 in
theorem tc_44 : Cond.code (mNm MX3_dropPair) (mCd MX3_dropPair) (mMx MX3_dropPair) (mRt MX3_dropPair) ∈ lw_tbl := List.mem_of_getElem? (i := 728) rfl
set_option maxRecDepth 100000 in
theorem tc_45 : Cond.code (mNm MX3_changePlaces) (mCd MX3_changePlaces) (mMx MX3_changePlaces) (mRt MX3_changePlaces) ∈ lw_tbl := List.mem_of_getElem? (i := 736) rfl
set_option maxRecDepth 100000 in
theorem tc_46 : Cond.code (mNm MX3_interlocked) (mCd MX3_interlocked) (mMx MX3_interlocked) (mRt MX3_interlocked) ∈ lw_tbl := List.mem_of_getElem? (i := 741) rfl
set_option maxRecDepth 100000 in
theorem tc_47 : Cond.code (mNm MX4_init) (mCd MX4_init) (mMx MX4_init) (mRt MX4_init) ∈ lw_tbl := List.mem_of_getElem? (i := 106) rfl
set_option maxRecDepth 100000 in
theorem tc_48 : Cond.code (mNm MX4_take) (mCd MX4_take) (mMx MX4_take) (mRt MX4_take) ∈ lw_tbl := List.mem_of_getElem? (i := 337) rfl
set_option maxRecDepth 100000 in
theorem tc_49 : Cond.code (mNm MX4_tell) (mCd MX4_tell) (mMx MX4_tell) (mRt MX4_tell) ∈ lw_tbl := List.mem_of_getElem? (i := 349) rfl
set_option maxRecDepth 100000 in
theorem tc_50 : Cond.code (mNm MX4_tellEvent) (mCd MX4_tellEvent) (mMx MX4_tellEvent) (mRt MX4_tellEvent) ∈ lw_tbl := List.mem_of_getElem? (i := 464) rfl
set_option maxRecDepth 100000 in
theorem tc_51 : Cond.code (mNm MX4_misplaced) (mCd MX4_misplaced) (mMx MX4_misplaced) (mRt MX4_misplaced) ∈ lw_tbl := List.mem_of_getElem? (i := 468) rfl
set_option maxRecDepth 100000 in
theorem tc_52 : Cond.code (mNm MX4_readToken) (mCd MX4_readToken) (mMx MX4_readToken) (mRt MX4_readToken) ∈ lw_tbl := List.mem_of_getElem? (i := 357) rfl
set_option maxRecDepth 100000 in
theorem tc_53 : Cond.code (mNm MX4_readLetter) (mCd MX4_readLetter) (mMx MX4_readLetter) (mRt MX4_readLetter) ∈ lw_tbl := List.mem_of_getElem? (i := 369) rfl
set_option maxRecDepth 100000 in
theorem tc_54 : Cond.code (mNm MX4_readNumber) (mCd MX4_readNumber) (mMx MX4_readNumber) (mRt MX4_readNumber) ∈ lw_tbl := List.mem_of_getElem? (i := 365) rfl
set_option maxRecDepth 100000 in
theorem tc_55 : Cond.code (mNm MX4_isFigure) (mCd MX4_isFigure) (mMx MX4_isFigure) (mRt MX4_isFigure) ∈ lw_tbl := List.mem_of_getElem? (i := 361) rfl
set_option maxRecDepth 100000 in
theorem tc_56 : Cond.code (mNm MX5_init) (mCd MX5_init) (mMx MX5_init) (mRt MX5_init) ∈ lw_tbl := List.mem_of_getElem? (i := 200) rfl
set_option maxRecDepth 100000 in
theorem tc_57 : Cond.code (mNm MX5_trace) (mCd MX5_trace) (mMx MX5_trace) (mRt MX5_trace) ∈ lw_tbl := List.mem_of_getElem? (i := 568) rfl
set_option maxRecDepth 100000 in
theorem tc_58 : Cond.code (mNm MX5_layArcs) (mCd MX5_layArcs) (mMx MX5_layArcs) (mRt MX5_layArcs) ∈ lw_tbl := List.mem_of_getElem? (i := 572) rfl
set_option maxRecDepth 100000 in
theorem tc_59 : Cond.code (mNm MX5_beginArcs) (mCd MX5_beginArcs) (mMx MX5_beginArcs) (mRt MX5_beginArcs) ∈ lw_tbl := List.mem_of_getElem? (i := 577) rfl
set_option maxRecDepth 100000 in
theorem tc_60 : Cond.code (mNm MX5_endArcs) (mCd MX5_endArcs) (mMx MX5_endArcs) (mRt MX5_endArcs) ∈ lw_tbl := List.mem_of_getElem? (i := 581) rfl
set_option maxRecDepth 100000 in
theorem tc_61 : Cond.code (mNm MX5_walk) (mCd MX5_walk) (mMx MX5_walk) (mRt MX5_walk) ∈ lw_tbl := List.mem_of_getElem? (i := 585) rfl
set_option maxRecDepth 100000 in
theorem tc_62 : Cond.code (mNm MX5_mark) (mCd MX5_mark) (mMx MX5_mark) (mRt MX5_mark) ∈ lw_tbl := List.mem_of_getElem? (i := 589) rfl
set_option maxRecDepth 100000 in
theorem tc_63 : Cond.code (mNm MX5_turnCorner) (mCd MX5_turnCorner) (mMx MX5_turnCorner) (mRt MX5_turnCorner) ∈ lw_tbl := List.mem_of_getElem? (i := 593) rfl
set_option maxRecDepth 100000 in
theorem tc_64 : Cond.code (mNm MX5_isPiece) (mCd MX5_isPiece) (mMx MX5_isPiece) (mRt MX5_isPiece) ∈ lw_tbl := List.mem_of_getElem? (i := 630) rfl
set_option maxRecDepth 100000 in
theorem tc_65 : Cond.code (mNm MX5_pieceAt) (mCd MX5_pieceAt) (mMx MX5_pieceAt) (mRt MX5_pieceAt) ∈ lw_tbl := List.mem_of_getElem? (i := 622) rfl
set_option maxRecDepth 100000 in
theorem tc_66 : Cond.code (mNm MX5_lowerArc) (mCd MX5_lowerArc) (mMx MX5_lowerArc) (mRt MX5_lowerArc) ∈ lw_tbl := List.mem_of_getElem? (i := 610) rfl
set_option maxRecDepth 100000 in
theorem tc_67 : Cond.code (mNm MX5_upperArc) (mCd MX5_upperArc) (mMx MX5_upperArc) (mRt MX5_upperArc) ∈ lw_tbl := List.mem_of_getElem? (i := 614) rfl
set_option maxRecDepth 100000 in
theorem tc_68 : Cond.code (mNm MX5_isPlus) (mCd MX5_isPlus) (mMx MX5_isPlus) (mRt MX5_isPlus) ∈ lw_tbl := List.mem_of_getElem? (i := 606) rfl
set_option maxRecDepth 100000 in
theorem tc_69 : Cond.code (mNm MX5_plusCrosses) (mCd MX5_plusCrosses) (mMx MX5_plusCrosses) (mRt MX5_plusCrosses) ∈ lw_tbl := List.mem_of_getElem? (i := 602) rfl
set_option maxRecDepth 100000 in
theorem tc_70 : Cond.code (mNm MX5_writhe) (mCd MX5_writhe) (mMx MX5_writhe) (mRt MX5_writhe) ∈ lw_tbl := List.mem_of_getElem? (i := 634) rfl
set_option maxRecDepth 100000 in
theorem tc_71 : Cond.code (mNm MX5_linking) (mCd MX5_linking) (mMx MX5_linking) (mRt MX5_linking) ∈ lw_tbl := List.mem_of_getElem? (i := 654) rfl
set_option maxRecDepth 100000 in
theorem tc_72 : Cond.code (mNm MX5_signSum) (mCd MX5_signSum) (mMx MX5_signSum) (mRt MX5_signSum) ∈ lw_tbl := List.mem_of_getElem? (i := 638) rfl
set_option maxRecDepth 100000 in
theorem tc_73 : Cond.code (mNm MX5_deaths) (mCd MX5_deaths) (mMx MX5_deaths) (mRt MX5_deaths) ∈ lw_tbl := List.mem_of_getElem? (i := 642) rfl
set_option maxRecDepth 100000 in
theorem tc_74 : Cond.code (mNm MX5_turn) (mCd MX5_turn) (mMx MX5_turn) (mRt MX5_turn) ∈ lw_tbl := List.mem_of_getElem? (i := 646) rfl
set_option maxRecDepth 100000 in
theorem tc_75 : Cond.code (mNm MX5_levelStep) (mCd MX5_levelStep) (mMx MX5_levelStep) (mRt MX5_levelStep) ∈ lw_tbl := List.mem_of_getElem? (i := 671) rfl
set_option maxRecDepth 100000 in
theorem tc_76 : Cond.code (mNm MX6_init) (mCd MX6_init) (mMx MX6_init) (mRt MX6_init) ∈ lw_tbl := List.mem_of_getElem? (i := 98) rfl
set_option maxRecDepth 100000 in
theorem tc_77 : Cond.code (mNm MX6_feed) (mCd MX6_feed) (mMx MX6_feed) (mRt MX6_feed) ∈ lw_tbl := List.mem_of_getElem? (i := 333) rfl
set_option maxRecDepth 100000 in
theorem tc_78 : Cond.code (mNm MX6_end) (mCd MX6_end) (mMx MX6_end) (mRt MX6_end) ∈ lw_tbl := List.mem_of_getElem? (i := 341) rfl
set_option maxRecDepth 100000 in
theorem tc_79 : Cond.code (mNm MX6_front) (mCd MX6_front) (mMx MX6_front) (mRt MX6_front) ∈ lw_tbl := List.mem_of_getElem? (i := 345) rfl
set_option maxRecDepth 100000 in
theorem tc_80 : Cond.code (mNm MX6_fault) (mCd MX6_fault) (mMx MX6_fault) (mRt MX6_fault) ∈ lw_tbl := List.mem_of_getElem? (i := 499) rfl
set_option maxRecDepth 100000 in
theorem tc_81 : Cond.code (mNm MX6_sheet) (mCd MX6_sheet) (mMx MX6_sheet) (mRt MX6_sheet) ∈ lw_tbl := List.mem_of_getElem? (i := 503) rfl
set_option maxRecDepth 100000 in
theorem tc_82 : Cond.code (mNm MX6_lay) (mCd MX6_lay) (mMx MX6_lay) (mRt MX6_lay) ∈ lw_tbl := List.mem_of_getElem? (i := 517) rfl
set_option maxRecDepth 100000 in
theorem tc_83 : Cond.code (mNm MX6_draw) (mCd MX6_draw) (mMx MX6_draw) (mRt MX6_draw) ∈ lw_tbl := List.mem_of_getElem? (i := 529) rfl
set_option maxRecDepth 100000 in
theorem tc_84 : Cond.code (mNm MX6_copy) (mCd MX6_copy) (mMx MX6_copy) (mRt MX6_copy) ∈ lw_tbl := List.mem_of_getElem? (i := 540) rfl
set_option maxRecDepth 100000 in
theorem tc_85 : Cond.code (mNm MX6_drop) (mCd MX6_drop) (mMx MX6_drop) (mRt MX6_drop) ∈ lw_tbl := List.mem_of_getElem? (i := 548) rfl
set_option maxRecDepth 100000 in
theorem tc_86 : Cond.code (mNm MX6_event) (mCd MX6_event) (mMx MX6_event) (mRt MX6_event) ∈ lw_tbl := List.mem_of_getElem? (i := 552) rfl
set_option maxRecDepth 100000 in
theorem tc_87 : Cond.code (mNm MX6_about) (mCd MX6_about) (mMx MX6_about) (mRt MX6_about) ∈ lw_tbl := List.mem_of_getElem? (i := 560) rfl
set_option maxRecDepth 100000 in
theorem tc_88 : Cond.code (mNm MX6_piece) (mCd MX6_piece) (mMx MX6_piece) (mRt MX6_piece) ∈ lw_tbl := List.mem_of_getElem? (i := 618) rfl
set_option maxRecDepth 100000 in
theorem tc_89 : Cond.code (mNm MX6_number) (mCd MX6_number) (mMx MX6_number) (mRt MX6_number) ∈ lw_tbl := List.mem_of_getElem? (i := 626) rfl
set_option maxRecDepth 100000 in
theorem tc_90 : Cond.code (mNm MX6_link) (mCd MX6_link) (mMx MX6_link) (mRt MX6_link) ∈ lw_tbl := List.mem_of_getElem? (i := 650) rfl
set_option maxRecDepth 100000 in
theorem tc_91 : Cond.code (mNm MX6_sign) (mCd MX6_sign) (mMx MX6_sign) (mRt MX6_sign) ∈ lw_tbl := List.mem_of_getElem? (i := 658) rfl
set_option maxRecDepth 100000 in
theorem tc_92 : Cond.code (mNm MX6_degree) (mCd MX6_degree) (mMx MX6_degree) (mRt MX6_degree) ∈ lw_tbl := List.mem_of_getElem? (i := 667) rfl
set_option maxRecDepth 100000 in
theorem tc_93 : Cond.code (mNm MX6_rulings) (mCd MX6_rulings) (mMx MX6_rulings) (mRt MX6_rulings) ∈ lw_tbl := List.mem_of_getElem? (i := 682) rfl
set_option maxRecDepth 100000 in
theorem tc_94 : Cond.code (mNm MX6_first) (mCd MX6_first) (mMx MX6_first) (mRt MX6_first) ∈ lw_tbl := List.mem_of_getElem? (i := 751) rfl
set_option maxRecDepth 100000 in
theorem tc_95 : Cond.code (mNm MX6_move) (mCd MX6_move) (mMx MX6_move) (mRt MX6_move) ∈ lw_tbl := List.mem_of_getElem? (i := 759) rfl
set_option maxRecDepth 100000 in
theorem tc_96 : Cond.code (mNm MX6_add) (mCd MX6_add) (mMx MX6_add) (mRt MX6_add) ∈ lw_tbl := List.mem_of_getElem? (i := 821) rfl
set_option maxRecDepth 100000 in
theorem tc_97 : Cond.code (mNm MX6_push) (mCd MX6_push) (mMx MX6_push) (mRt MX6_push) ∈ lw_tbl := List.mem_of_getElem? (i := 829) rfl
set_option maxRecDepth 100000 in
theorem tc_98 : Cond.code (mNm MX6_join) (mCd MX6_join) (mMx MX6_join) (mRt MX6_join) ∈ lw_tbl := List.mem_of_getElem? (i := 845) rfl
set_option maxRecDepth 100000 in
theorem tc_99 : Cond.code (mNm MX6_unlike) (mCd MX6_unlike) (mMx MX6_unlike) (mRt MX6_unlike) ∈ lw_tbl := List.mem_of_getElem? (i := 849) rfl
set_option maxRecDepth 100000 in
theorem tc_100 : Cond.code (mNm MX6_count) (mCd MX6_count) (mMx MX6_count) (mRt MX6_count) ∈ lw_tbl := List.mem_of_getElem? (i := 858) rfl
set_option maxRecDepth 100000 in
theorem tc_101 : Cond.code (mNm MX6_isFront) (mCd MX6_isFront) (mMx MX6_isFront) (mRt MX6_isFront) ∈ lw_tbl := List.mem_of_getElem? (i := 544) rfl
set_option maxRecDepth 100000 in
theorem tc_102 : Cond.code (mNm MX6_isEvent) (mCd MX6_isEvent) (mMx MX6_isEvent) (mRt MX6_isEvent) ∈ lw_tbl := List.mem_of_getElem? (i := 556) rfl
set_option maxRecDepth 100000 in
theorem tc_103 : Cond.code (mNm MX6_isCross) (mCd MX6_isCross) (mMx MX6_isCross) (mRt MX6_isCross) ∈ lw_tbl := List.mem_of_getElem? (i := 662) rfl
set_option maxRecDepth 100000 in
theorem tc_104 : Cond.code (mNm MX6_isSheet) (mCd MX6_isSheet) (mMx MX6_isSheet) (mRt MX6_isSheet) ∈ lw_tbl := List.mem_of_getElem? (i := 506) rfl
set_option maxRecDepth 100000 in
theorem tc_105 : Cond.code (mNm MX6_isLane) (mCd MX6_isLane) (mMx MX6_isLane) (mRt MX6_isLane) ∈ lw_tbl := List.mem_of_getElem? (i := 509) rfl
set_option maxRecDepth 100000 in
theorem tc_106 : Cond.code (mNm MX6_isSort) (mCd MX6_isSort) (mMx MX6_isSort) (mRt MX6_isSort) ∈ lw_tbl := List.mem_of_getElem? (i := 685) rfl
set_option maxRecDepth 100000 in
theorem tc_107 : Cond.code (mNm MX6_hasSort) (mCd MX6_hasSort) (mMx MX6_hasSort) (mRt MX6_hasSort) ∈ lw_tbl := List.mem_of_getElem? (i := 689) rfl
set_option maxRecDepth 100000 in
theorem tc_108 : Cond.code (mNm MX6_traced) (mCd MX6_traced) (mMx MX6_traced) (mRt MX6_traced) ∈ lw_tbl := List.mem_of_getElem? (i := 564) rfl
set_option maxRecDepth 100000 in
theorem tc_109 : Cond.code (mNm MX6_keepDraft) (mCd MX6_keepDraft) (mMx MX6_keepDraft) (mRt MX6_keepDraft) ∈ lw_tbl := List.mem_of_getElem? (i := 488) rfl
set_option maxRecDepth 100000 in
theorem tc_110 : Cond.code (mNm MX6_applyPatch) (mCd MX6_applyPatch) (mMx MX6_applyPatch) (mRt MX6_applyPatch) ∈ lw_tbl := List.mem_of_getElem? (i := 807) rfl
set_option maxRecDepth 100000 in
theorem tc_111 : Cond.code (mNm MX7_init) (mCd MX7_init) (mMx MX7_init) (mRt MX7_init) ∈ lw_tbl := List.mem_of_getElem? (i := 863) rfl
set_option maxRecDepth 100000 in
theorem tc_112 : Cond.code (mNm MX7_in) (mCd MX7_in) (mMx MX7_in) (mRt MX7_in) ∈ lw_tbl := List.mem_of_getElem? (i := 966) rfl
set_option maxRecDepth 100000 in
theorem tc_113 : Cond.code (mNm MX7_is) (mCd MX7_is) (mMx MX7_is) (mRt MX7_is) ∈ lw_tbl := List.mem_of_getElem? (i := 1042) rfl
set_option maxRecDepth 100000 in
theorem tc_114 : Cond.code (mNm MX7_isEvent) (mCd MX7_isEvent) (mMx MX7_isEvent) (mRt MX7_isEvent) ∈ lw_tbl := List.mem_of_getElem? (i := 1058) rfl
set_option maxRecDepth 100000 in
theorem tc_115 : Cond.code (mNm MX7_put) (mCd MX7_put) (mMx MX7_put) (mRt MX7_put) ∈ lw_tbl := List.mem_of_getElem? (i := 1004) rfl
set_option maxRecDepth 100000 in
theorem tc_116 : Cond.code (mNm MX7_putOf) (mCd MX7_putOf) (mMx MX7_putOf) (mRt MX7_putOf) ∈ lw_tbl := List.mem_of_getElem? (i := 1046) rfl
set_option maxRecDepth 100000 in
theorem tc_117 : Cond.code (mNm MX7_store) (mCd MX7_store) (mMx MX7_store) (mRt MX7_store) ∈ lw_tbl := List.mem_of_getElem? (i := 1015) rfl
set_option maxRecDepth 100000 in
theorem tc_118 : Cond.code (mNm MX7_added) (mCd MX7_added) (mMx MX7_added) (mRt MX7_added) ∈ lw_tbl := List.mem_of_getElem? (i := 1011) rfl
set_option maxRecDepth 100000 in
theorem tc_119 : Cond.code (mNm MX7_adds) (mCd MX7_adds) (mMx MX7_adds) (mRt MX7_adds) ∈ lw_tbl := List.mem_of_getElem? (i := 1007) rfl
set_option maxRecDepth 100000 in
theorem tc_120 : Cond.code (mNm MX7_ahead) (mCd MX7_ahead) (mMx MX7_ahead) (mRt MX7_ahead) ∈ lw_tbl := List.mem_of_getElem? (i := 1062) rfl
set_option maxRecDepth 100000 in
theorem tc_121 : Cond.code (mNm MX7_crossesOf) (mCd MX7_crossesOf) (mMx MX7_crossesOf) (mRt MX7_crossesOf) ∈ lw_tbl := List.mem_of_getElem? (i := 1083) rfl
set_option maxRecDepth 100000 in
theorem tc_122 : Cond.code (mNm MX7_feed) (mCd MX7_feed) (mMx MX7_feed) (mRt MX7_feed) ∈ lw_tbl := List.mem_of_getElem? (i := 959) rfl
set_option maxRecDepth 100000 in
theorem tc_123 : Cond.code (mNm MX7_end) (mCd MX7_end) (mMx MX7_end) (mRt MX7_end) ∈ lw_tbl := List.mem_of_getElem? (i := 963) rfl
set_option maxRecDepth 100000 in
theorem tc_124 : Cond.code (mNm MX7_byteAt) (mCd MX7_byteAt) (mMx MX7_byteAt) (mRt MX7_byteAt) ∈ lw_tbl := List.mem_of_getElem? (i := 982) rfl
set_option maxRecDepth 100000 in
theorem tc_125 : Cond.code (mNm MX7_fails) (mCd MX7_fails) (mMx MX7_fails) (mRt MX7_fails) ∈ lw_tbl := List.mem_of_getElem? (i := 988) rfl
set_option maxRecDepth 100000 in
theorem tc_126 : Cond.code (mNm MX7_next) (mCd MX7_next) (mMx MX7_next) (mRt MX7_next) ∈ lw_tbl := List.mem_of_getElem? (i := 978) rfl
set_option maxRecDepth 100000 in
theorem tc_127 : Cond.code (mNm MX7_isTooMuch) (mCd MX7_isTooMuch) (mMx MX7_isTooMuch) (mRt MX7_isTooMuch) ∈ lw_tbl := List.mem_of_getElem? (i := 992) rfl
set_option maxRecDepth 100000 in
theorem tc_128 : Cond.code (mNm MX7_hasPlace) (mCd MX7_hasPlace) (mMx MX7_hasPlace) (mRt MX7_hasPlace) ∈ lw_tbl := List.mem_of_getElem? (i := 996) rfl
set_option maxRecDepth 100000 in
theorem tc_129 : Cond.code (mNm MX7_comes) (mCd MX7_comes) (mMx MX7_comes) (mRt MX7_comes) ∈ lw_tbl := List.mem_of_getElem? (i := 1000) rfl
set_option maxRecDepth 100000 in
theorem tc_130 : Cond.code (mNm MX7_begin) (mCd MX7_begin) (mMx MX7_begin) (mRt MX7_begin) ∈ lw_tbl := List.mem_of_getElem? (i := 974) rfl
set_option maxRecDepth 100000 in
theorem tc_131 : Cond.code (mNm MX7_front) (mCd MX7_front) (mMx MX7_front) (mRt MX7_front) ∈ lw_tbl := List.mem_of_getElem? (i := 970) rfl
set_option maxRecDepth 100000 in
theorem tc_132 : Cond.code (mNm MX7_fault) (mCd MX7_fault) (mMx MX7_fault) (mRt MX7_fault) ∈ lw_tbl := List.mem_of_getElem? (i := 1019) rfl
set_option maxRecDepth 100000 in
theorem tc_133 : Cond.code (mNm MX7_sheet) (mCd MX7_sheet) (mMx MX7_sheet) (mRt MX7_sheet) ∈ lw_tbl := List.mem_of_getElem? (i := 1023) rfl
set_option maxRecDepth 100000 in
theorem tc_134 : Cond.code (mNm MX7_lay) (mCd MX7_lay) (mMx MX7_lay) (mRt MX7_lay) ∈ lw_tbl := List.mem_of_getElem? (i := 1029) rfl
set_option maxRecDepth 100000 in
theorem tc_135 : Cond.code (mNm MX7_draw) (mCd MX7_draw) (mMx MX7_draw) (mRt MX7_draw) ∈ lw_tbl := List.mem_of_getElem? (i := 1033) rfl
set_option maxRecDepth 100000 in
theorem tc_136 : Cond.code (mNm MX7_copy) (mCd MX7_copy) (mMx MX7_copy) (mRt MX7_copy) ∈ lw_tbl := List.mem_of_getElem? (i := 1038) rfl
set_option maxRecDepth 100000 in
theorem tc_137 : Cond.code (mNm MX7_drop) (mCd MX7_drop) (mMx MX7_drop) (mRt MX7_drop) ∈ lw_tbl := List.mem_of_getElem? (i := 1050) rfl
set_option maxRecDepth 100000 in
theorem tc_138 : Cond.code (mNm MX7_event) (mCd MX7_event) (mMx MX7_event) (mRt MX7_event) ∈ lw_tbl := List.mem_of_getElem? (i := 1054) rfl
set_option maxRecDepth 100000 in
theorem tc_139 : Cond.code (mNm MX7_goAlong) (mCd MX7_goAlong) (mMx MX7_goAlong) (mRt MX7_goAlong) ∈ lw_tbl := List.mem_of_getElem? (i := 1071) rfl
set_option maxRecDepth 100000 in
theorem tc_140 : Cond.code (mNm MX7_goOne) (mCd MX7_goOne) (mMx MX7_goOne) (mRt MX7_goOne) ∈ lw_tbl := List.mem_of_getElem? (i := 1075) rfl
set_option maxRecDepth 100000 in
theorem tc_141 : Cond.code (mNm MX7_isPlus) (mCd MX7_isPlus) (mMx MX7_isPlus) (mRt MX7_isPlus) ∈ lw_tbl := List.mem_of_getElem? (i := 1079) rfl
set_option maxRecDepth 100000 in
theorem tc_142 : Cond.code (mNm MX7_about) (mCd MX7_about) (mMx MX7_about) (mRt MX7_about) ∈ lw_tbl := List.mem_of_getElem? (i := 1066) rfl
set_option maxRecDepth 100000 in
theorem tc_143 : Cond.code (mNm MX7_piece) (mCd MX7_piece) (mMx MX7_piece) (mRt MX7_piece) ∈ lw_tbl := List.mem_of_getElem? (i := 1087) rfl
set_option maxRecDepth 100000 in
theorem tc_144 : Cond.code (mNm MX7_signed) (mCd MX7_signed) (mMx MX7_signed) (mRt MX7_signed) ∈ lw_tbl := List.mem_of_getElem? (i := 1096) rfl
set_option maxRecDepth 100000 in
theorem tc_145 : Cond.code (mNm MX7_number) (mCd MX7_number) (mMx MX7_number) (mRt MX7_number) ∈ lw_tbl := List.mem_of_getElem? (i := 1091) rfl
set_option maxRecDepth 100000 in
theorem tc_146 : Cond.code (mNm MX7_link) (mCd MX7_link) (mMx MX7_link) (mRt MX7_link) ∈ lw_tbl := List.mem_of_getElem? (i := 1100) rfl
set_option maxRecDepth 100000 in
theorem tc_147 : Cond.code (mNm MX7_isCross) (mCd MX7_isCross) (mMx MX7_isCross) (mRt MX7_isCross) ∈ lw_tbl := List.mem_of_getElem? (i := 1108) rfl
set_option maxRecDepth 100000 in
theorem tc_148 : Cond.code (mNm MX7_sign) (mCd MX7_sign) (mMx MX7_sign) (mRt MX7_sign) ∈ lw_tbl := List.mem_of_getElem? (i := 1104) rfl
set_option maxRecDepth 100000 in
theorem tc_149 : Cond.code (mNm MX7_degreeOf) (mCd MX7_degreeOf) (mMx MX7_degreeOf) (mRt MX7_degreeOf) ∈ lw_tbl := List.mem_of_getElem? (i := 1116) rfl
set_option maxRecDepth 100000 in
theorem tc_150 : Cond.code (mNm MX7_degree) (mCd MX7_degree) (mMx MX7_degree) (mRt MX7_degree) ∈ lw_tbl := List.mem_of_getElem? (i := 1112) rfl
set_option maxRecDepth 100000 in
theorem tc_151 : Cond.code (mNm MX7_layMay) (mCd MX7_layMay) (mMx MX7_layMay) (mRt MX7_layMay) ∈ lw_tbl := List.mem_of_getElem? (i := 1124) rfl
set_option maxRecDepth 100000 in
theorem tc_152 : Cond.code (mNm MX7_isMixed) (mCd MX7_isMixed) (mMx MX7_isMixed) (mRt MX7_isMixed) ∈ lw_tbl := List.mem_of_getElem? (i := 1143) rfl
set_option maxRecDepth 100000 in
theorem tc_153 : Cond.code (mNm MX7_crossed) (mCd MX7_crossed) (mMx MX7_crossed) (mRt MX7_crossed) ∈ lw_tbl := List.mem_of_getElem? (i := 1140) rfl
set_option maxRecDepth 100000 in
theorem tc_154 : Cond.code (mNm MX7_born) (mCd MX7_born) (mMx MX7_born) (mRt MX7_born) ∈ lw_tbl := List.mem_of_getElem? (i := 1132) rfl
set_option maxRecDepth 100000 in
theorem tc_155 : Cond.code (mNm MX7_dies) (mCd MX7_dies) (mMx MX7_dies) (mRt MX7_dies) ∈ lw_tbl := List.mem_of_getElem? (i := 1136) rfl
set_option maxRecDepth 100000 in
theorem tc_156 : Cond.code (mNm MX7_ruled) (mCd MX7_ruled) (mMx MX7_ruled) (mRt MX7_ruled) ∈ lw_tbl := List.mem_of_getElem? (i := 1128) rfl
set_option maxRecDepth 100000 in
theorem tc_157 : Cond.code (mNm MX7_rulings) (mCd MX7_rulings) (mMx MX7_rulings) (mRt MX7_rulings) ∈ lw_tbl := List.mem_of_getElem? (i := 1120) rfl
set_option maxRecDepth 100000 in
theorem tc_158 : Cond.code (mNm MX7_first) (mCd MX7_first) (mMx MX7_first) (mRt MX7_first) ∈ lw_tbl := List.mem_of_getElem? (i := 1147) rfl
set_option maxRecDepth 100000 in
theorem tc_159 : Cond.code (mNm MX7_kindAt) (mCd MX7_kindAt) (mMx MX7_kindAt) (mRt MX7_kindAt) ∈ lw_tbl := List.mem_of_getElem? (i := 1159) rfl
set_option maxRecDepth 100000 in
theorem tc_160 : Cond.code (mNm MX7_numberAt) (mCd MX7_numberAt) (mMx MX7_numberAt) (mRt MX7_numberAt) ∈ lw_tbl := List.mem_of_getElem? (i := 1163) rfl
set_option maxRecDepth 100000 in
theorem tc_161 : Cond.code (mNm MX7_stands) (mCd MX7_stands) (mMx MX7_stands) (mRt MX7_stands) ∈ lw_tbl := List.mem_of_getElem? (i := 1175) rfl
set_option maxRecDepth 100000 in
theorem tc_162 : Cond.code (mNm MX7_rest) (mCd MX7_rest) (mMx MX7_rest) (mRt MX7_rest) ∈ lw_tbl := List.mem_of_getElem? (i := 1167) rfl
set_option maxRecDepth 100000 in
theorem tc_163 : Cond.code (mNm MX7_swap) (mCd MX7_swap) (mMx MX7_swap) (mRt MX7_swap) ∈ lw_tbl := List.mem_of_getElem? (i := 1155) rfl
set_option maxRecDepth 100000 in
theorem tc_164 : Cond.code (mNm MX7_slide) (mCd MX7_slide) (mMx MX7_slide) (mRt MX7_slide) ∈ lw_tbl := List.mem_of_getElem? (i := 1171) rfl
set_option maxRecDepth 100000 in
theorem tc_165 : Cond.code (mNm MX7_uncurl) (mCd MX7_uncurl) (mMx MX7_uncurl) (mRt MX7_uncurl) ∈ lw_tbl := List.mem_of_getElem? (i := 1179) rfl
set_option maxRecDepth 100000 in
theorem tc_166 : Cond.code (mNm MX7_pull) (mCd MX7_pull) (mMx MX7_pull) (mRt MX7_pull) ∈ lw_tbl := List.mem_of_getElem? (i := 1183) rfl
set_option maxRecDepth 100000 in
theorem tc_167 : Cond.code (mNm MX7_straighten) (mCd MX7_straighten) (mMx MX7_straighten) (mRt MX7_straighten) ∈ lw_tbl := List.mem_of_getElem? (i := 1187) rfl
set_option maxRecDepth 100000 in
theorem tc_168 : Cond.code (mNm MX7_move) (mCd MX7_move) (mMx MX7_move) (mRt MX7_move) ∈ lw_tbl := List.mem_of_getElem? (i := 1151) rfl
set_option maxRecDepth 100000 in
theorem tc_169 : Cond.code (mNm MX7_add) (mCd MX7_add) (mMx MX7_add) (mRt MX7_add) ∈ lw_tbl := List.mem_of_getElem? (i := 1191) rfl
set_option maxRecDepth 100000 in
theorem tc_170 : Cond.code (mNm MX7_push) (mCd MX7_push) (mMx MX7_push) (mRt MX7_push) ∈ lw_tbl := List.mem_of_getElem? (i := 1195) rfl
set_option maxRecDepth 100000 in
theorem tc_171 : Cond.code (mNm MX7_join) (mCd MX7_join) (mMx MX7_join) (mRt MX7_join) ∈ lw_tbl := List.mem_of_getElem? (i := 1199) rfl
set_option maxRecDepth 100000 in
theorem tc_172 : Cond.code (mNm MX7_unlike) (mCd MX7_unlike) (mMx MX7_unlike) (mRt MX7_unlike) ∈ lw_tbl := List.mem_of_getElem? (i := 1203) rfl
set_option maxRecDepth 100000 in
theorem tc_173 : Cond.code (mNm MX7_count) (mCd MX7_count) (mMx MX7_count) (mRt MX7_count) ∈ lw_tbl := List.mem_of_getElem? (i := 1207) rfl
set_option maxRecDepth 100000 in
theorem tc_175 : Cond.code (mNm MJ6_bitCount_0f7a4) (mCd MJ6_bitCount_0f7a4) (mMx MJ6_bitCount_0f7a4) (mRt MJ6_bitCount_0f7a4) ∈ lw_tbl := List.mem_of_getElem? (i := 713) rfl
set_option maxRecDepth 100000 in
theorem tabC0 : ∀ q ∈ rTabW0, Cond.code (mNm (mtab q.1)) (mCd (mtab q.1)) (mMx (mtab q.1)) (mRt (mtab q.1)) ∈ lw_tbl := List.forall_mem_cons.mpr ⟨tc_0, List.forall_mem_cons.mpr ⟨tc_1, List.forall_mem_cons.mpr ⟨tc_2, List.forall_mem_cons.mpr ⟨tc_3, List.forall_mem_cons.mpr ⟨tc_4, List.forall_mem_cons.mpr ⟨tc_5, List.forall_mem_cons.mpr ⟨tc_6, List.forall_mem_cons.mpr ⟨tc_7, List.forall_mem_cons.mpr ⟨tc_8, List.forall_mem_cons.mpr ⟨tc_9, List.forall_mem_cons.mpr ⟨tc_10, List.forall_mem_cons.mpr ⟨tc_11, List.forall_mem_cons.mpr ⟨tc_12, List.forall_mem_cons.mpr ⟨tc_13, List.forall_mem_cons.mpr ⟨tc_14, fun _ h => absurd h List.not_mem_nil⟩⟩⟩⟩⟩⟩⟩⟩⟩⟩⟩⟩⟩⟩⟩
set_option maxRecDepth 100000 in
theorem tabW0 : rTabW0.all okW = true := by decide +kernel
set_option maxRecDepth 100000 in
theorem tabC1 : ∀ q ∈ rTabW1, Cond.code (mNm (mtab q.1)) (mCd (mtab q.1)) (mMx (mtab q.1)) (mRt (mtab q.1)) ∈ lw_tbl := List.forall_mem_cons.mpr ⟨tc_15, List.forall_mem_cons.mpr ⟨tc_16, List.forall_mem_cons.mpr ⟨tc_17, List.forall_mem_cons.mpr ⟨tc_18, List.forall_mem_cons.mpr ⟨tc_19, List.forall_mem_cons.mpr ⟨tc_20, List.forall_mem_cons.mpr ⟨tc_21, List.forall_mem_cons.mpr ⟨tc_22, List.forall_mem_cons.mpr ⟨tc_23, List.forall_mem_cons.mpr ⟨tc_24, List.forall_mem_cons.mpr ⟨tc_25, List.forall_mem_cons.mpr ⟨tc_26, List.forall_mem_cons.mpr ⟨tc_27, List.forall_mem_cons.mpr ⟨tc_28, List.forall_mem_cons.mpr ⟨tc_29, fun _ h => absurd h List.not_mem_nil⟩⟩⟩⟩⟩⟩⟩⟩⟩⟩⟩⟩⟩⟩⟩
set_option maxRecDepth 100000 in
theorem tabW1 : rTabW1.all okW = true := by decide +kernel
set_option maxRecDepth 100000 in
theorem tabC2 : ∀ q ∈ rTabW2, Cond.code (mNm (mtab q.1)) (mCd (mtab q.1)) (mMx (mtab q.1)) (mRt (mtab q.1)) ∈ lw_tbl := List.forall_mem_cons.mpr ⟨tc_30, List.forall_mem_cons.mpr ⟨tc_31, List.forall_mem_cons.mpr ⟨tc_32, List.forall_mem_cons.mpr ⟨tc_33, List.forall_mem_cons.mpr ⟨tc_34, List.forall_mem_cons.mpr ⟨tc_35, List.forall_mem_cons.mpr ⟨tc_36, List.forall_mem_cons.mpr ⟨tc_37, List.forall_mem_cons.mpr ⟨tc_38, List.forall_mem_cons.mpr ⟨tc_39, List.forall_mem_cons.mpr ⟨tc_40, List.forall_mem_cons.mpr ⟨tc_41, List.forall_mem_cons.mpr ⟨tc_42, List.forall_mem_cons.mpr ⟨tc_43, List.forall_mem_cons.mpr ⟨tc_44, fun _ h => absurd h List.not_mem_nil⟩⟩⟩⟩⟩⟩⟩⟩⟩⟩⟩⟩⟩⟩⟩
set_option maxRecDepth 100000 in
theorem tabW2 : rTabW2.all okW = true := by decide +kernel
set_option maxRecDepth 100000 in
theorem tabC3 : ∀ q ∈ rTabW3, Cond.code (mNm (mtab q.1)) (mCd (mtab q.1)) (mMx (mtab q.1)) (mRt (mtab q.1)) ∈ lw_tbl := List.forall_mem_cons.mpr ⟨tc_45, List.forall_mem_cons.mpr ⟨tc_46, List.forall_mem_cons.mpr ⟨tc_47, List.forall_mem_cons.mpr ⟨tc_48, List.forall_mem_cons.mpr ⟨tc_49, List.forall_mem_cons.mpr ⟨tc_50, List.forall_mem_cons.mpr ⟨tc_51, List.forall_mem_cons.mpr ⟨tc_52, List.forall_mem_cons.mpr ⟨tc_53, List.forall_mem_cons.mpr ⟨tc_54, List.forall_mem_cons.mpr ⟨tc_55, List.forall_mem_cons.mpr ⟨tc_56, List.forall_mem_cons.mpr ⟨tc_57, List.forall_mem_cons.mpr ⟨tc_58, List.forall_mem_cons.mpr ⟨tc_59, fun _ h => absurd h List.not_mem_nil⟩⟩⟩⟩⟩⟩⟩⟩⟩⟩⟩⟩⟩⟩⟩
set_option maxRecDepth 100000 in
theorem tabW3 : rTabW3.all okW = true := by decide +kernel
set_option maxRecDepth 100000 in
theorem tabC4 : ∀ q ∈ rTabW4, Cond.code (mNm (mtab q.1)) (mCd (mtab q.1)) (mMx (mtab q.1)) (mRt (mtab q.1)) ∈ lw_tbl := List.forall_mem_cons.mpr ⟨tc_60, List.forall_mem_cons.mpr ⟨tc_61, List.forall_mem_cons.mpr ⟨tc_62, List.forall_mem_cons.mpr ⟨tc_63, List.forall_mem_cons.mpr ⟨tc_64, List.forall_mem_cons.mpr ⟨tc_65, List.forall_mem_cons.mpr ⟨tc_66, List.forall_mem_cons.mpr ⟨tc_67, List.forall_mem_cons.mpr ⟨tc_68, List.forall_mem_cons.mpr ⟨tc_69, List.forall_mem_cons.mpr ⟨tc_70, List.forall_mem_cons.mpr ⟨tc_71, List.forall_mem_cons.mpr ⟨tc_72, List.forall_mem_cons.mpr ⟨tc_73, List.forall_mem_cons.mpr ⟨tc_74, fun _ h => absurd h List.not_mem_nil⟩⟩⟩⟩⟩⟩⟩⟩⟩⟩⟩⟩⟩⟩⟩
set_option maxRecDepth 100000 in
theorem tabW4 : rTabW4.all okW = true := by decide +kernel
set_option maxRecDepth 100000 in
theorem tabC5 : ∀ q ∈ rTabW5, Cond.code (mNm (mtab q.1)) (mCd (mtab q.1)) (mMx (mtab q.1)) (mRt (mtab q.1)) ∈ lw_tbl := List.forall_mem_cons.mpr ⟨tc_75, List.forall_mem_cons.mpr ⟨tc_76, List.forall_mem_cons.mpr ⟨tc_77, List.forall_mem_cons.mpr ⟨tc_78, List.forall_mem_cons.mpr ⟨tc_79, List.forall_mem_cons.mpr ⟨tc_80, List.forall_mem_cons.mpr ⟨tc_81, List.forall_mem_cons.mpr ⟨tc_82, List.forall_mem_cons.mpr ⟨tc_83, List.forall_mem_cons.mpr ⟨tc_84, List.forall_mem_cons.mpr ⟨tc_85, List.forall_mem_cons.mpr ⟨tc_86, List.forall_mem_cons.mpr ⟨tc_87, List.forall_mem_cons.mpr ⟨tc_88, List.forall_mem_cons.mpr ⟨tc_89, fun _ h => absurd h List.not_mem_nil⟩⟩⟩⟩⟩⟩⟩⟩⟩⟩⟩⟩⟩⟩⟩
set_option maxRecDepth 100000 in
theorem tabW5 : rTabW5.all okW = true := by decide +kernel
set_option maxRecDepth 100000 in
theorem tabC6 : ∀ q ∈ rTabW6, Cond.code (mNm (mtab q.1)) (mCd (mtab q.1)) (mMx (mtab q.1)) (mRt (mtab q.1)) ∈ lw_tbl := List.forall_mem_cons.mpr ⟨tc_90, List.forall_mem_cons.mpr ⟨tc_91, List.forall_mem_cons.mpr ⟨tc_92, List.forall_mem_cons.mpr ⟨tc_93, List.forall_mem_cons.mpr ⟨tc_94, List.forall_mem_cons.mpr ⟨tc_95, List.forall_mem_cons.mpr ⟨tc_96, List.forall_mem_cons.mpr ⟨tc_97, List.forall_mem_cons.mpr ⟨tc_98, List.forall_mem_cons.mpr ⟨tc_99, List.forall_mem_cons.mpr ⟨tc_100, List.forall_mem_cons.mpr ⟨tc_101, List.forall_mem_cons.mpr ⟨tc_102, List.forall_mem_cons.mpr ⟨tc_103, List.forall_mem_cons.mpr ⟨tc_104, fun _ h => absurd h List.not_mem_nil⟩⟩⟩⟩⟩⟩⟩⟩⟩⟩⟩⟩⟩⟩⟩
set_option maxRecDepth 100000 in
theorem tabW6 : rTabW6.all okW = true := by decide +kernel
set_option maxRecDepth 100000 in
theorem tabC7 : ∀ q ∈ rTabW7, Cond.code (mNm (mtab q.1)) (mCd (mtab q.1)) (mMx (mtab q.1)) (mRt (mtab q.1)) ∈ lw_tbl := List.forall_mem_cons.mpr ⟨tc_105, List.forall_mem_cons.mpr ⟨tc_106, List.forall_mem_cons.mpr ⟨tc_107, List.forall_mem_cons.mpr ⟨tc_108, List.forall_mem_cons.mpr ⟨tc_109, List.forall_mem_cons.mpr ⟨tc_110, List.forall_mem_cons.mpr ⟨tc_111, List.forall_mem_cons.mpr ⟨tc_112, List.forall_mem_cons.mpr ⟨tc_113, List.forall_mem_cons.mpr ⟨tc_114, List.forall_mem_cons.mpr ⟨tc_115, List.forall_mem_cons.mpr ⟨tc_116, List.forall_mem_cons.mpr ⟨tc_117, List.forall_mem_cons.mpr ⟨tc_118, List.forall_mem_cons.mpr ⟨tc_119, fun _ h => absurd h List.not_mem_nil⟩⟩⟩⟩⟩⟩⟩⟩⟩⟩⟩⟩⟩⟩⟩
set_option maxRecDepth 100000 in
theorem tabW7 : rTabW7.all okW = true := by decide +kernel
set_option maxRecDepth 100000 in
theorem tabC8 : ∀ q ∈ rTabW8, Cond.code (mNm (mtab q.1)) (mCd (mtab q.1)) (mMx (mtab q.1)) (mRt (mtab q.1)) ∈ lw_tbl := List.forall_mem_cons.mpr ⟨tc_120, List.forall_mem_cons.mpr ⟨tc_121, List.forall_mem_cons.mpr ⟨tc_122, List.forall_mem_cons.mpr ⟨tc_123, List.forall_mem_cons.mpr ⟨tc_124, List.forall_mem_cons.mpr ⟨tc_125, List.forall_mem_cons.mpr ⟨tc_126, List.forall_mem_cons.mpr ⟨tc_127, List.forall_mem_cons.mpr ⟨tc_128, List.forall_mem_cons.mpr ⟨tc_129, List.forall_mem_cons.mpr ⟨tc_130, List.forall_mem_cons.mpr ⟨tc_131, List.forall_mem_cons.mpr ⟨tc_132, List.forall_mem_cons.mpr ⟨tc_133, List.forall_mem_cons.mpr ⟨tc_134, fun _ h => absurd h List.not_mem_nil⟩⟩⟩⟩⟩⟩⟩⟩⟩⟩⟩⟩⟩⟩⟩
set_option maxRecDepth 100000 in
theorem tabW8 : rTabW8.all okW = true := by decide +kernel
set_option maxRecDepth 100000 in
theorem tabC9 : ∀ q ∈ rTabW9, Cond.code (mNm (mtab q.1)) (mCd (mtab q.1)) (mMx (mtab q.1)) (mRt (mtab q.1)) ∈ lw_tbl := List.forall_mem_cons.mpr ⟨tc_135, List.forall_mem_cons.mpr ⟨tc_136, List.forall_mem_cons.mpr ⟨tc_137, List.forall_mem_cons.mpr ⟨tc_138, List.forall_mem_cons.mpr ⟨tc_139, List.forall_mem_cons.mpr ⟨tc_140, List.forall_mem_cons.mpr ⟨tc_141, List.forall_mem_cons.mpr ⟨tc_142, List.forall_mem_cons.mpr ⟨tc_143, List.forall_mem_cons.mpr ⟨tc_144, List.forall_mem_cons.mpr ⟨tc_145, List.forall_mem_cons.mpr ⟨tc_146, List.forall_mem_cons.mpr ⟨tc_147, List.forall_mem_cons.mpr ⟨tc_148, List.forall_mem_cons.mpr ⟨tc_149, fun _ h => absurd h List.not_mem_nil⟩⟩⟩⟩⟩⟩⟩⟩⟩⟩⟩⟩⟩⟩⟩
set_option maxRecDepth 100000 in
theorem tabW9 : rTabW9.all okW = true := by decide +kernel
set_option maxRecDepth 100000 in
theorem tabC10 : ∀ q ∈ rTabW10, Cond.code (mNm (mtab q.1)) (mCd (mtab q.1)) (mMx (mtab q.1)) (mRt (mtab q.1)) ∈ lw_tbl := List.forall_mem_cons.mpr ⟨tc_150, List.forall_mem_cons.mpr ⟨tc_151, List.forall_mem_cons.mpr ⟨tc_152, List.forall_mem_cons.mpr ⟨tc_153, List.forall_mem_cons.mpr ⟨tc_154, List.forall_mem_cons.mpr ⟨tc_155, List.forall_mem_cons.mpr ⟨tc_156, List.forall_mem_cons.mpr ⟨tc_157, List.forall_mem_cons.mpr ⟨tc_158, List.forall_mem_cons.mpr ⟨tc_159, List.forall_mem_cons.mpr ⟨tc_160, List.forall_mem_cons.mpr ⟨tc_161, List.forall_mem_cons.mpr ⟨tc_162, List.forall_mem_cons.mpr ⟨tc_163, List.forall_mem_cons.mpr ⟨tc_164, fun _ h => absurd h List.not_mem_nil⟩⟩⟩⟩⟩⟩⟩⟩⟩⟩⟩⟩⟩⟩⟩
set_option maxRecDepth 100000 in
theorem tabW10 : rTabW10.all okW = true := by decide +kernel
set_option maxRecDepth 100000 in
theorem tabC11 : ∀ q ∈ rTabW11, Cond.code (mNm (mtab q.1)) (mCd (mtab q.1)) (mMx (mtab q.1)) (mRt (mtab q.1)) ∈ lw_tbl := List.forall_mem_cons.mpr ⟨tc_165, List.forall_mem_cons.mpr ⟨tc_166, List.forall_mem_cons.mpr ⟨tc_167, List.forall_mem_cons.mpr ⟨tc_168, List.forall_mem_cons.mpr ⟨tc_169, List.forall_mem_cons.mpr ⟨tc_170, List.forall_mem_cons.mpr ⟨tc_171, List.forall_mem_cons.mpr ⟨tc_172, List.forall_mem_cons.mpr ⟨tc_173, List.forall_mem_cons.mpr ⟨tc_175, fun _ h => absurd h List.not_mem_nil⟩⟩⟩⟩⟩⟩⟩⟩⟩⟩
set_option maxRecDepth 100000 in
theorem tabW11 : rTabW11.all okW = true := by decide +kernel
theorem tabC : ∀ q ∈ rTabW, Cond.code (mNm (mtab q.1)) (mCd (mtab q.1)) (mMx (mtab q.1)) (mRt (mtab q.1)) ∈ lw_tbl := List.forall_mem_append.mpr ⟨tabC0, List.forall_mem_append.mpr ⟨tabC1, List.forall_mem_append.mpr ⟨tabC2, List.forall_mem_append.mpr ⟨tabC3, List.forall_mem_append.mpr ⟨tabC4, List.forall_mem_append.mpr ⟨tabC5, List.forall_mem_append.mpr ⟨tabC6, List.forall_mem_append.mpr ⟨tabC7, List.forall_mem_append.mpr ⟨tabC8, List.forall_mem_append.mpr ⟨tabC9, List.forall_mem_append.mpr ⟨tabC10, tabC11⟩⟩⟩⟩⟩⟩⟩⟩⟩⟩⟩
theorem tabW_ok : ∀ q ∈ rTabW, okW q = true := List.forall_mem_append.mpr ⟨List.all_eq_true.mp tabW0, List.forall_mem_append.mpr ⟨List.all_eq_true.mp tabW1, List.forall_mem_append.mpr ⟨List.all_eq_true.mp tabW2, List.forall_mem_append.mpr ⟨List.all_eq_true.mp tabW3, List.forall_mem_append.mpr ⟨List.all_eq_true.mp tabW4, List.forall_mem_append.mpr ⟨List.all_eq_true.mp tabW5, List.forall_mem_append.mpr ⟨List.all_eq_true.mp tabW6, List.forall_mem_append.mpr ⟨List.all_eq_true.mp tabW7, List.forall_mem_append.mpr ⟨List.all_eq_true.mp tabW8, List.forall_mem_append.mpr ⟨List.all_eq_true.mp tabW9, List.forall_mem_append.mpr ⟨List.all_eq_true.mp tabW10, List.all_eq_true.mp tabW11⟩⟩⟩⟩⟩⟩⟩⟩⟩⟩⟩
end
section
/-! locals -/
def ent (L : mL) : List (Nat × Value) := (List.range L.length).filterMap (fun i => (L.getD i none).map (fun v => (i, v)))
theorem getD_some {L : mL} {i : Nat} {v : Value} : L.getD i none = some v ↔ L[i]? = some (some v) := by
  rw [List.getD_eq_getElem?_getD]
  cases h : L[i]? with
  | none => simp
  | some o => simp
theorem ent_mem {L : mL} {i : Nat} {v : Value} : (i, v) ∈ ent L ↔ L[i]? = some (some v) := by
  unfold ent
  rw [List.mem_filterMap]
  constructor
  · rintro ⟨a, -, h2⟩
    cases ha : L.getD a none with
    | none => rw [ha] at h2; cases h2
    | some w =>
      rw [ha] at h2
      simp only [Option.map_some, Option.some.injEq, Prod.mk.injEq] at h2
      obtain ⟨rfl, rfl⟩ := h2
      exact getD_some.mp ha
  · intro h
    exact ⟨i, List.mem_range.mpr (List.getElem?_eq_some_iff.mp h).1, by rw [getD_some.mpr h]; rfl⟩
theorem mloc_has {ls : Array Slot} {n : Nat} {L : mL} (h : mLoc ls n L) : lv_has ls n (ent L) := ⟨h.1, h.2.2.1, fun q hq => h.2.2.2 q.1 q.2 (ent_mem.mp hq)⟩
theorem mloc_st1 {ls : Array Slot} {n i : Nat} {L : mL} {v : Value} (hl : L.length = n) (hok : mOk1 L i) (h : lv_has ls n ((i, v) :: (ent L).filter (fun q => !(q.1 == i) && !(q.1 + 1 == i && q.2.category == 2)))) : mLoc ls n (L.set i (some v)) := by
  refine ⟨h.1, by simp [hl], h.2.1, fun j w hj => ?_⟩
  by_cases c : j = i
  · subst c
    have hlt : j < L.length := by
      have := (List.getElem?_eq_some_iff.mp hj).1
      simpa using this
    rw [List.getElem?_set_self hlt] at hj
    cases hj
    exact h.2.2 (j, v) List.mem_cons_self
  · rw [List.getElem?_set_ne (fun e => c e.symm)] at hj
    refine h.2.2 (j, w) (List.mem_cons_of_mem _ (List.mem_filter.mpr ⟨ent_mem.mpr hj, ?_⟩))
    have h2 : ¬ (j + 1 = i ∧ w.category = 2) := by
      rintro ⟨rfl, h2⟩
      unfold mOk1 at hok
      simp only [hj] at hok
      omega
    simp only [Bool.and_eq_true, Bool.not_eq_true', Bool.and_eq_false_iff, beq_eq_false_iff_ne, ne_eq]
    refine ⟨c, ?_⟩
    by_cases e : j + 1 = i
    · exact Or.inr (fun z => h2 ⟨e, z⟩)
    · exact Or.inl e
theorem mloc_st2 {ls : Array Slot} {n i : Nat} {L : mL} {v : Value} (hl : L.length = n) (hok : mOk1 L i) (h : lv_has ls n ((i, v) :: (ent L).filter (fun q => !(q.1 == i) && (!(q.1 == i + 1) && !(q.1 + 1 == i && q.2.category == 2))))) : mLoc ls n ((L.set (i + 1) none).set i (some v)) := by
  refine ⟨h.1, by simp [hl], h.2.1, fun j w hj => ?_⟩
  by_cases c : j = i
  · subst c
    have hlt : j < (L.set (j + 1) none).length := by
      have := (List.getElem?_eq_some_iff.mp hj).1
      simpa using this
    rw [List.getElem?_set_self hlt] at hj
    cases hj
    exact h.2.2 (j, v) List.mem_cons_self
  · rw [List.getElem?_set_ne (fun e => c e.symm)] at hj
    by_cases c1 : j = i + 1
    · subst c1
      have hlt : i + 1 < L.length := by
        have := (List.getElem?_eq_some_iff.mp hj).1
        simpa using this
      rw [List.getElem?_set_self hlt] at hj
      cases hj
    · rw [List.getElem?_set_ne (fun e => c1 e.symm)] at hj
      refine h.2.2 (j, w) (List.mem_cons_of_mem _ (List.mem_filter.mpr ⟨ent_mem.mpr hj, ?_⟩))
      have h2 : ¬ (j + 1 = i ∧ w.category = 2) := by
        rintro ⟨rfl, h2⟩
        unfold mOk1 at hok
        simp only [hj] at hok
        omega
      simp only [Bool.and_eq_true, Bool.not_eq_true', Bool.and_eq_false_iff, beq_eq_false_iff_ne, ne_eq]
      refine ⟨c, c1, ?_⟩
      by_cases e : j + 1 = i
      · exact Or.inr (fun z => h2 ⟨e, z⟩)
      · exact Or.inl e
end
section
/-! one step of wpI is a step of the machine -/
theorem mem_g {w : Cond} {i : Nat} (h : lw_tbl[i]? = some w) (hg : goodWord w = true) : w ∈ lw_g := List.mem_filter.mpr ⟨List.mem_of_getElem? h, hg⟩
theorem good_g {ws : List Cond} (h : ∀ w ∈ ws, w ∈ lw_g) : GoodIn lw_g ws := fun w hw => ⟨h w hw, good_of_word (List.mem_filter.mp (h w hw)).2⟩
theorem u_in_g {ci : Nat} {q : vw_C} (h : vwCl[ci]? = some q) : ∀ w ∈ u_ws q.1 q.2.1 q.2.2, w ∈ lw_g := by
  intro w hw
  refine List.mem_filter.mpr ⟨(cl_facts ci q h).1 w hw, ?_⟩
  unfold u_ws at hw
  obtain ⟨k, -, rfl⟩ := List.mem_map.mp hw
  unfold u_lay
  split <;> rfl
theorem fld_link {own idx a b : Nat} (h : rTabF.any (fun q => q.1 == own && (q.2.1 == idx && (q.2.2.1 == a && q.2.2.2.1 == b))) = true) : ∃ q : vw_C, vwCl[a]? = some q ∧ b < q.2.2 ∧ (q.2.1 b).1 = q.1 ∧ (Cond.fieldLink (mOwn own) idx q.1 (q.2.1 b).2.1 (q.2.1 b).2.2.1 ∈ lw_g ∨ Cond.fieldLinkNest (mOwn own) idx q.1 (q.2.1 b).2.1 (q.2.1 b).2.2.1 "CornerFronts" ∈ lw_n) := by
  obtain ⟨q, hq, h2⟩ := List.any_eq_true.mp h
  simp only [Bool.and_eq_true, beq_iff_eq] at h2
  obtain ⟨rfl, rfl, rfl, rfl⟩ := h2
  have ok := List.all_eq_true.mp tabF_ok q hq
  unfold okF at ok
  split at ok
  next C T n hc =>
    simp only [Bool.and_eq_true, decide_eq_true_eq] at ok
    obtain ⟨o1, o2, o3⟩ := ok
    refine ⟨(C, T, n), hc, o1, o2, ?_⟩
    split at o3
    · exact Or.inl (mem_g (of_decide_eq_true o3) rfl)
    · exact Or.inr (List.mem_filter.mpr ⟨List.mem_of_getElem? (of_decide_eq_true o3), rfl⟩)
  next => cases ok
theorem fld_link0 {own idx a b : Nat} (h : rTabF.any (fun q => q.1 == own && (q.2.1 == idx && (q.2.2.1 == a && (q.2.2.2.1 == b && q.2.2.2.2.1 == 0)))) = true) : ∃ q : vw_C, vwCl[a]? = some q ∧ b < q.2.2 ∧ (q.2.1 b).1 = q.1 ∧ Cond.fieldLink (mOwn own) idx q.1 (q.2.1 b).2.1 (q.2.1 b).2.2.1 ∈ lw_g := by
  obtain ⟨q, hq, h2⟩ := List.any_eq_true.mp h
  simp only [Bool.and_eq_true, beq_iff_eq] at h2
  obtain ⟨rfl, rfl, rfl, rfl, h0⟩ := h2
  have ok := List.all_eq_true.mp tabF_ok q hq
  unfold okF at ok
  split at ok
  next C T n hc =>
    simp only [Bool.and_eq_true, decide_eq_true_eq] at ok
    obtain ⟨o1, o2, o3⟩ := ok
    refine ⟨(C, T, n), hc, o1, o2, ?_⟩
    rw [if_pos h0] at o3
    exact mem_g (of_decide_eq_true o3) rfl
  next => cases ok
theorem mlink {own idx a : Nat} (h : rTabM.any (fun q => q.1 == own && (q.2.1 == idx && (q.2.2.1 == a && q.2.2.2.1 == 0))) = true) : Cond.methodLink (mOwn own) idx (mNm (mtab a)) ∈ lw_g := by
  obtain ⟨q, hq, h2⟩ := List.any_eq_true.mp h
  simp only [Bool.and_eq_true, beq_iff_eq] at h2
  obtain ⟨rfl, rfl, rfl, h0⟩ := h2
  have ok := List.all_eq_true.mp tabM_ok q hq
  unfold okMl at ok
  rw [if_pos h0] at ok
  exact mem_g (of_decide_eq_true ok) rfl
theorem mlinkN {own idx a : Nat} (h : rTabM.any (fun q => q.1 == own && (q.2.1 == idx && q.2.2.1 == a)) = true) : Cond.methodLink (mOwn own) idx (mNm (mtab a)) ∈ lw_g ∨ Cond.methodLinkNest (mOwn own) idx (mNm (mtab a)) "CornerFronts" ∈ lw_n := by
  obtain ⟨q, hq, h2⟩ := List.any_eq_true.mp h
  simp only [Bool.and_eq_true, beq_iff_eq] at h2
  obtain ⟨rfl, rfl, rfl⟩ := h2
  have ok := List.all_eq_true.mp tabM_ok q hq
  unfold okMl at ok
  split at ok
  · exact Or.inl (mem_g (of_decide_eq_true ok) rfl)
  · exact Or.inr (List.mem_filter.mpr ⟨List.mem_of_getElem? (of_decide_eq_true ok), rfl⟩)
theorem slink {own idx a : Nat} (h : rTabS.any (fun q => q.1 == own && (q.2.1 == idx && q.2.2.1 == a)) = true) : Cond.methodLink (mOwn own) idx (spName a) ∈ lw_g := by
  obtain ⟨q, hq, h2⟩ := List.any_eq_true.mp h
  simp only [Bool.and_eq_true, beq_iff_eq] at h2
  obtain ⟨rfl, rfl, rfl⟩ := h2
  have ok := List.all_eq_true.mp tabS_ok q hq
  exact mem_g (of_decide_eq_true ok) rfl
def mWok (a kind b : Nat) : Prop := Cond.code (mNm (mtab a)) (mCd (mtab a)) (mMx (mtab a)) (mRt (mtab a)) ∈ lw_g ∧ (kind = 1 → Cond.static (mNm (mtab a)) ∈ lw_g) ∧ (¬ kind = 1 → Cond.instanceMethod (mNm (mtab a)) ∈ lw_g) ∧ (kind = 0 → Cond.selects (mNm (mtab a)).cls (mNm (mtab a)) (mNm (mtab a)) ∈ lw_g) ∧ Cond.initialized (mNm (mtab a)).cls ∈ lw_g ∧
  ((mNm (mtab a)).cls ≠ "java/lang/invoke/MethodHandle" ∧ (mNm (mtab a)).cls ≠ "java/lang/invoke/VarHandle" ∧ (parseMethodDescriptor (mNm (mtab a)).desc).map (fun d => d.parameters.length) = some b) ∧ (plainName (mNm (mtab a)).cls = true ∧ mMx (mtab a) ≤ 45 ∧ mOwn (mCls (mtab a)) = (mNm (mtab a)).cls) ∧ (kind = 2 → (mNm (mtab a)).name = "<init>" ∧ mRt (mtab a) = none) ∧ (kind = 0 → (vwCl[mCls (mtab a)]?).map (fun c => c.1) = some (mNm (mtab a)).cls)
theorem mword {a kind b : Nat} (h : rTabW.any (fun q => q.1 == a && (q.2.1 == kind && q.2.2.1 == b)) = true) : mWok a kind b := by
  obtain ⟨q, hq, h2⟩ := List.any_eq_true.mp h
  simp only [Bool.and_eq_true, beq_iff_eq] at h2
  obtain ⟨rfl, rfl, rfl⟩ := h2
  have hc := tabC q hq
  have ok := tabW_ok q hq
  unfold okW at ok
  simp only [Bool.and_eq_true] at ok
  obtain ⟨o1, o2, o3, o4, o5, o6, o7⟩ := ok
  refine ⟨List.mem_filter.mpr ⟨hc, rfl⟩, fun k => ?_, fun k => ?_, fun k => ?_, mem_g (of_decide_eq_true o3) rfl, of_decide_eq_true o4, of_decide_eq_true o5, fun k => ?_, fun k => ?_⟩
  · rw [if_pos k] at o1
    exact mem_g (of_decide_eq_true o1) rfl
  · rw [if_neg k] at o1
    exact mem_g (of_decide_eq_true o1) rfl
  · rw [if_pos k] at o2
    exact mem_g (of_decide_eq_true o2) rfl
  · rw [if_pos k] at o6
    exact of_decide_eq_true o6
  · rw [if_pos k] at o7
    exact of_decide_eq_true o7
/-! the String constants and the nest mates' words stay -/
theorem gS_call {G : mG} {s U : State} {H : Heap} {locs : List Loc} (h : gS G s s.heap) (hS : va_S (gA G) s.heap H locs) (hU : U.heap = H) (hW : s.WarmedH U.vm) : gS G U U.heap := by
  obtain ⟨h1, h2, h3, h4⟩ := h
  have hk : ∀ a : Nat, a < s.heap.size → ¬ gA G a → U.heap[a]? = s.heap[a]? := fun a ha hn => by rw [hU]; exact hS.2.1 a ha hn
  refine ⟨fun w hw => ?_, (h2.kept hk).moved hW.alike, h3.warm hW, (h4.kept hk).moved hW.alike⟩
  have h5 := h1 w hw
  have h6 := (List.mem_filter.mp hw).2
  unfold isNest at h6
  split at h6
  · exact va_Nw.warmF hW h5
  · exact va_Nw.warmM hW h5
  · cases h6
theorem gS_same {G : mG} {u U : State} (h : gS G u u.heap) (hv : U.vm = u.vm) (hh : U.heap = u.heap) : gS G U U.heap := by
  obtain ⟨h1, h2, h3, h4⟩ := h
  have ha : u.vm.Alike U.vm := by rw [hv]; exact Vm.Alike.refl _
  rw [hh]
  refine ⟨fun w hw => ?_, h2.moved ha, h3.same hv, h4.moved ha⟩
  have h5 := h1 w hw
  have h6 := (List.mem_filter.mp hw).2
  unfold isNest at h6
  split at h6
  · exact va_Nw.same rfl hv.symm h5
  · exact va_Nw.same rfl hv.symm h5
  · cases h6
theorem mIn_blind {G : mG} {h : mH} {N : Nat} {av : List Value} : FrameBlind (va_Pc av (mIn G h N)) := by
  intro a U g mk q
  obtain ⟨q0, q1, qP, qK, qS, qB⟩ := q
  exact ⟨q0, q1, qP, va_K.moved (u := U) (U := U.calling g mk a) (Vm.Alike.refl U.vm) qK, gS_same (U := U.calling g mk a) qS rfl rfl, qB⟩
section MWS
variable {G : mG} {M : mI} {Z : mZ}
theorem MW.go {pc pc' : Nat} {L : mL} {st st' : List Value} {h : mH} {al : mAl}
    (f : ∀ {p : Program} {e : Env} {s : State} {m : MethodId} {args : Array Value} {below : List Frame} {meth : Method} {c : Code} {H : Heap} {locs : List Loc} {Q : State → Prop} {ls : Array Slot}, p.tables.exec = Jvm.exec → c.code = mCd M → mLoc ls (mMx M) L →
      W p G.1 e Z.1 s m args below meth c H locs al.2.1 al.2.2 Q (F0 m pc' ls st') → W p G.1 e Z.1 s m args below meth c H locs al.2.1 al.2.2 Q (F0 m pc ls st)) (k : MW G M Z pc' L st' h al) : MW G M Z pc L st h al :=
  fun p e s m args below meth c C X H locs ls hN hP hS hL => f C.1 C.2.1 hL (k p e s m args below meth c C X H locs ls hN hP hS hL)
theorem MW.br {P : Prop} {pc p1 p2 : Nat} {L : mL} {st st' : List Value} {h : mH} {al : mAl}
    (f : ∀ {p : Program} {e : Env} {s : State} {m : MethodId} {args : Array Value} {below : List Frame} {meth : Method} {c : Code} {H : Heap} {locs : List Loc} {Q : State → Prop} {ls : Array Slot}, p.tables.exec = Jvm.exec → c.code = mCd M →
      (P → W p G.1 e Z.1 s m args below meth c H locs al.2.1 al.2.2 Q (F0 m p1 ls st')) → (¬ P → W p G.1 e Z.1 s m args below meth c H locs al.2.1 al.2.2 Q (F0 m p2 ls st')) → W p G.1 e Z.1 s m args below meth c H locs al.2.1 al.2.2 Q (F0 m pc ls st))
    (k : (P → MW G M Z p1 L st' h al) ∧ (¬ P → MW G M Z p2 L st' h al)) : MW G M Z pc L st h al :=
  fun p e s m args below meth c C X H locs ls hN hP hS hL => f C.1 C.2.1 (fun q => k.1 q p e s m args below meth c C X H locs ls hN hP hS hL) (fun q => k.2 q p e s m args below meth c C X H locs ls hN hP hS hL)
theorem MW.st1 {pc pc' i : Nat} {v : Value} {L : mL} {st st' : List Value} {h : mH} {al : mAl} (hok : mOk1 L i)
    (f : ∀ {p : Program} {e : Env} {s : State} {m : MethodId} {args : Array Value} {below : List Frame} {meth : Method} {c : Code} {H : Heap} {locs : List Loc} {Q : State → Prop} {ls : Array Slot}, p.tables.exec = Jvm.exec → c.code = mCd M → lv_has ls (mMx M) (ent L) →
      (∀ ls' : Array Slot, lv_has ls' (mMx M) ((i, v) :: (ent L).filter (fun q => !(q.1 == i) && !(q.1 + 1 == i && q.2.category == 2))) → W p G.1 e Z.1 s m args below meth c H locs al.2.1 al.2.2 Q (F0 m pc' ls' st')) → W p G.1 e Z.1 s m args below meth c H locs al.2.1 al.2.2 Q (F0 m pc ls st))
    (k : MW G M Z pc' (L.set i (some v)) st' h al) : MW G M Z pc L st h al :=
  fun p e s m args below meth c C X H locs ls hN hP hS hL => f C.1 C.2.1 (mloc_has hL) (fun ls' hl => k p e s m args below meth c C X H locs ls' hN hP hS (mloc_st1 hL.2.1 hok hl))
theorem MW.st2 {pc pc' i : Nat} {v : Value} {L : mL} {st st' : List Value} {h : mH} {al : mAl} (hok : mOk1 L i)
    (f : ∀ {p : Program} {e : Env} {s : State} {m : MethodId} {args : Array Value} {below : List Frame} {meth : Method} {c : Code} {H : Heap} {locs : List Loc} {Q : State → Prop} {ls : Array Slot}, p.tables.exec = Jvm.exec → c.code = mCd M → lv_has ls (mMx M) (ent L) → L.length = mMx M →
      (∀ ls' : Array Slot, lv_has ls' (mMx M) ((i, v) :: (ent L).filter (fun q => !(q.1 == i) && (!(q.1 == i + 1) && !(q.1 + 1 == i && q.2.category == 2)))) → W p G.1 e Z.1 s m args below meth c H locs al.2.1 al.2.2 Q (F0 m pc' ls' st')) → W p G.1 e Z.1 s m args below meth c H locs al.2.1 al.2.2 Q (F0 m pc ls st))
    (k : MW G M Z pc' ((L.set (i + 1) none).set i (some v)) st' h al) : MW G M Z pc L st h al :=
  fun p e s m args below meth c C X H locs ls hN hP hS hL => f C.1 C.2.1 (mloc_has hL) hL.2.1 (fun ls' hl => k p e s m args below meth c C X H locs ls' hN hP hS (mloc_st2 hL.2.1 hok hl))
/-- a call that ends as told -/
theorem mm_call {p : Program} {l : Launch} {e : Env} {R : Room} {s : State} {m : MethodId} {args : Array Value} {below : List Frame} {meth : Method} {c : Code} {H : Heap} {locs : List Loc} {cells slots : Nat} {Q : State → Prop} {pc : Nat} {ls : Array Slot} {rest st0 : List Value} {a : Array Value} {mc ms : Nat} {post : Option Value → mH → Prop}
    (hr : va_Run p l e R s m args below meth c H locs cells slots mc ms (F0 m pc ls st0) rest (mQ G mc post a) (gA G)) (hS : va_S (gA G) s.heap H locs)
    (kk : ∀ (r : Option Value) (h1 : mH) (H1 : Heap) (locs1 : List Loc), post r h1 → H1.size = H.size + mc → mP G h1 H1 → va_S (gA G) s.heap H1 locs1 → W p l e R s m args below meth c H1 locs1 (cells + mc) (slots + ms) Q (F0 m (pc + 3) ls (r.toList ++ rest))) : W p l e R s m args below meth c H locs cells slots Q (F0 m pc ls st0) := by
  intro T hT X
  obtain ⟨v, st₀, t, T', L, h0, X', hL, e1, e2, ⟨⟨r, h1, hv, hp, hsz, hP1⟩, hz, hk⟩, st⟩ := hr T hT X
  cases hv
  rw [h0] at hz hk hsz
  obtain ⟨t2, a1, b1⟩ := kk v h1 T'.heap (locs ++ L) hp (by rw [e1]; exact hsz) (by rw [e1]; exact hP1)
    ⟨Nat.le_trans hS.1 (by rw [e1]; exact hz), fun q h1 h2 => by rw [e1, hk q (Nat.lt_of_lt_of_le h1 hS.1) h2]; exact hS.2.1 q h1 h2, fun q hq => by
      rcases List.mem_append.mp hq with h | h
      · exact hS.2.2 q h
      · exact hL q h⟩ T' rfl X'
  exact ⟨t2, st t2 a1, b1⟩
/-- what the end of the method asks -/
def mRet (G : mG) (M : mI) (Z : mZ) (ret : Option Value → mH → mAl → Prop) : Prop := ∀ (pc : Nat) (L : mL) (h : mH) (al : mAl),
  (∀ x : Int32, decode (mCd M) pc = .ok (.ireturn, 1) → mrt (mRt M) x → ret (some (.int x)) h al → MW G M Z pc L [.int x] h al) ∧
  (∀ x : Nat, decode (mCd M) pc = .ok (.areturn, 1) → (∃ n, mRt M = some (.object n)) → ret (some (.ref x)) h al → MW G M Z pc L [.ref x] h al) ∧
  (decode (mCd M) pc = .ok (.return_, 1) → mRt M = none → ret none h al → MW G M Z pc L [] h al)
theorem heap_le {p : Program} {l : Launch} {e : Env} {R : Room} {s : State} {m : MethodId} {args : Array Value} {below : List Frame} {meth : Method} {c : Code} {T : State} {H : Heap} {locs : List Loc} {cells slots : Nat} (hT : T.heap = H) (X : Stand p l e R s m args below meth c T locs cells slots) : H.size ≤ s.heap.size + cells := by
  have h1 := X.same.2.2.1
  rw [← hT]
  exact h1
theorem va_S_trans {A : Nat → Prop} {H0 H H1 : Heap} {locs locs1 : List Loc} (h : va_S A H0 H locs) (h1 : va_S A H H1 locs1) : va_S A H0 H1 locs1 :=
  ⟨Nat.le_trans h.1 h1.1, fun q a b => (h1.2.1 q (Nat.lt_of_lt_of_le a h.1) b).trans (h.2.1 q a b), h1.2.2⟩
theorem va_S_rf {A : Nat → Prop} {H0 H : Heap} {locs : List Loc} (h : va_S A H0 H locs) : va_S A H H locs := ⟨Nat.le_refl _, fun _ _ _ => rfl, h.2.2⟩
theorem mz_ret {d mc ms : Nat} {post : Option Value → mH → Prop} : mRet G M (mz G d mc ms post) (fun r h al => al.2.1 = mc ∧ al.2.2 ≤ ms ∧ post r h) := by
  intro pc L h al
  refine ⟨fun x hd ht hq => ?_, fun x hd ht hq => ?_, fun hd ht hq => ?_⟩
  · intro p e s m args below meth c C X H locs ls hN hP hS hL T hT XX
    have hsz : H.size = s.heap.size + mc := by have := heap_le hT XX; have := hq.1; omega
    obtain ⟨hx, hb, hr, hml, hown, hts, hlk, hK, hgS, hB, hnm⟩ := C
    have hQ : ∀ t : State, t.heap = H → s.WarmedH t.vm → mQ G mc post args s (.returned (some (.int x))) t := fun t ht hW => ⟨⟨_, h, rfl, hq.2.2, by rw [ht]; exact hsz, by rw [ht]; exact hP⟩, hS.F ht⟩
    unfold mrt at ht
    split at ht
    next e1 => exact W.widen (k := mc) (n := ms) (Nat.le_of_eq hq.1) hq.2.1 (W.iret hx hb (hr.trans e1) hQ hS.2.2 hd hlk) T hT XX
    next e1 => exact W.widen (k := mc) (n := ms) (Nat.le_of_eq hq.1) hq.2.1 (W.zret hx hb (hr.trans e1) (by rcases ht with rfl | rfl <;> decide) hQ hS.2.2 hd hlk) T hT XX
    next => exact ht.elim
  · intro p e s m args below meth c C X H locs ls hN hP hS hL T hT XX
    have hsz : H.size = s.heap.size + mc := by have := heap_le hT XX; have := hq.1; omega
    obtain ⟨hx, hb, hr, hml, hown, hts, hlk, hK, hgS, hB, hnm⟩ := C
    obtain ⟨n, e1⟩ := ht
    exact W.widen (k := mc) (n := ms) (Nat.le_of_eq hq.1) hq.2.1 (W.aret hx hb (hr.trans e1) (Or.inl ⟨n, rfl⟩) (Or.inr ⟨x, rfl⟩) (fun t ht hW => ⟨⟨_, h, rfl, hq.2.2, by rw [ht]; exact hsz, by rw [ht]; exact hP⟩, hS.F ht⟩) hS.2.2 hd hlk) T hT XX
  · intro p e s m args below meth c C X H locs ls hN hP hS hL T hT XX
    have hsz : H.size = s.heap.size + mc := by have := heap_le hT XX; have := hq.1; omega
    obtain ⟨hx, hb, hr, hml, hown, hts, hlk, hK, hgS, hB, hnm⟩ := C
    exact W.widen (k := mc) (n := ms) (Nat.le_of_eq hq.1) hq.2.1 (W.vret hx hb (hr.trans ht) (fun t ht hW => ⟨⟨_, h, rfl, hq.2.2, by rw [ht]; exact hsz, by rw [ht]; exact hP⟩, hS.F ht⟩) hS.2.2 hd hlk) T hT XX
theorem MW.getf {pc a b idx : Nat} {x : Nat} {v : Value} {fs : List Value} {L : mL} {r : List Value} {h : mH} {al : mAl} (hx0 : h x = some (.inr (a, fs))) (hv : fs[b]? = some v) (hr : rTabF.any (fun q => q.1 == mCls M && (q.2.1 == idx && (q.2.2.1 == a && q.2.2.2.1 == b))) = true) (hd : decode (mCd M) pc = .ok (.getfield idx, 3))
    (k : MW G M Z (pc + 3) L (v :: r) h al) : MW G M Z pc L (.ref x :: r) h al := by
  intro p e s m args below meth c C X H locs ls hN hP hS hL
  obtain ⟨q, hc, hlt, hC, hlk⟩ := fld_link hr
  obtain ⟨q0, hq⟩ := mws_at hP hx0
  have kk := k p e s m args below meth c C X H locs ls hN hP hS hL
  obtain ⟨hx, hb, -, hml, hown, hts, -, hK, hgS, hB, hnm⟩ := C
  rcases hlk with hlk | hlk
  · exact va_get (C := q.1) (T := q.2.1) (N := q.2.2) (ref := q.1) hx hb hts (u_in_g hc) hown hK (mws_P hP H.size) q0 hq hc b hlt (hts _ hlk) (fun _ z => by rw [hC] at z; exact z) hv hd kk
  · exact va_getN (C := q.1) (T := q.2.1) (N := q.2.2) (ref := q.1) hx hb hts (u_in_g hc) hown hK (mws_P hP H.size) q0 hq hc b hlt (va_Nw.use rfl (hgS.1 _ hlk)) (fun _ z => by rw [hC] at z; exact z) hv hd kk
theorem MW.putf {pc a b idx : Nat} {x : Nat} {v : Value} {fs : List Value} {L : mL} {r : List Value} {h : mH} {al : mAl} (hx0 : h x = some (.inr (a, fs))) (hl : b < fs.length) (hf : mfit (tyCl a b) v)
    (hr : rTabF.any (fun q => q.1 == mCls M && (q.2.1 == idx && (q.2.2.1 == a && (q.2.2.2.1 == b && q.2.2.2.2.1 == 0)))) = true) (hfi : (match vwCl[a]? with | some c => !(c.2.1 b).2.2.2 || (decide ((mNm M).name = "<init>") && decide (c.1 = mOwn (mCls M))) | none => false) = true) (hd : decode (mCd M) pc = .ok (.putfield idx, 3))
    (k : MW G M Z (pc + 3) L r (mset h x (.inr (a, fs.set b v))) al) : MW G M Z pc L (v :: .ref x :: r) h al := by
  intro p e s m args below meth c C X H locs ls hN hP hS hL
  obtain ⟨q, hc, hlt, hC, hlk⟩ := fld_link0 hr
  obtain ⟨q0, hq⟩ := mws_at hP hx0
  have k2 := fun H1 locs1 hN hP hS => k p e s m args below meth c C X H1 locs1 ls hN hP hS hL
  obtain ⟨hx, hb, -, hml, hown, hts, -, hK, hgS, hB, hnm⟩ := C
  have cf := (cl_facts a q hc).2
  have hty := cf.1 b hlt
  have hfo := mfit_ok hf
  rw [hc] at hfi
  by_cases hfin : (q.2.1 b).2.2.2 = true
  · have h2 : (mNm M).name = "<init>" ∧ q.1 = mOwn (mCls M) := by
      simpa [hfin] using hfi
    exact va_putF (C := q.1) (T := q.2.1) (N := q.2.2) (ref := q.1) hx hb hts (u_in_g hc) (tyCl a) cf.1 cf.2 hown hK (mws_P hP H.size) (mws_D hP H.size) (va_S_rf hS) q0 hq hc b hlt (hts _ hlk) (fun _ z => by rw [hC] at z; exact z) hfin (hnm.trans h2.1) (hC.trans h2.2) hty hfo.1 hfo.2 hl hd (fun H1 locs1 hP1 _ hS1 => k2 H1 locs1 ⟨hN.1, Nat.le_trans hN.2.1 hS1.1, hN.2.2⟩ (mP_set hP hx0 hq hP1) (va_S_trans hS hS1)) 
  · exact va_put (C := q.1) (T := q.2.1) (N := q.2.2) (ref := q.1) hx hb hts (u_in_g hc) (tyCl a) cf.1 cf.2 hown hK (mws_P hP H.size) (mws_D hP H.size) (va_S_rf hS) q0 hq hc b hlt (hts _ hlk) (fun _ z => by rw [hC] at z; exact z) (Bool.eq_false_iff.mpr hfin) hty hfo.1 hfo.2 hl hd (fun H1 locs1 hP1 _ hS1 => k2 H1 locs1 ⟨hN.1, Nat.le_trans hN.2.1 hS1.1, hN.2.2⟩ (mP_set hP hx0 hq hP1) (va_S_trans hS hS1))
theorem MW.aload {pc a t : Nat} {x : Nat} {i : Int32} {n : Nat} {f : Nat → Option Nat} {y : Nat} {ty : FieldType} {L : mL} {r : List Value} {h : mH} {al : mAl} (hx0 : h x = some (.inl (gC G a, n, .inr (.inr (.inr (.inr f)))))) (ht : (gT G)[t]? = some (gC G a, ty)) (hty : ty.isReference = true) (hi : vp_in i n) (hy : f i.toNatClampNeg = some y) (hd : decode (mCd M) pc = .ok (.aaload, 1))
    (k : MW G M Z (pc + 1) L (.ref y :: r) h al) : MW G M Z pc L (.int i :: .ref x :: r) h al := by
  intro p e s m args below meth c C X H locs ls hN hP hS hL
  have kk := k p e s m args below meth c C X H locs ls hN hP hS hL
  obtain ⟨hx, hb, -, hml, hown, hts, -, hK, hgS, hB, hnm⟩ := C
  have hlt : i.toNatClampNeg < n := Nat.not_le.mp fun q => hi (Or.inr q)
  exact W.aald (v := .ref y) (ty := ty) hx hb (hP x _ hx0).2 ((hK.2 t _ ht).1 n (fun j => va_rf (f j))) hty (fun q => by cases q) (by show ¬ (i < 0 ∨ (arrV _ _ _).slots.size ≤ _); rw [arrV_size]; exact hi) (by show (arrV _ _ _).slots[_]? = _; rw [arrV_read _ _ hlt, hy]; rfl) rfl rfl hd kk
theorem MW.iald {pc : Nat} {x : Nat} {i : Int32} {n : Nat} {f : Nat → Int32} {L : mL} {r : List Value} {h : mH} {al : mAl} (hx0 : h x = some (.inl (gC G 0, n, .inl f))) (hi : vp_in i n) (hd : decode (mCd M) pc = .ok (.iaload, 1))
    (k : MW G M Z (pc + 1) L (.int (f i.toNatClampNeg) :: r) h al) : MW G M Z pc L (.int i :: .ref x :: r) h al := by
  intro p e s m args below meth c C X H locs ls hN hP hS hL
  obtain ⟨q0, hq⟩ := mws_at hP hx0
  have kk := k p e s m args below meth c C X H locs ls hN hP hS hL
  obtain ⟨hx, hb, -, hml, hown, hts, -, hK, hgS, hB, hnm⟩ := C
  exact va_iald hx hb hK (mws_P hP H.size) q0 0 hq rfl hi hd kk
theorem MW.bald {pc a : Nat} {x : Nat} {i : Int32} {n : Nat} {f : Nat → Int32} {L : mL} {r : List Value} {h : mH} {al : mAl} (ha : a = 1 ∨ a = 2) (hx0 : h x = some (.inl (gC G a, n, .inl f))) (hi : vp_in i n) (hd : decode (mCd M) pc = .ok (.baload, 1))
    (k : MW G M Z (pc + 1) L (.int (f i.toNatClampNeg) :: r) h al) : MW G M Z pc L (.int i :: .ref x :: r) h al := by
  intro p e s m args below meth c C X H locs ls hN hP hS hL
  obtain ⟨q0, hq⟩ := mws_at hP hx0
  have kk := k p e s m args below meth c C X H locs ls hN hP hS hL
  obtain ⟨hx, hb, -, hml, hown, hts, -, hK, hgS, hB, hnm⟩ := C
  rcases ha with rfl | rfl
  · exact va_bald hx hb hK (mws_P hP H.size) q0 1 hq rfl hi hd kk
  · exact va_zald hx hb hK (mws_P hP H.size) q0 2 hq rfl hi hd kk
theorem MW.iast {pc : Nat} {x : Nat} {i v : Int32} {n : Nat} {f : Nat → Int32} {L : mL} {r : List Value} {h : mH} {al : mAl} (hx0 : h x = some (.inl (gC G 0, n, .inl f))) (hi : vp_in i n) (hd : decode (mCd M) pc = .ok (.iastore, 1))
    (k : MW G M Z (pc + 1) L r (mset h x (.inl (gC G 0, n, .inl (upd f i.toNatClampNeg v)))) al) : MW G M Z pc L (.int v :: .int i :: .ref x :: r) h al := by
  intro p e s m args below meth c C X H locs ls hN hP hS hL
  obtain ⟨q0, hq⟩ := mws_at hP hx0
  have k2 := fun H1 locs1 hN hP hS => k p e s m args below meth c C X H1 locs1 ls hN hP hS hL
  obtain ⟨hx, hb, -, hml, hown, hts, -, hK, hgS, hB, hnm⟩ := C
  exact va_iast hx hb hK (mws_P hP H.size) (mws_D hP H.size) (va_S_rf hS) q0 0 hq rfl hi hd (fun H1 locs1 hP1 _ hS1 => k2 H1 locs1 ⟨hN.1, Nat.le_trans hN.2.1 hS1.1, hN.2.2⟩ (mP_set hP hx0 hq hP1) (va_S_trans hS hS1))
theorem MW.bast {pc a : Nat} {x : Nat} {i v : Int32} {n : Nat} {f : Nat → Int32} {L : mL} {r : List Value} {h : mH} {al : mAl} (ha : a = 1 ∨ a = 2) (hx0 : h x = some (.inl (gC G a, n, .inl f))) (hi : vp_in i n) (hd : decode (mCd M) pc = .ok (.bastore, 1))
    (k : MW G M Z (pc + 1) L r (mset h x (.inl (gC G a, n, .inl (upd f i.toNatClampNeg (vp_nar (if a = 1 then .byte else .boolean) v))))) al) : MW G M Z pc L (.int v :: .int i :: .ref x :: r) h al := by
  intro p e s m args below meth c C X H locs ls hN hP hS hL
  obtain ⟨q0, hq⟩ := mws_at hP hx0
  have k2 := fun H1 locs1 hN hP hS => k p e s m args below meth c C X H1 locs1 ls hN hP hS hL
  obtain ⟨hx, hb, -, hml, hown, hts, -, hK, hgS, hB, hnm⟩ := C
  rcases ha with rfl | rfl
  · exact va_bast hx hb hK (mws_P hP H.size) (mws_D hP H.size) (va_S_rf hS) q0 1 hq rfl hi hd (fun H1 locs1 hP1 _ hS1 => k2 H1 locs1 ⟨hN.1, Nat.le_trans hN.2.1 hS1.1, hN.2.2⟩ (mP_set hP hx0 hq hP1) (va_S_trans hS hS1))
  · exact va_zast hx hb hK (mws_P hP H.size) (mws_D hP H.size) (va_S_rf hS) q0 2 hq rfl hi hd (fun H1 locs1 hP1 _ hS1 => k2 H1 locs1 ⟨hN.1, Nat.le_trans hN.2.1 hS1.1, hN.2.2⟩ (mP_set hP hx0 hq hP1) (va_S_trans hS hS1))
theorem MW.copy {pc idx : Nat} {x y : Nat} {sp dp n : Int32} {n0 n1 : Nat} {f g : Nat → Int32} {L : mL} {r : List Value} {h : mH} {al : mAl} {d : Nat} (hR : d ≤ Z.1.frames ∧ 64 * d ≤ Z.1.locals) (h1 : 1 ≤ d) (hst : mstW r ≤ 8) (hx0 : h x = some (.inl (gC G 0, n0, .inl f))) (hy0 : h y = some (.inl (gC G 0, n1, .inl g)))
    (a1 : ¬ sp < 0) (a2 : ¬ dp < 0) (a3 : ¬ n < 0) (a4 : sp.toNatClampNeg + n.toNatClampNeg ≤ n0) (a5 : dp.toNatClampNeg + n.toNatClampNeg ≤ n1) (hlk : Cond.methodLink (mOwn (mCls M)) idx arraycopyName ∈ lw_g) (hd : decode (mCd M) pc = .ok (.invokestatic idx, 3))
    (k : MW G M Z (pc + 3) L r (mset h y (.inl (gC G 0, n1, .inl (va_cpy f g sp.toNatClampNeg dp.toNatClampNeg n.toNatClampNeg)))) al) : MW G M Z pc L (.int n :: .int dp :: .ref y :: .int sp :: .ref x :: r) h al := by
  intro p e s m args below meth c C X H locs ls hN hP hS hL
  obtain ⟨q0, hq⟩ := mws_at hP hx0
  obtain ⟨q1, hq1⟩ := mws_at hP hy0
  have k2 := fun H1 locs1 hN hP hS => k p e s m args below meth c C X H1 locs1 ls hN hP hS hL
  obtain ⟨hx, hb, -, hml, hown, hts, -, hK, hgS, hB, hnm⟩ := C
  have hw : ∀ w, w ∈ lw_tbl → goodWord w = true → w.before args s = true := fun w a b => hts w (List.mem_filter.mpr ⟨a, b⟩)
  refine va_copyi hx hb (hml.trans hL.1.symm) hown (hts _ hlk) (hw _ posS_ok.2.2.1 rfl) (hw _ posS_ok.2.2.2.1 rfl) (hw _ posS_ok.2.2.2.2 rfl) hK (mws_P hP H.size) (mws_D hP H.size) (va_S_rf hS) q0 q1 0 0 hq hq1 rfl rfl rfl a1 a2 a3 a4 a5 (fun _ _ => rfl) (by omega) ?_ hd (fun H1 locs1 hP1 _ hS1 => k2 H1 locs1 ⟨hN.1, Nat.le_trans hN.2.1 hS1.1, hN.2.2⟩ (mP_set hP hy0 hq1 hP1) (va_S_trans hS hS1))
  have e5 : nativeFrameWords "java/lang/System" "arraycopy" 5 ≤ 40 := by decide +kernel
  unfold mstW at hst
  omega
end MWS
end
section
section MWC
variable {G : mG} {M : mI} {Z : mZ}
theorem mIn_of {h : mH} {al : mAl} {s U : State} {H : Heap} {locs : List Loc} (hsz : H.size = al.1) (hP : mP G h H) (hK : va_K (gD G) vwCl (gT G) s) (hgS : gS G s s.heap) (hB : gB G ≤ s.heap.size) (hS : va_S (gA G) s.heap H locs) (hU : U.heap = H) (hW : s.WarmedH U.vm) : mIn G h al.1 U :=
  ⟨by rw [hU]; exact hsz, by rw [hU]; exact hP, va_K.moved hW.alike hK, gS_call hgS hS hU hW, by have := hS.1; omega⟩
theorem mWd_g {a kind b : Nat} (hw : mWok a kind b) : ∀ w ∈ mWd (mtab a), w ∈ lw_g := by
  intro w h
  rcases List.mem_cons.mp h with rfl | h
  · exact hw.1
  · exact h
theorem MW.callV {post : Option Value → mH → Prop} {pc idx a b x : Nat} {fs : List Value} {As r : List Value} {L : mL} {h : mH} {al : mAl} {d : Nat} (hR : d ≤ Z.1.frames ∧ 64 * d ≤ Z.1.locals) (h1 : 1 ≤ d) (hst : mstW r ≤ 8) (hx0 : h x = some (.inr (mCls (mtab a), fs))) (hl : Cond.methodLink (mOwn (mCls M)) idx (mNm (mtab a)) ∈ lw_g) (hw : mWok a 0 b) (hn : As.length = b) (hd : decode (mCd M) pc = .ok (.invokevirtual idx, 3))
    (k : MC G (mtab a) (d - 1) 0 0 (.ref x :: As) h al.1 post) (hk : ∀ rv h', post rv h' → MW G M Z (pc + 3) L (rv.toList ++ r) h' al) : MW G M Z pc L (As.reverse ++ .ref x :: r) h al := by
  intro p e s m args below meth c C X H locs ls hN hP hS hL T hT XX
  have hsz : H.size = al.1 := by have := heap_le hT XX; omega
  have C0 := C
  obtain ⟨hx, hb, -, hml, hown, hts, -, hK, hgS, hB, hnm⟩ := C
  obtain ⟨q0, hq⟩ := mws_at hP hx0
  have hc := hw.2.2.2.2.2.2.2.2 rfl
  cases hcl : vwCl[mCls (mtab a)]? with
  | none => rw [hcl] at hc; cases hc
  | some cq =>
    rw [hcl] at hc
    have hcn : cq.1 = (mNm (mtab a)).cls := Option.some.inj hc
    have hrecv := va_recv hK (mws_P hP H.size) hcl hq
    rw [hcn] at hrecv
    refine mm_call (va_runV (C := (mNm (mtab a)).cls) (b := x) (As := As) (rest := r) (bytes := mCd (mtab a)) (maxL := mMx (mtab a)) (ret := mRt (mtab a)) (n := b) ⟨hx, hb, hml, hown, hts⟩ k
      ⟨callB_of b hts (good_g (mWd_g hw)) rfl rfl rfl (hts _ hw.2.2.2.2.1) (hts _ hl) hw.2.2.2.2.2.1 ⟨by show d - 1 + 1 ≤ _; omega, by show 8 + (mMx (mtab a) + 11) + 64 * (d - 1) ≤ _; have := hw.2.2.2.2.2.2.1.2.1; omega⟩, hts _ (hw.2.2.1 (by decide)), hts _ (hw.2.2.2.1 rfl)⟩
      ⟨mIn_blind, hrecv, fun U hU hW => ⟨rfl, mIn_of hsz hP hK hgS hB hS hU hW⟩⟩ rfl hn hL.1 rfl (by show 2 * 0 + _ ≤ 8; unfold mstW at hst; omega) hd ⟨by show al.2.1 + 0 ≤ _; omega, by show al.2.2 + 0 ≤ _; omega⟩) hS (fun rv h' H1 locs1 hpost hs1 hP1 hS1 => ?_) T hT XX
    exact hk _ _ hpost p e s m args below meth c C0 X H1 locs1 ls ⟨hN.1, by omega, hN.2.2⟩ hP1 hS1 hL
theorem MW.callS {post : Option Value → mH → Prop} {pc idx a b : Nat} {As r : List Value} {L : mL} {h : mH} {al : mAl} {d : Nat} (hR : d ≤ Z.1.frames ∧ 64 * d ≤ Z.1.locals) (h1 : 1 ≤ d) (hst : mstW r ≤ 8) (hl : Cond.methodLink (mOwn (mCls M)) idx (mNm (mtab a)) ∈ lw_g) (hw : mWok a 1 b) (hn : As.length = b) (hd : decode (mCd M) pc = .ok (.invokestatic idx, 3))
    (k : MC G (mtab a) (d - 1) 0 0 As h al.1 post) (hk : ∀ rv h', post rv h' → MW G M Z (pc + 3) L (rv.toList ++ r) h' al) : MW G M Z pc L (As.reverse ++ r) h al := by
  intro p e s m args below meth c C X H locs ls hN hP hS hL T hT XX
  have hsz : H.size = al.1 := by have := heap_le hT XX; omega
  have C0 := C
  obtain ⟨hx, hb, -, hml, hown, hts, -, hK, hgS, hB, hnm⟩ := C
  refine mm_call (va_runS (As := As) (rest := r) (bytes := mCd (mtab a)) (maxL := mMx (mtab a)) (ret := mRt (mtab a)) (n := b) ⟨hx, hb, hml, hown, hts⟩ k
    ⟨callB_of b hts (good_g (mWd_g hw)) rfl rfl rfl (hts _ hw.2.2.2.2.1) (hts _ hl) hw.2.2.2.2.2.1 ⟨by show d - 1 + 1 ≤ _; omega, by show 8 + (mMx (mtab a) + 11) + 64 * (d - 1) ≤ _; have := hw.2.2.2.2.2.2.1.2.1; omega⟩, hts _ (hw.2.1 rfl)⟩
    ⟨mIn_blind, fun U hU hW => ⟨rfl, mIn_of hsz hP hK hgS hB hS hU hW⟩⟩ rfl hn hL.1 rfl (by show 2 * 0 + _ ≤ 8; unfold mstW at hst; omega) hd ⟨by show al.2.1 + 0 ≤ _; omega, by show al.2.2 + 0 ≤ _; omega⟩) hS (fun rv h' H1 locs1 hpost hs1 hP1 hS1 => ?_) T hT XX
  exact hk _ _ hpost p e s m args below meth c C0 X H1 locs1 ls ⟨hN.1, by omega, hN.2.2⟩ hP1 hS1 hL
theorem MW.callI {post : Option Value → mH → Prop} {pc idx a b x mc ms : Nat} {As r : List Value} {L : mL} {h : mH} {al : mAl} {d : Nat} (hR : d ≤ Z.1.frames ∧ 64 * d ≤ Z.1.locals) (h1 : 1 ≤ d) (hst : mstW r ≤ 8) (hf : al.2.1 + mc ≤ Z.1.cells ∧ al.2.2 + ms ≤ Z.1.slots) (hl : Cond.methodLink (mOwn (mCls M)) idx (mNm (mtab a)) ∈ lw_g ∨ Cond.methodLinkNest (mOwn (mCls M)) idx (mNm (mtab a)) "CornerFronts" ∈ lw_n) (hw : mWok a 2 b) (hn : As.length = b) (hd : decode (mCd M) pc = .ok (.invokespecial idx, 3))
    (k : MC G (mtab a) (d - 1) mc ms (.ref x :: As) h al.1 post) (hk : ∀ rv h', post rv h' → MW G M Z (pc + 3) L (rv.toList ++ r) h' (al.1 + mc, al.2.1 + mc, al.2.2 + ms)) : MW G M Z pc L (As.reverse ++ .ref x :: r) h al := by
  intro p e s m args below meth c C X H locs ls hN hP hS hL T hT XX
  have hsz : H.size = al.1 := by have := heap_le hT XX; omega
  have C0 := C
  obtain ⟨hx, hb, -, hml, hown, hts, -, hK, hgS, hB, hnm⟩ := C
  obtain ⟨hnm2, hrt2⟩ := hw.2.2.2.2.2.2.2.1 rfl
  have hwd : mWd (mtab a) = Cond.code (mNm (mtab a)) (mCd (mtab a)) (mMx (mtab a)) none :: lw_g := by unfold mWd; rw [hrt2]
  rcases hl with hl | hl
  · refine mm_call (va_runI (b := x) (As := As) (rest := r) (bytes := mCd (mtab a)) (maxL := mMx (mtab a)) (n := b) ⟨hx, hb, hml, hown, hts⟩ k
      ⟨callB_of b hts (good_g (mWd_g hw)) hwd rfl rfl (hts _ hw.2.2.2.2.1) (hts _ hl) hw.2.2.2.2.2.1 ⟨by show d - 1 + 1 ≤ _; omega, by show 8 + (mMx (mtab a) + 11) + 64 * (d - 1) ≤ _; have := hw.2.2.2.2.2.2.1.2.1; omega⟩, hnm2, hts _ (hw.2.2.1 (by decide))⟩
      ⟨mIn_blind, fun U hU hW => ⟨rfl, mIn_of hsz hP hK hgS hB hS hU hW⟩⟩ rfl hn hL.1 rfl (by show 2 * 0 + _ ≤ 8; unfold mstW at hst; omega) hd hf) hS (fun rv h' H1 locs1 hpost hs1 hP1 hS1 => ?_) T hT XX
    exact hk _ _ hpost p e s m args below meth c C0 X H1 locs1 ls ⟨by show al.1 + mc = _ + (al.2.1 + mc); omega, by show al.1 + mc ≤ _; omega, hf⟩ hP1 hS1 hL
  · refine mm_call (va_runIN (b := x) (As := As) (rest := r) (bytes := mCd (mtab a)) (maxL := mMx (mtab a)) (n := b) (host := "CornerFronts") ⟨hx, hb, hml, hown, hts⟩ k
      ⟨va_cnB b hts (good_g (mWd_g hw)) hwd rfl rfl (hgS.1 _ hl) (hts _ hw.2.2.2.2.1) hw.2.2.2.2.2.1 ⟨by show d - 1 + 1 ≤ _; omega, by show 8 + (mMx (mtab a) + 11) + 64 * (d - 1) ≤ _; have := hw.2.2.2.2.2.2.1.2.1; omega⟩, hnm2, hts _ (hw.2.2.1 (by decide))⟩
      ⟨mIn_blind, fun U hU hW => ⟨rfl, mIn_of hsz hP hK hgS hB hS hU hW⟩⟩ rfl hn hL.1 rfl (by show 2 * 0 + _ ≤ 8; unfold mstW at hst; omega) hd hf) hS (fun rv h' H1 locs1 hpost hs1 hP1 hS1 => ?_) T hT XX
    exact hk _ _ hpost p e s m args below meth c C0 X H1 locs1 ls ⟨by show al.1 + mc = _ + (al.2.1 + mc); omega, by show al.1 + mc ≤ _; omega, hf⟩ hP1 hS1 hL
theorem MW.objI {pc idx x : Nat} {r : List Value} {L : mL} {h : mH} {al : mAl} {d : Nat} (hR : d ≤ Z.1.frames ∧ 64 * d ≤ Z.1.locals) (h1 : 1 ≤ d) (hst : mstW r ≤ 8) (hl : Cond.methodLink (mOwn (mCls M)) idx objectInit ∈ lw_g) (hd : decode (mCd M) pc = .ok (.invokespecial idx, 3))
    (k : MW G M Z (pc + 3) L r h al) : MW G M Z pc L (.ref x :: r) h al := by
  intro p e s m args below meth c C X H locs ls hN hP hS hL
  have kk := k p e s m args below meth c C X H locs ls hN hP hS hL
  obtain ⟨hx, hb, -, hml, hown, hts, -, hK, hgS, hB, hnm⟩ := C
  have hw : ∀ w, w ∈ lw_tbl → goodWord w = true → w.before args s = true := fun w a b => hts w (List.mem_filter.mpr ⟨a, b⟩)
  exact W.objInit hx hb hown (hts _ hl) (hw _ posS_ok.1 rfl) (hw _ posS_ok.2.1 rfl) rfl (hL.1.trans hml.symm) rfl hd (by omega) (by show 2 * 0 + _ + 12 ≤ _; unfold mstW at hst; omega) kk
theorem MW.mth {pc idx : Nat} {st r : List Value} {v : Int32} {L : mL} {h : mH} {al : mAl} {d : Nat} (hR : d ≤ Z.1.frames ∧ 64 * d ≤ Z.1.locals) (h1 : 1 ≤ d) (hst : mstW r ≤ 8) (hd : decode (mCd M) pc = .ok (.invokestatic idx, 3))
    (hl : (∃ x y : Int32, Cond.methodLink (mOwn (mCls M)) idx Lib.Math.max.name ∈ lw_g ∧ st = .int y :: .int x :: r ∧ v = if x < y then y else x) ∨ (∃ x y : Int32, Cond.methodLink (mOwn (mCls M)) idx Lib.Math.min.name ∈ lw_g ∧ st = .int y :: .int x :: r ∧ v = if y < x then y else x) ∨ (∃ x : Int32, Cond.methodLink (mOwn (mCls M)) idx Lib.Math.abs.name ∈ lw_g ∧ st = .int x :: r ∧ v = if 0 ≤ x then x else 0 - x))
    (k : MW G M Z (pc + 3) L (.int v :: r) h al) : MW G M Z pc L st h al := by
  intro p e s m args below meth c C X H locs ls hN hP hS hL
  have kk := k p e s m args below meth c C X H locs ls hN hP hS hL
  obtain ⟨hx, hb, -, hml, hown, hts, -, hK, hgS, hB, hnm⟩ := C
  have hw : ∀ w, w ∈ lw_tbl → goodWord w = true → w.before args s = true := fun w a b => hts w (List.mem_filter.mpr ⟨a, b⟩)
  have hlo : (r.map fun v => v.category).sum + 13 ≤ Z.1.locals := by unfold mstW at hst; omega
  have hfr : 1 ≤ Z.1.frames := by omega
  have P := posMt_ok
  rcases hl with ⟨x, y, hl, rfl, rfl⟩ | ⟨x, y, hl, rfl, rfl⟩ | ⟨x, hl, rfl, rfl⟩
  · exact va_mmax hx hb (hml.trans hL.1.symm) hown (hts _ hl) (hw _ P.1 rfl) (hw _ P.2.2.2.2.2.2 rfl) (hw _ P.2.1 rfl) hfr hlo hN.2.2.1 hN.2.2.2 hd kk
  · exact va_mmin hx hb (hml.trans hL.1.symm) hown (hts _ hl) (hw _ P.2.2.1 rfl) (hw _ P.2.2.2.2.2.2 rfl) (hw _ P.2.2.2.1 rfl) hfr hlo hN.2.2.1 hN.2.2.2 hd kk
  · exact va_mabs hx hb (hml.trans hL.1.symm) hown (hts _ hl) (hw _ P.2.2.2.2.1 rfl) (hw _ P.2.2.2.2.2.2 rfl) (hw _ P.2.2.2.2.2.1 rfl) hfr hlo hN.2.2.1 hN.2.2.2 hd kk
theorem MW.ldc2 {pc idx : Nat} {w : Int64} {r : List Value} {L : mL} {h : mH} {al : mAl} (hr : rTabL.any (fun q => q.1 == mCls M && (q.2.1 == idx && q.2.2.1 == w)) = true) (hd : decode (mCd M) pc = .ok (.ldc2_w idx, 3))
    (k : MW G M Z (pc + 3) L (.long w :: r) h al) : MW G M Z pc L r h al := by
  intro p e s m args below meth c C X H locs ls hN hP hS hL
  have kk := k p e s m args below meth c C X H locs ls hN hP hS hL
  obtain ⟨hx, hb, -, hml, hown, hts, -, hK, hgS, hB, hnm⟩ := C
  obtain ⟨q, hq, h2⟩ := List.any_eq_true.mp hr
  simp only [Bool.and_eq_true, beq_iff_eq] at h2
  obtain ⟨e1, rfl, rfl⟩ := h2
  have ok := of_decide_eq_true (List.all_eq_true.mp tabL_ok q hq)
  rw [e1] at ok
  exact lv_ldc2 hx hb hown (hts _ (mem_g ok rfl)) hd kk
end MWC
end
section
theorem mft_ok {M : mI} (hM : okM M = true) {pc : Nat} {e : mE} (hf : mft M pc = some e) : okE M (pc, e) = true := by
  unfold mft at hf
  cases hq : (mOps M).find? (fun q => q.1 == pc) with
  | none => rw [hq] at hf; cases hf
  | some q =>
    rw [hq] at hf
    cases hf
    have h1 := List.find?_some hq
    have h2 := List.mem_of_find?_eq_some hq
    simp only [beq_iff_eq] at h1
    rw [← h1]
    exact List.all_eq_true.mp hM q h2
section MWR
variable {G : mG} {M : mI} {Z : mZ}
set_option maxHeartbeats 4000000 in
theorem MW.step {d : Nat} {ret : Option Value → mH → mAl → Prop} (hR : d ≤ Z.1.frames ∧ 64 * d ≤ Z.1.locals) (hret : mRet G M Z ret) (hM : okM M = true) {pc : Nat} {e : mE} {L : mL} {st : List Value} {h : mH} {al : mAl} (hf : mft M pc = some e) {kk : Nat → mL → List Value → mH → mAl → Prop} (hK : ∀ pc L st h al, kk pc L st h al → MW G M Z pc L st h al) (hw : wpI G d Z.1 ret kk e L st h al) : MW G M Z pc L st h al := by
  have hok := mft_ok hM hf
  unfold okE at hok
  simp only [Bool.and_eq_true, decide_eq_true_eq] at hok
  obtain ⟨⟨hle, hd0⟩, hlen, hr⟩ := hok
  obtain ⟨ins, nx, a, b, c, v, w⟩ := e
  have key : ∀ k : Nat, stdLen ins = k + 1 → decode (mCd M) pc = .ok (ins, k + 1) := fun k hk => by
    rcases hlen with q | q
    · exact absurd (q.symm.trans hk) (by omega)
    · have e0 : nx - pc = k + 1 := by
        have q' : nx = pc + stdLen ins := q
        omega
      rw [← e0]
      exact hd0
  have hN : ∀ k : Nat, stdLen ins = k + 1 → ∀ L st h al, kk nx L st h al → MW G M Z (pc + (k + 1)) L st h al := fun k hk L st h al q => by
    rcases hlen with z | z
    · exact absurd (z.symm.trans hk) (by omega)
    · have e0 : nx = pc + (k + 1) := by
        have z' : nx = pc + stdLen ins := z
        omega
      rw [← e0]
      exact hK _ _ _ _ _ q
  clear hlen hd0 hf hle
  cases ins
  case iconst n => exact MW.go (fun hx hb hL k => lv_iconst hx hb (key 0 rfl) (of_decide_eq_true hr) k) (hN 0 rfl _ _ _ _ hw)
  case bipush n => exact MW.go (fun hx hb hL k => lv_bipush hx hb (key 1 rfl) (of_decide_eq_true hr) k) (hN 1 rfl _ _ _ _ hw)
  case sipush n => exact MW.go (fun hx hb hL k => lv_sipush hx hb (key 2 rfl) (of_decide_eq_true hr) k) (hN 2 rfl _ _ _ _ hw)
  case lconst n => exact MW.go (fun hx hb hL k => lv_lconst hx hb (key 0 rfl) (of_decide_eq_true hr) k) (hN 0 rfl _ _ _ _ hw)
  case ldc2_w n => exact MW.ldc2 hr (key 2 rfl) (hN 2 rfl _ _ _ _ hw)
  case iload_n n =>
    obtain ⟨x, hx0, hk⟩ := w_o_inv hw
    obtain ⟨y, rfl, hk⟩ := w_int_inv hk
    exact MW.go (fun hx hb hL k => lv_iload_n hx hb (key 0 rfl) (of_decide_eq_true hr) (hL.2.2.2 a (.int y) (getD_some.mp hx0)) k) (hN 0 rfl _ _ _ _ hk)
  case iload n =>
    obtain ⟨x, hx0, hk⟩ := w_o_inv hw
    obtain ⟨y, rfl, hk⟩ := w_int_inv hk
    have hna : n = a := of_decide_eq_true hr
    subst hna
    exact MW.go (fun hx hb hL k => lv_iload hx hb (key 1 rfl) (hL.2.2.2 n (.int y) (getD_some.mp hx0)) k) (hN 1 rfl _ _ _ _ hk)
  case aload_n n =>
    obtain ⟨x, hx0, hk⟩ := w_o_inv hw
    obtain ⟨y, rfl, hk⟩ := w_ref_inv hk
    exact MW.go (fun hx hb hL k => lv_aload_n hx hb (key 0 rfl) (of_decide_eq_true hr) (hL.2.2.2 a (.ref y) (getD_some.mp hx0)) k) (hN 0 rfl _ _ _ _ hk)
  case aload n =>
    obtain ⟨x, hx0, hk⟩ := w_o_inv hw
    obtain ⟨y, rfl, hk⟩ := w_ref_inv hk
    have hna : n = a := of_decide_eq_true hr
    subst hna
    exact MW.go (fun hx hb hL k => lv_aload hx hb (key 1 rfl) (hL.2.2.2 n (.ref y) (getD_some.mp hx0)) k) (hN 1 rfl _ _ _ _ hk)
  case lload_n n =>
    obtain ⟨x, hx0, hk⟩ := w_o_inv hw
    obtain ⟨y, rfl, hk⟩ := w_lng_inv hk
    exact MW.go (fun hx hb hL k => lv_lload_n hx hb (key 0 rfl) (of_decide_eq_true hr) (hL.2.2.2 a (.long y) (getD_some.mp hx0)) k) (hN 0 rfl _ _ _ _ hk)
  case lload n =>
    obtain ⟨x, hx0, hk⟩ := w_o_inv hw
    obtain ⟨y, rfl, hk⟩ := w_lng_inv hk
    have hna : n = a := of_decide_eq_true hr
    subst hna
    exact MW.go (fun hx hb hL k => lv_lload hx hb (key 1 rfl) (hL.2.2.2 n (.long y) (getD_some.mp hx0)) k) (hN 1 rfl _ _ _ _ hk)
  case istore_n n =>
    obtain ⟨x, r, rfl, hok, hk⟩ := w_i_inv hw
    obtain ⟨e1, e2⟩ := of_decide_eq_true hr
    exact MW.st1 hok (fun hx hb hh k => lv_istore_n hx hb (key 0 rfl) e1 hh e2 rfl k) (hN 0 rfl _ _ _ _ hk)
  case istore n =>
    obtain ⟨x, r, rfl, hok, hk⟩ := w_i_inv hw
    obtain ⟨rfl, e2⟩ := of_decide_eq_true hr
    exact MW.st1 hok (fun hx hb hh k => lv_istore hx hb (key 1 rfl) hh e2 rfl k) (hN 1 rfl _ _ _ _ hk)
  case astore_n n =>
    obtain ⟨x, r, rfl, hok, hk⟩ := w_r_inv hw
    obtain ⟨e1, e2⟩ := of_decide_eq_true hr
    exact MW.st1 hok (fun hx hb hh k => lv_astore_n hx hb (key 0 rfl) e1 hh e2 rfl k) (hN 0 rfl _ _ _ _ hk)
  case astore n =>
    obtain ⟨x, r, rfl, hok, hk⟩ := w_r_inv hw
    obtain ⟨rfl, e2⟩ := of_decide_eq_true hr
    exact MW.st1 hok (fun hx hb hh k => lv_astore hx hb (key 1 rfl) hh e2 rfl k) (hN 1 rfl _ _ _ _ hk)
  case lstore n =>
    obtain ⟨x, r, rfl, hok, hlt, hk⟩ := w_l_inv hw
    have hna : n = a := of_decide_eq_true hr
    subst hna
    exact MW.st2 hok (fun hx hb hh hl k => lv_lstore hx hb (key 1 rfl) hh (hl ▸ hlt) rfl k) (hN 1 rfl _ _ _ _ hk)
  case iinc n c =>
    obtain ⟨x, hx0, hk⟩ := w_o_inv hw
    obtain ⟨y, rfl, hok, hk⟩ := w_int_inv hk
    obtain ⟨rfl, rfl⟩ := of_decide_eq_true hr
    have hm := ent_mem.mpr (getD_some.mp hx0)
    obtain ⟨j, hj⟩ := List.getElem?_of_mem hm
    have hlt := (List.getElem?_eq_some_iff.mp (getD_some.mp hx0)).1
    intro p e s m args below meth cd C X H locs ls hNN hP hS hL
    exact lv_iinc C.1 C.2.1 (key 2 rfl) (mloc_has hL) hj rfl (hL.2.1 ▸ hlt) rfl (fun ls' hl => hN 2 rfl _ _ _ _ hk p e s m args below meth cd C X H locs ls' hNN hP hS (mloc_st1 hL.2.1 hok hl))
  case dup =>
    cases st with
    | nil => exact (hw : False).elim
    | cons x r => exact MW.go (fun hx hb hL k => lv_dup hx hb (key 0 rfl) hw.1 k) (hN 0 rfl _ _ _ _ hw.2)
  case dup2 =>
    cases st with
    | nil => exact (hw : False).elim
    | cons x r => cases r with
      | nil => exact (hw : False).elim
      | cons y r => exact MW.go (fun hx hb hL k => lv_dup2_11 hx hb (key 0 rfl) hw.1 hw.2.1 k) (hN 0 rfl _ _ _ _ hw.2.2)
  case iadd => obtain ⟨x, y, r, rfl, hk⟩ := w_ii_inv hw; exact MW.go (fun hx hb hL k => lv_iadd hx hb (key 0 rfl) k) (hN 0 rfl _ _ _ _ hk)
  case isub => obtain ⟨x, y, r, rfl, hk⟩ := w_ii_inv hw; exact MW.go (fun hx hb hL k => lv_isub hx hb (key 0 rfl) k) (hN 0 rfl _ _ _ _ hk)
  case imul => obtain ⟨x, y, r, rfl, hk⟩ := w_ii_inv hw; exact MW.go (fun hx hb hL k => lv_imul hx hb (key 0 rfl) k) (hN 0 rfl _ _ _ _ hk)
  case iand => obtain ⟨x, y, r, rfl, hk⟩ := w_ii_inv hw; exact MW.go (fun hx hb hL k => lv_iand hx hb (key 0 rfl) k) (hN 0 rfl _ _ _ _ hk)
  case ior => obtain ⟨x, y, r, rfl, hk⟩ := w_ii_inv hw; exact MW.go (fun hx hb hL k => lv_ior hx hb (key 0 rfl) k) (hN 0 rfl _ _ _ _ hk)
  case ixor => obtain ⟨x, y, r, rfl, hk⟩ := w_ii_inv hw; exact MW.go (fun hx hb hL k => lv_ixor hx hb (key 0 rfl) k) (hN 0 rfl _ _ _ _ hk)
  case ishl => obtain ⟨x, y, r, rfl, hk⟩ := w_ii_inv hw; exact MW.go (fun hx hb hL k => lv_ishl hx hb (key 0 rfl) k) (hN 0 rfl _ _ _ _ hk)
  case ishr => obtain ⟨x, y, r, rfl, hk⟩ := w_ii_inv hw; exact MW.go (fun hx hb hL k => lv_ishr hx hb (key 0 rfl) k) (hN 0 rfl _ _ _ _ hk)
  case idiv => obtain ⟨x, y, r, rfl, hne, hk⟩ := w_ii_inv hw; exact MW.go (fun hx hb hL k => lv_idiv hx hb (key 0 rfl) hne k) (hN 0 rfl _ _ _ _ hk)
  case irem => obtain ⟨x, y, r, rfl, hne, hk⟩ := w_ii_inv hw; exact MW.go (fun hx hb hL k => lv_irem hx hb (key 0 rfl) hne k) (hN 0 rfl _ _ _ _ hk)
  case iushr => obtain ⟨x, y, r, rfl, hk⟩ := w_ii_inv hw; exact MW.go (fun hx hb hL k => lv_iushr hx hb (key 0 rfl) rfl k) (hN 0 rfl _ _ _ _ hk)
  case ineg => obtain ⟨x, r, rfl, hk⟩ := w_i_inv hw; exact MW.go (fun hx hb hL k => lv_ineg hx hb (key 0 rfl) k) (hN 0 rfl _ _ _ _ hk)
  case i2l => obtain ⟨x, r, rfl, hk⟩ := w_i_inv hw; exact MW.go (fun hx hb hL k => lv_i2l hx hb (key 0 rfl) rfl k) (hN 0 rfl _ _ _ _ hk)
  case i2b => obtain ⟨x, r, rfl, hk⟩ := w_i_inv hw; exact MW.go (fun hx hb hL k => lv_i2b hx hb (key 0 rfl) rfl k) (hN 0 rfl _ _ _ _ hk)
  case i2s => obtain ⟨x, r, rfl, hk⟩ := w_i_inv hw; exact MW.go (fun hx hb hL k => lv_i2s hx hb (key 0 rfl) rfl k) (hN 0 rfl _ _ _ _ hk)
  case i2c => obtain ⟨x, r, rfl, hk⟩ := w_i_inv hw; exact MW.go (fun hx hb hL k => lv_i2c hx hb (key 0 rfl) rfl k) (hN 0 rfl _ _ _ _ hk)
  case l2i => obtain ⟨x, r, rfl, hk⟩ := w_l_inv hw; exact MW.go (fun hx hb hL k => lv_l2i hx hb (key 0 rfl) rfl k) (hN 0 rfl _ _ _ _ hk)
  case ladd => obtain ⟨x, y, r, rfl, hk⟩ := w_ll_inv hw; exact MW.go (fun hx hb hL k => lv_ladd hx hb (key 0 rfl) k) (hN 0 rfl _ _ _ _ hk)
  case land => obtain ⟨x, y, r, rfl, hk⟩ := w_ll_inv hw; exact MW.go (fun hx hb hL k => lv_land hx hb (key 0 rfl) k) (hN 0 rfl _ _ _ _ hk)
  case lor => obtain ⟨x, y, r, rfl, hk⟩ := w_ll_inv hw; exact MW.go (fun hx hb hL k => lv_lor hx hb (key 0 rfl) k) (hN 0 rfl _ _ _ _ hk)
  case lcmp => obtain ⟨x, y, r, rfl, hk⟩ := w_ll_inv hw; exact MW.go (fun hx hb hL k => W.lcmp hx hb (key 0 rfl) k) (hN 0 rfl _ _ _ _ hk)
  case lshl => obtain ⟨x, y, r, rfl, hk⟩ := w_li_inv hw; exact MW.go (fun hx hb hL k => lv_lshl hx hb (key 0 rfl) rfl k) (hN 0 rfl _ _ _ _ hk)
  case lshr => obtain ⟨x, y, r, rfl, hk⟩ := w_li_inv hw; exact MW.go (fun hx hb hL k => lv_lshr hx hb (key 0 rfl) rfl k) (hN 0 rfl _ _ _ _ hk)
  case goto off => exact MW.go (fun hx hb hL k => lv_goto hx hb (key 2 rfl) (of_decide_eq_true hr) k) (hK _ _ _ _ _ hw)
  case ifCond cd off =>
    obtain ⟨x, r, rfl, hk⟩ := w_i_inv hw
    have ht : (pc : Int) + off = (a : Int) := of_decide_eq_true hr
    have hk : (mcmp cd x 0 → MW G M Z a L r h al) ∧ (¬ mcmp cd x 0 → MW G M Z (pc + 3) L r h al) := ⟨fun q => hK _ _ _ _ _ (hk.1 q), fun q => hN 2 rfl _ _ _ _ (hk.2 q)⟩
    cases cd
    case eq => exact MW.br (fun hx hb k1 k2 => lv_if_eq hx hb (key 2 rfl) ht k1 k2) hk
    case ne => exact MW.br (P := ¬ x = 0) (fun hx hb k1 k2 => lv_if_ne hx hb (key 2 rfl) ht k1 (fun q => k2 (fun z => z q))) hk
    case lt => exact MW.br (fun hx hb k1 k2 => lv_if_lt hx hb (key 2 rfl) ht k1 k2) hk
    case ge => exact MW.br (fun hx hb k1 k2 => lv_if_ge hx hb (key 2 rfl) ht k1 k2) hk
    case gt => exact MW.br (fun hx hb k1 k2 => lv_if_gt hx hb (key 2 rfl) ht k1 k2) hk
    case le => exact MW.br (fun hx hb k1 k2 => lv_if_le hx hb (key 2 rfl) ht k1 k2) hk
  case if_icmp cd off =>
    obtain ⟨x, y, r, rfl, hk⟩ := w_ii_inv hw
    have ht : (pc : Int) + off = (a : Int) := of_decide_eq_true hr
    have hk : (mcmp cd x y → MW G M Z a L r h al) ∧ (¬ mcmp cd x y → MW G M Z (pc + 3) L r h al) := ⟨fun q => hK _ _ _ _ _ (hk.1 q), fun q => hN 2 rfl _ _ _ _ (hk.2 q)⟩
    cases cd
    case eq => exact MW.br (fun hx hb k1 k2 => lv_icmp_eq hx hb (key 2 rfl) ht k1 k2) hk
    case ne => exact MW.br (P := ¬ x = y) (fun hx hb k1 k2 => lv_icmp_ne hx hb (key 2 rfl) ht k1 (fun q => k2 (fun z => z q))) hk
    case lt => exact MW.br (fun hx hb k1 k2 => lv_icmp_lt hx hb (key 2 rfl) ht k1 k2) hk
    case ge => exact MW.br (fun hx hb k1 k2 => lv_icmp_ge hx hb (key 2 rfl) ht k1 k2) hk
    case gt => exact MW.br (fun hx hb k1 k2 => lv_icmp_gt hx hb (key 2 rfl) ht k1 k2) hk
    case le => exact MW.br (fun hx hb k1 k2 => lv_icmp_le hx hb (key 2 rfl) ht k1 k2) hk
  case getfield idx =>
    obtain ⟨x, r, rfl, hk⟩ := w_r_inv hw
    obtain ⟨fs, hx0, hk⟩ := w_ob_inv hk
    obtain ⟨v, hv, hk⟩ := w_o_inv hk
    exact MW.getf hx0 hv hr (key 2 rfl) (hN 2 rfl _ _ _ _ hk)
  case putfield idx =>
    obtain ⟨x, v, r, rfl, hk⟩ := w_rv_inv hw
    obtain ⟨fs, hx0, hl, hk⟩ := w_ob_inv hk
    have hr2 := (Bool.and_eq_true _ _).mp hr
    have hr3 := (Bool.and_eq_true _ _).mp hr2.2
    have hf : mfit (tyCl a b) v ∧ kk nx L r (mset h x (.inr (a, fs.set b v))) al := by
      have h3 := hr3.2
      unfold w_fit at hk
      generalize tyCl a b = ty at h3 ⊢
      split at hk
      · split at h3 <;> first | exact ⟨trivial, hk⟩ | cases h3 | (rename_i q _; cases q) | skip
        all_goals first | exact ⟨trivial, hk⟩ | (simp at *)
      · split at h3 <;> first | exact ⟨hk.1, hk.2⟩ | cases h3 | (rename_i q _; cases q) | skip
        all_goals first | exact ⟨hk.1, hk.2⟩ | (simp at *)
      · split at h3 <;> first | exact ⟨trivial, hk⟩ | cases h3 | (rename_i q _; cases q) | skip
        all_goals first | exact ⟨trivial, hk⟩ | (simp at *)
      · exact hk.elim
    exact MW.putf hx0 hl hf.1 hr2.1 hr3.1 (key 2 rfl) (hN 2 rfl _ _ _ _ hf.2)
  case iaload =>
    obtain ⟨x, i, r, rfl, hk⟩ := w_ri_inv hw
    obtain ⟨n, f, hx0, hi, hk⟩ := w_ai_inv hk
    exact MW.iald hx0 hi (key 0 rfl) (hN 0 rfl _ _ _ _ hk)
  case baload =>
    obtain ⟨x, i, r, rfl, hk⟩ := w_ri_inv hw
    obtain ⟨n, f, hx0, hi, hk⟩ := w_ai_inv hk
    have ha : a = 1 ∨ a = 2 := by simpa [okR] using hr
    exact MW.bald ha hx0 hi (key 0 rfl) (hN 0 rfl _ _ _ _ hk)
  case aaload =>
    obtain ⟨x, i, r, rfl, hk⟩ := w_ri_inv hw
    obtain ⟨n, f, hx0, hi, hk1⟩ := w_ar_inv hk
    obtain ⟨y, hy, hk2⟩ := w_o_inv hk1
    clear hk hk1 hw
    have ha : a = 3 ∨ a = 4 ∨ a = 5 := by simpa [okR] using hr
    rcases ha with rfl | rfl | rfl
    · exact MW.aload (t := 3) hx0 rfl rfl hi hy (key 0 rfl) (hN 0 rfl _ _ _ _ hk2)
    · exact MW.aload (t := 4) hx0 rfl rfl hi hy (key 0 rfl) (hN 0 rfl _ _ _ _ hk2)
    · exact MW.aload (t := 5) hx0 rfl rfl hi hy (key 0 rfl) (hN 0 rfl _ _ _ _ hk2)
  case iastore =>
    obtain ⟨x, i, v, r, rfl, hk⟩ := w_rii_inv hw
    obtain ⟨n, f, hx0, hi, hk⟩ := w_ai_inv hk
    exact MW.iast hx0 hi (key 0 rfl) (hN 0 rfl _ _ _ _ hk)
  case bastore =>
    obtain ⟨x, i, v, r, rfl, hk⟩ := w_rii_inv hw
    obtain ⟨n, f, hx0, hi, hk⟩ := w_ai_inv hk
    have ha : a = 1 ∨ a = 2 := by simpa [okR] using hr
    exact MW.bast ha hx0 hi (key 0 rfl) (hN 0 rfl _ _ _ _ hk)
  case invokevirtual idx =>
    unfold wpI at hw
    dsimp only at hw
    unfold okR at hr
    dsimp only at hr
    by_cases c9 : a = 999
    · rw [if_pos c9] at hw
      exact hw.elim
    rw [if_neg c9] at hw
    have e9 : (a == 999) = false := by simp [c9]
    rw [e9, Bool.false_or] at hr
    have hr0 := (Bool.and_eq_true _ _).mp hr
    have hr2 := (Bool.and_eq_true _ _).mp hr0.1
    have hcl : mCls (mtab a) = c := of_decide_eq_true hr0.2
    obtain ⟨q, hq, hk⟩ := w_o_inv hw
    obtain ⟨As, st'⟩ := q
    obtain ⟨x, r, hst', hk⟩ := w_r_inv hk
    obtain ⟨fs, hx0, h1, hst, hk⟩ := w_ob_inv hk
    obtain ⟨bb, e1, e2, e3⟩ := mpop_eq b [] st As st' hq
    have e4 : st = As.reverse ++ .ref x :: r := by
      rw [e2, e1]
      simp only [List.append_nil, List.reverse_reverse]
      exact congrArg _ hst'
    rw [e4]
    exact MW.callV hR h1 hst (by rw [hcl]; exact hx0) (mlink hr2.1) (mword hr2.2) (by rw [e1]; simpa using e3) (key 2 rfl) hk (fun _ _ => hN 2 rfl _ _ _ _)
  case invokestatic idx =>
    unfold wpI at hw
    dsimp only at hw
    unfold okR at hr
    dsimp only at hr
    by_cases c0 : a = 1000
    · subst c0
      obtain ⟨x, sp, y, dp, n, r, rfl, hk⟩ := w_cp_inv (by rw [if_pos rfl] at hw; exact hw)
      obtain ⟨n0, f, hx0, hk⟩ := w_ai_inv hk
      obtain ⟨n1, g, hy0, h1, hst, a1, a2, a3, a4, a5, hk⟩ := w_ai_inv hk
      exact MW.copy hR h1 hst hx0 hy0 a1 a2 a3 a4 a5 (slink (a := 1000) (by rw [if_pos (by decide)] at hr; exact hr)) (key 2 rfl) (hN 2 rfl _ _ _ _ hk)
    · rw [if_neg c0] at hw
      by_cases c1 : a = 1010
      · subst c1
        obtain ⟨x, y, r, rfl, h1, hst, hk⟩ := w_ii_inv (by rw [if_pos rfl] at hw; exact hw)
        exact MW.mth hR h1 hst (key 2 rfl) (Or.inl ⟨x, y, slink (a := 1010) (by rw [if_pos (by decide)] at hr; exact hr), rfl, rfl⟩) (hN 2 rfl _ _ _ _ hk)
      · rw [if_neg c1] at hw
        by_cases c2 : a = 1011
        · subst c2
          obtain ⟨x, y, r, rfl, h1, hst, hk⟩ := w_ii_inv (by rw [if_pos rfl] at hw; exact hw)
          exact MW.mth hR h1 hst (key 2 rfl) (Or.inr (Or.inl ⟨x, y, slink (a := 1011) (by rw [if_pos (by decide)] at hr; exact hr), rfl, rfl⟩)) (hN 2 rfl _ _ _ _ hk)
        · rw [if_neg c2] at hw
          by_cases c3 : a = 1012
          · subst c3
            obtain ⟨x, r, rfl, h1, hst, hk⟩ := w_i_inv (by rw [if_pos rfl] at hw; exact hw)
            exact MW.mth hR h1 hst (key 2 rfl) (Or.inr (Or.inr ⟨x, slink (a := 1012) (by rw [if_pos (by decide)] at hr; exact hr), rfl, rfl⟩)) (hN 2 rfl _ _ _ _ hk)
          · rw [if_neg c3] at hw
            by_cases c4 : a = 1013
            · rw [if_pos c4] at hw; exact hw.elim
            · rw [if_neg c4] at hw
              obtain ⟨q, hq, h1, hst, hk⟩ := w_o_inv hw
              obtain ⟨As, r⟩ := q
              obtain ⟨bb, e1, e2, e3⟩ := mpop_eq b [] st As r hq
              rw [if_neg (by omega)] at hr
              have hr2 := (Bool.and_eq_true _ _).mp hr
              have e4 : st = As.reverse ++ r := by
                rw [e2, e1]
                simp only [List.append_nil, List.reverse_reverse]
              rw [e4]
              exact MW.callS hR h1 hst (mlink hr2.1) (mword hr2.2) (by rw [e1]; simpa using e3) (key 2 rfl) hk (fun _ _ => hN 2 rfl _ _ _ _)
  case invokespecial idx =>
    unfold wpI at hw
    dsimp only at hw
    unfold okR at hr
    dsimp only at hr
    by_cases c0 : a = 1001
    · subst c0
      obtain ⟨x, r, rfl, h1, hst, hk⟩ := w_r_inv (by rw [if_pos rfl] at hw; exact hw)
      exact MW.objI hR h1 hst (slink (a := 1001) (by rw [if_pos rfl] at hr; exact hr)) (key 2 rfl) (hN 2 rfl _ _ _ _ hk)
    · rw [if_neg c0] at hw
      obtain ⟨q, hq, hk⟩ := w_o_inv hw
      obtain ⟨As, st'⟩ := q
      obtain ⟨x, r, hst', h1, hst, f1, f2, hk⟩ := w_r_inv hk
      obtain ⟨bb, e1, e2, e3⟩ := mpop_eq b [] st As st' hq
      rw [if_neg c0] at hr
      have hr2 := (Bool.and_eq_true _ _).mp hr
      have e4 : st = As.reverse ++ .ref x :: r := by
        rw [e2, e1]
        simp only [List.append_nil, List.reverse_reverse]
        exact congrArg _ hst'
      rw [e4]
      exact MW.callI hR h1 hst ⟨f1, f2⟩ (mlinkN hr2.1) (mword hr2.2) (by rw [e1]; simpa using e3) (key 2 rfl) hk (fun _ _ => hN 2 rfl _ _ _ _)
  case ireturn =>
    unfold wpI at hw
    dsimp only at hw
    unfold okR at hr
    dsimp only at hr
    unfold w_ret at hw
    split at hw
    · refine (hret pc L h al).1 _ (key 0 rfl) ?_ hw
      split at hr
      next e => rw [e]; trivial
      next q _ => cases q
      next => cases hr
    · refine (hret pc L h al).1 _ (key 0 rfl) ?_ hw.2
      split at hr
      next q _ => cases q
      next e => rw [e]; exact hw.1
      next => cases hr
    · exact hw.elim
  case areturn =>
    unfold wpI at hw
    dsimp only at hw
    unfold okR at hr
    dsimp only at hr
    unfold w_rtr at hw
    split at hw
    · refine (hret pc L h al).2.1 _ (key 0 rfl) ?_ hw
      split at hr
      next e => exact ⟨_, e⟩
      next => cases hr
    · exact hw.elim
  case return_ =>
    unfold wpI at hw
    dsimp only at hw
    unfold w_rtv at hw
    split at hw
    · exact (hret pc L h al).2.2 (key 0 rfl) (of_decide_eq_true hr) hw
    · exact hw.elim
  all_goals exact (hw : False).elim
end MWR

def mEnt : List Value → mL
  | [] => []
  | v :: vs => if v.category = 2 then some v :: none :: mEnt vs else some v :: mEnt vs
theorem mEnt_len : ∀ vs : List Value, (mEnt vs).length = (lg_sl vs).length
  | [] => rfl
  | v :: vs => by
    unfold mEnt lg_sl
    rw [List.flatMap_cons]
    have ih := mEnt_len vs
    unfold lg_sl at ih
    by_cases c : v.category = 2
    · simp [c, ih]
    · simp [c, ih]
theorem mEnt_mem : ∀ (vs : List Value) (j i : Nat) (v : Value), (mEnt vs)[i]? = some (some v) → (j + i, v) ∈ lv_args j vs
  | [], _, _, _, h => by cases h
  | w :: vs, j, i, v, h => by
    unfold mEnt at h
    unfold lv_args
    by_cases c : w.category = 2
    · rw [if_pos c] at h ⊢
      match i, h with
      | 0, h => cases h; exact List.mem_cons_self
      | 1, h => cases h
      | i + 2, h =>
        have := mEnt_mem vs (j + 2) i v h
        rw [show j + (i + 2) = j + 2 + i by omega]
        exact List.mem_cons_of_mem _ this
    · rw [if_neg c] at h ⊢
      match i, h with
      | 0, h => cases h; exact List.mem_cons_self
      | i + 1, h =>
        have := mEnt_mem vs (j + 1) i v h
        rw [show j + (i + 1) = j + 1 + i by omega]
        exact List.mem_cons_of_mem _ this
def mGood (M : mI) : Prop := okM M = true ∧ plainName (mNm M).cls = true ∧ mOwn (mCls M) = (mNm M).cls
theorem MC.of {G : mG} {M : mI} {d mc ms : Nat} {args : List Value} {h : mH} {N : Nat} {post : Option Value → mH → Prop} {L0 : mL} (hg : mGood M) (hle : (mEnt args).length ≤ mMx M) (hL0 : mEnt args ++ List.replicate (mMx M - (mEnt args).length) none = L0)
    (hW : MW G M (mz G d mc ms post) 0 L0 [] h (N, 0, 0)) : MC G M d mc ms args h N post := by
  refine Met.ofW (cc := mCd M) (maxL := mMx M) (ret := mRt M) hg.2.1 rfl ?_
  intro p e s m args' below meth c s₁ B hml hv
  obtain ⟨rfl, hsz, hP, hK, hgS, hB⟩ := hv
  have hts := atoms_spec (ws := mWd M) B.pre
  have hown : s.vm.findClass (mOwn (mCls M)) = some m.cls := by rw [hg.2.2]; exact findClass_of_methodNamed B.named
  have hnm : meth.name = (mNm M).name := (name_of_methodNamed B.named B.method).1
  have hlen : (lg_sl args).length ≤ mMx M := by rw [← mEnt_len]; exact hle
  have hl := lv_entry args (n := mMx M) hlen
  rw [lg_entry_eq]
  generalize (lg_sl args ++ List.replicate (mMx M - (lg_sl args).length) Slot.unset).toArray = ls at hl ⊢
  refine hW p e s m args.toArray below meth c ⟨B.exec, B.bytes, B.returns, hml, hown, fun w hw => hts w (List.mem_cons_of_mem _ hw), B.notSynchronized, hK, hgS, by omega, hnm⟩ trivial s.heap [] ls ⟨by show N = s.heap.size + 0; omega, by show N ≤ _; omega, Nat.zero_le _, Nat.zero_le _⟩ hP va_S.rf ?_
  refine ⟨hl.1, ?_, hl.2.1, fun i v hi => ?_⟩
  · rw [← hL0]
    simp
    omega
  · rw [← hL0] at hi
    by_cases c : i < (mEnt args).length
    · rw [List.getElem?_append_left c] at hi
      have := hl.2.2 _ (mEnt_mem args 0 i v hi)
      simpa using this
    · rw [List.getElem?_append_right (by omega)] at hi
      have := List.eq_of_mem_replicate (List.mem_of_getElem? hi)
      cases this
/-- many steps: up to the places told -/
def wpN (G : mG) (M : mI) (Z : mZ) (d : Nat) (ret : Option Value → mH → mAl → Prop) (stops : List Nat) : Nat → Nat → mL → List Value → mH → mAl → Prop
  | 0, pc, L, st, h, al => MW G M Z pc L st h al
  | n + 1, pc, L, st, h, al => if pc ∈ stops then MW G M Z pc L st h al else w_o (mft M pc) fun e => wpI G d Z.1 ret (wpN G M Z d ret stops n) e L st h al
theorem wpN_ok {G : mG} {M : mI} {Z : mZ} {d : Nat} {ret : Option Value → mH → mAl → Prop} (hR : d ≤ Z.1.frames ∧ 64 * d ≤ Z.1.locals) (hret : mRet G M Z ret) (hM : okM M = true) {stops : List Nat} : ∀ (n pc : Nat) (L : mL) (st : List Value) (h : mH) (al : mAl), wpN G M Z d ret stops n pc L st h al → MW G M Z pc L st h al
  | 0, _, _, _, _, _, hw => hw
  | n + 1, pc, L, st, h, al, hw => by
    unfold wpN at hw
    split at hw
    · exact hw
    · obtain ⟨e, he, hw⟩ := w_o_inv hw
      exact MW.step hR hret hM he (fun pc L st h al => wpN_ok hR hret hM n pc L st h al) hw
/-- the end of a method that makes mc cells of ms slots -/
def mEnd (mc ms : Nat) (post : Option Value → mH → Prop) : Option Value → mH → mAl → Prop := fun r h al => al.2.1 = mc ∧ al.2.2 ≤ ms ∧ post r h
/-- a method's body from a place on, n steps at most, up to the places told -/
abbrev mRun (G : mG) (M : mI) (d mc ms : Nat) (post : Option Value → mH → Prop) (stops : List Nat) (n pc : Nat) (L : mL) (st : List Value) (h : mH) (al : mAl) : Prop := wpN G M (mz G d mc ms post) d (mEnd mc ms post) stops n pc L st h al
theorem MW.run {G : mG} {M : mI} {d mc ms : Nat} {post : Option Value → mH → Prop} (hg : mGood M) (stops : List Nat) (n : Nat) {pc : Nat} {L : mL} {st : List Value} {h : mH} {al : mAl} (hw : mRun G M d mc ms post stops n pc L st h al) : MW G M (mz G d mc ms post) pc L st h al :=
  wpN_ok ⟨Nat.le_refl _, Nat.le_refl _⟩ mz_ret hg.1 n pc L st h al hw
end
section
/-! the evaluator, unfolded from the outside: simp only [↓EV, ..] -/
theorem EVi : (∀ (G : mG) (d : Nat) (R : Room) (ret : Option Value → mH → mAl → Prop) (k : Nat → mL → List Value → mH → mAl → Prop) (nx a b c : Nat) (v : Int32) (w : Int64) (L : mL) (st : List Value) (h : mH) (al : mAl) (i0 : Int), wpI G d R ret k (.iconst i0, nx, a, b, c, v, w) L st h al = (k nx L (.int v :: st) h al)) ∧
  (∀ (G : mG) (d : Nat) (R : Room) (ret : Option Value → mH → mAl → Prop) (k : Nat → mL → List Value → mH → mAl → Prop) (nx a b c : Nat) (v : Int32) (w : Int64) (L : mL) (st : List Value) (h : mH) (al : mAl) (i0 : Int), wpI G d R ret k (.bipush i0, nx, a, b, c, v, w) L st h al = (k nx L (.int v :: st) h al)) ∧
  (∀ (G : mG) (d : Nat) (R : Room) (ret : Option Value → mH → mAl → Prop) (k : Nat → mL → List Value → mH → mAl → Prop) (nx a b c : Nat) (v : Int32) (w : Int64) (L : mL) (st : List Value) (h : mH) (al : mAl) (i0 : Int), wpI G d R ret k (.sipush i0, nx, a, b, c, v, w) L st h al = (k nx L (.int v :: st) h al)) ∧
  (∀ (G : mG) (d : Nat) (R : Room) (ret : Option Value → mH → mAl → Prop) (k : Nat → mL → List Value → mH → mAl → Prop) (nx a b c : Nat) (v : Int32) (w : Int64) (L : mL) (st : List Value) (h : mH) (al : mAl) (i0 : Fin 2), wpI G d R ret k (.lconst i0, nx, a, b, c, v, w) L st h al = (k nx L (.long w :: st) h al)) ∧
  (∀ (G : mG) (d : Nat) (R : Room) (ret : Option Value → mH → mAl → Prop) (k : Nat → mL → List Value → mH → mAl → Prop) (nx a b c : Nat) (v : Int32) (w : Int64) (L : mL) (st : List Value) (h : mH) (al : mAl) (i0 : Nat), wpI G d R ret k (.ldc2_w i0, nx, a, b, c, v, w) L st h al = (k nx L (.long w :: st) h al)) ∧
  (∀ (G : mG) (d : Nat) (R : Room) (ret : Option Value → mH → mAl → Prop) (k : Nat → mL → List Value → mH → mAl → Prop) (nx a b c : Nat) (v : Int32) (w : Int64) (L : mL) (st : List Value) (h : mH) (al : mAl) (i0 : Fin 4), wpI G d R ret k (.iload_n i0, nx, a, b, c, v, w) L st h al = (w_o (L.getD a none) fun x => w_int x fun x => k nx L (.int x :: st) h al)) ∧
  (∀ (G : mG) (d : Nat) (R : Room) (ret : Option Value → mH → mAl → Prop) (k : Nat → mL → List Value → mH → mAl → Prop) (nx a b c : Nat) (v : Int32) (w : Int64) (L : mL) (st : List Value) (h : mH) (al : mAl) (i0 : Nat), wpI G d R ret k (.iload i0, nx, a, b, c, v, w) L st h al = (w_o (L.getD a none) fun x => w_int x fun x => k nx L (.int x :: st) h al)) ∧
  (∀ (G : mG) (d : Nat) (R : Room) (ret : Option Value → mH → mAl → Prop) (k : Nat → mL → List Value → mH → mAl → Prop) (nx a b c : Nat) (v : Int32) (w : Int64) (L : mL) (st : List Value) (h : mH) (al : mAl) (i0 : Fin 4), wpI G d R ret k (.aload_n i0, nx, a, b, c, v, w) L st h al = (w_o (L.getD a none) fun x => w_ref x fun x => k nx L (.ref x :: st) h al)) ∧
  (∀ (G : mG) (d : Nat) (R : Room) (ret : Option Value → mH → mAl → Prop) (k : Nat → mL → List Value → mH → mAl → Prop) (nx a b c : Nat) (v : Int32) (w : Int64) (L : mL) (st : List Value) (h : mH) (al : mAl) (i0 : Nat), wpI G d R ret k (.aload i0, nx, a, b, c, v, w) L st h al = (w_o (L.getD a none) fun x => w_ref x fun x => k nx L (.ref x :: st) h al)) ∧
  (∀ (G : mG) (d : Nat) (R : Room) (ret : Option Value → mH → mAl → Prop) (k : Nat → mL → List Value → mH → mAl → Prop) (nx a b c : Nat) (v : Int32) (w : Int64) (L : mL) (st : List Value) (h : mH) (al : mAl) (i0 : Fin 4), wpI G d R ret k (.lload_n i0, nx, a, b, c, v, w) L st h al = (w_o (L.getD a none) fun x => w_lng x fun x => k nx L (.long x :: st) h al)) ∧
  (∀ (G : mG) (d : Nat) (R : Room) (ret : Option Value → mH → mAl → Prop) (k : Nat → mL → List Value → mH → mAl → Prop) (nx a b c : Nat) (v : Int32) (w : Int64) (L : mL) (st : List Value) (h : mH) (al : mAl) (i0 : Nat), wpI G d R ret k (.lload i0, nx, a, b, c, v, w) L st h al = (w_o (L.getD a none) fun x => w_lng x fun x => k nx L (.long x :: st) h al)) ∧
  (∀ (G : mG) (d : Nat) (R : Room) (ret : Option Value → mH → mAl → Prop) (k : Nat → mL → List Value → mH → mAl → Prop) (nx a b c : Nat) (v : Int32) (w : Int64) (L : mL) (st : List Value) (h : mH) (al : mAl) (i0 : Fin 4), wpI G d R ret k (.istore_n i0, nx, a, b, c, v, w) L st h al = (w_i st fun x r => mOk1 L a ∧ w_set L a (some (.int x)) fun L => k nx L r h al)) ∧
  (∀ (G : mG) (d : Nat) (R : Room) (ret : Option Value → mH → mAl → Prop) (k : Nat → mL → List Value → mH → mAl → Prop) (nx a b c : Nat) (v : Int32) (w : Int64) (L : mL) (st : List Value) (h : mH) (al : mAl) (i0 : Nat), wpI G d R ret k (.istore i0, nx, a, b, c, v, w) L st h al = (w_i st fun x r => mOk1 L a ∧ w_set L a (some (.int x)) fun L => k nx L r h al)) ∧
  (∀ (G : mG) (d : Nat) (R : Room) (ret : Option Value → mH → mAl → Prop) (k : Nat → mL → List Value → mH → mAl → Prop) (nx a b c : Nat) (v : Int32) (w : Int64) (L : mL) (st : List Value) (h : mH) (al : mAl) (i0 : Fin 4), wpI G d R ret k (.astore_n i0, nx, a, b, c, v, w) L st h al = (w_r st fun x r => mOk1 L a ∧ w_set L a (some (.ref x)) fun L => k nx L r h al)) ∧
  (∀ (G : mG) (d : Nat) (R : Room) (ret : Option Value → mH → mAl → Prop) (k : Nat → mL → List Value → mH → mAl → Prop) (nx a b c : Nat) (v : Int32) (w : Int64) (L : mL) (st : List Value) (h : mH) (al : mAl) (i0 : Nat), wpI G d R ret k (.astore i0, nx, a, b, c, v, w) L st h al = (w_r st fun x r => mOk1 L a ∧ w_set L a (some (.ref x)) fun L => k nx L r h al)) ∧
  (∀ (G : mG) (d : Nat) (R : Room) (ret : Option Value → mH → mAl → Prop) (k : Nat → mL → List Value → mH → mAl → Prop) (nx a b c : Nat) (v : Int32) (w : Int64) (L : mL) (st : List Value) (h : mH) (al : mAl) (i0 : Nat), wpI G d R ret k (.lstore i0, nx, a, b, c, v, w) L st h al = (w_l st fun x r => mOk1 L a ∧ a + 1 < L.length ∧ w_set L (a + 1) none fun L => w_set L a (some (.long x)) fun L => k nx L r h al)) ∧
  (∀ (G : mG) (d : Nat) (R : Room) (ret : Option Value → mH → mAl → Prop) (k : Nat → mL → List Value → mH → mAl → Prop) (nx a b c : Nat) (v : Int32) (w : Int64) (L : mL) (st : List Value) (h : mH) (al : mAl) (i0 : Nat) (i1 : Int), wpI G d R ret k (.iinc i0 i1, nx, a, b, c, v, w) L st h al = (w_o (L.getD a none) fun x => w_int x fun x => mOk1 L a ∧ w_set L a (some (.int (x + v))) fun L => k nx L st h al)) ∧
  (∀ (G : mG) (d : Nat) (R : Room) (ret : Option Value → mH → mAl → Prop) (k : Nat → mL → List Value → mH → mAl → Prop) (nx a b c : Nat) (v : Int32) (w : Int64) (L : mL) (st : List Value) (h : mH) (al : mAl), wpI G d R ret k (.dup, nx, a, b, c, v, w) L st h al = (w_dup st fun x r => k nx L (x :: x :: r) h al)) ∧
  (∀ (G : mG) (d : Nat) (R : Room) (ret : Option Value → mH → mAl → Prop) (k : Nat → mL → List Value → mH → mAl → Prop) (nx a b c : Nat) (v : Int32) (w : Int64) (L : mL) (st : List Value) (h : mH) (al : mAl), wpI G d R ret k (.dup2, nx, a, b, c, v, w) L st h al = (w_dup2 st fun x y r => k nx L (x :: y :: x :: y :: r) h al)) ∧
  (∀ (G : mG) (d : Nat) (R : Room) (ret : Option Value → mH → mAl → Prop) (k : Nat → mL → List Value → mH → mAl → Prop) (nx a b c : Nat) (v : Int32) (w : Int64) (L : mL) (st : List Value) (h : mH) (al : mAl), wpI G d R ret k (.iadd, nx, a, b, c, v, w) L st h al = (w_ii st fun x y r => k nx L (.int (x + y) :: r) h al)) ∧
  (∀ (G : mG) (d : Nat) (R : Room) (ret : Option Value → mH → mAl → Prop) (k : Nat → mL → List Value → mH → mAl → Prop) (nx a b c : Nat) (v : Int32) (w : Int64) (L : mL) (st : List Value) (h : mH) (al : mAl), wpI G d R ret k (.isub, nx, a, b, c, v, w) L st h al = (w_ii st fun x y r => k nx L (.int (x - y) :: r) h al)) ∧
  (∀ (G : mG) (d : Nat) (R : Room) (ret : Option Value → mH → mAl → Prop) (k : Nat → mL → List Value → mH → mAl → Prop) (nx a b c : Nat) (v : Int32) (w : Int64) (L : mL) (st : List Value) (h : mH) (al : mAl), wpI G d R ret k (.imul, nx, a, b, c, v, w) L st h al = (w_ii st fun x y r => k nx L (.int (x * y) :: r) h al)) ∧
  (∀ (G : mG) (d : Nat) (R : Room) (ret : Option Value → mH → mAl → Prop) (k : Nat → mL → List Value → mH → mAl → Prop) (nx a b c : Nat) (v : Int32) (w : Int64) (L : mL) (st : List Value) (h : mH) (al : mAl), wpI G d R ret k (.idiv, nx, a, b, c, v, w) L st h al = (w_ii st fun x y r => ¬ y = 0 ∧ k nx L (.int (x / y) :: r) h al)) ∧
  (∀ (G : mG) (d : Nat) (R : Room) (ret : Option Value → mH → mAl → Prop) (k : Nat → mL → List Value → mH → mAl → Prop) (nx a b c : Nat) (v : Int32) (w : Int64) (L : mL) (st : List Value) (h : mH) (al : mAl), wpI G d R ret k (.irem, nx, a, b, c, v, w) L st h al = (w_ii st fun x y r => ¬ y = 0 ∧ k nx L (.int (x - x / y * y) :: r) h al)) ∧
  (∀ (G : mG) (d : Nat) (R : Room) (ret : Option Value → mH → mAl → Prop) (k : Nat → mL → List Value → mH → mAl → Prop) (nx a b c : Nat) (v : Int32) (w : Int64) (L : mL) (st : List Value) (h : mH) (al : mAl), wpI G d R ret k (.iand, nx, a, b, c, v, w) L st h al = (w_ii st fun x y r => k nx L (.int (x &&& y) :: r) h al)) ∧
  (∀ (G : mG) (d : Nat) (R : Room) (ret : Option Value → mH → mAl → Prop) (k : Nat → mL → List Value → mH → mAl → Prop) (nx a b c : Nat) (v : Int32) (w : Int64) (L : mL) (st : List Value) (h : mH) (al : mAl), wpI G d R ret k (.ior, nx, a, b, c, v, w) L st h al = (w_ii st fun x y r => k nx L (.int (x ||| y) :: r) h al)) ∧
  (∀ (G : mG) (d : Nat) (R : Room) (ret : Option Value → mH → mAl → Prop) (k : Nat → mL → List Value → mH → mAl → Prop) (nx a b c : Nat) (v : Int32) (w : Int64) (L : mL) (st : List Value) (h : mH) (al : mAl), wpI G d R ret k (.ixor, nx, a, b, c, v, w) L st h al = (w_ii st fun x y r => k nx L (.int (x ^^^ y) :: r) h al)) ∧
  (∀ (G : mG) (d : Nat) (R : Room) (ret : Option Value → mH → mAl → Prop) (k : Nat → mL → List Value → mH → mAl → Prop) (nx a b c : Nat) (v : Int32) (w : Int64) (L : mL) (st : List Value) (h : mH) (al : mAl), wpI G d R ret k (.ishl, nx, a, b, c, v, w) L st h al = (w_ii st fun x y r => k nx L (.int (x <<< (y &&& 31)) :: r) h al)) ∧
  (∀ (G : mG) (d : Nat) (R : Room) (ret : Option Value → mH → mAl → Prop) (k : Nat → mL → List Value → mH → mAl → Prop) (nx a b c : Nat) (v : Int32) (w : Int64) (L : mL) (st : List Value) (h : mH) (al : mAl), wpI G d R ret k (.ishr, nx, a, b, c, v, w) L st h al = (w_ii st fun x y r => k nx L (.int (x >>> (y &&& 31)) :: r) h al)) ∧
  (∀ (G : mG) (d : Nat) (R : Room) (ret : Option Value → mH → mAl → Prop) (k : Nat → mL → List Value → mH → mAl → Prop) (nx a b c : Nat) (v : Int32) (w : Int64) (L : mL) (st : List Value) (h : mH) (al : mAl), wpI G d R ret k (.iushr, nx, a, b, c, v, w) L st h al = (w_ii st fun x y r => k nx L (.int (x.toUInt32 >>> (y.toUInt32 &&& Int32.toUInt32 31)).toInt32 :: r) h al)) ∧
  (∀ (G : mG) (d : Nat) (R : Room) (ret : Option Value → mH → mAl → Prop) (k : Nat → mL → List Value → mH → mAl → Prop) (nx a b c : Nat) (v : Int32) (w : Int64) (L : mL) (st : List Value) (h : mH) (al : mAl), wpI G d R ret k (.ineg, nx, a, b, c, v, w) L st h al = (w_i st fun x r => k nx L (.int (-x) :: r) h al)) ∧
  (∀ (G : mG) (d : Nat) (R : Room) (ret : Option Value → mH → mAl → Prop) (k : Nat → mL → List Value → mH → mAl → Prop) (nx a b c : Nat) (v : Int32) (w : Int64) (L : mL) (st : List Value) (h : mH) (al : mAl), wpI G d R ret k (.i2l, nx, a, b, c, v, w) L st h al = (w_i st fun x r => k nx L (.long x.toInt64 :: r) h al)) ∧
  (∀ (G : mG) (d : Nat) (R : Room) (ret : Option Value → mH → mAl → Prop) (k : Nat → mL → List Value → mH → mAl → Prop) (nx a b c : Nat) (v : Int32) (w : Int64) (L : mL) (st : List Value) (h : mH) (al : mAl), wpI G d R ret k (.i2b, nx, a, b, c, v, w) L st h al = (w_i st fun x r => k nx L (.int x.toInt8.toInt32 :: r) h al)) ∧
  (∀ (G : mG) (d : Nat) (R : Room) (ret : Option Value → mH → mAl → Prop) (k : Nat → mL → List Value → mH → mAl → Prop) (nx a b c : Nat) (v : Int32) (w : Int64) (L : mL) (st : List Value) (h : mH) (al : mAl), wpI G d R ret k (.i2s, nx, a, b, c, v, w) L st h al = (w_i st fun x r => k nx L (.int x.toInt16.toInt32 :: r) h al)) ∧
  (∀ (G : mG) (d : Nat) (R : Room) (ret : Option Value → mH → mAl → Prop) (k : Nat → mL → List Value → mH → mAl → Prop) (nx a b c : Nat) (v : Int32) (w : Int64) (L : mL) (st : List Value) (h : mH) (al : mAl), wpI G d R ret k (.i2c, nx, a, b, c, v, w) L st h al = (w_i st fun x r => k nx L (.int (x.toUInt32 % 65536).toInt32 :: r) h al)) ∧
  (∀ (G : mG) (d : Nat) (R : Room) (ret : Option Value → mH → mAl → Prop) (k : Nat → mL → List Value → mH → mAl → Prop) (nx a b c : Nat) (v : Int32) (w : Int64) (L : mL) (st : List Value) (h : mH) (al : mAl), wpI G d R ret k (.l2i, nx, a, b, c, v, w) L st h al = (w_l st fun x r => k nx L (.int x.toInt32 :: r) h al)) ∧
  (∀ (G : mG) (d : Nat) (R : Room) (ret : Option Value → mH → mAl → Prop) (k : Nat → mL → List Value → mH → mAl → Prop) (nx a b c : Nat) (v : Int32) (w : Int64) (L : mL) (st : List Value) (h : mH) (al : mAl), wpI G d R ret k (.ladd, nx, a, b, c, v, w) L st h al = (w_ll st fun x y r => k nx L (.long (x + y) :: r) h al)) ∧
  (∀ (G : mG) (d : Nat) (R : Room) (ret : Option Value → mH → mAl → Prop) (k : Nat → mL → List Value → mH → mAl → Prop) (nx a b c : Nat) (v : Int32) (w : Int64) (L : mL) (st : List Value) (h : mH) (al : mAl), wpI G d R ret k (.land, nx, a, b, c, v, w) L st h al = (w_ll st fun x y r => k nx L (.long (x &&& y) :: r) h al)) ∧
  (∀ (G : mG) (d : Nat) (R : Room) (ret : Option Value → mH → mAl → Prop) (k : Nat → mL → List Value → mH → mAl → Prop) (nx a b c : Nat) (v : Int32) (w : Int64) (L : mL) (st : List Value) (h : mH) (al : mAl), wpI G d R ret k (.lor, nx, a, b, c, v, w) L st h al = (w_ll st fun x y r => k nx L (.long (x ||| y) :: r) h al)) ∧
  (∀ (G : mG) (d : Nat) (R : Room) (ret : Option Value → mH → mAl → Prop) (k : Nat → mL → List Value → mH → mAl → Prop) (nx a b c : Nat) (v : Int32) (w : Int64) (L : mL) (st : List Value) (h : mH) (al : mAl), wpI G d R ret k (.lcmp, nx, a, b, c, v, w) L st h al = (w_ll st fun x y r => k nx L (.int (lg_cmp x y) :: r) h al)) ∧
  (∀ (G : mG) (d : Nat) (R : Room) (ret : Option Value → mH → mAl → Prop) (k : Nat → mL → List Value → mH → mAl → Prop) (nx a b c : Nat) (v : Int32) (w : Int64) (L : mL) (st : List Value) (h : mH) (al : mAl), wpI G d R ret k (.lshl, nx, a, b, c, v, w) L st h al = (w_li st fun x y r => k nx L (.long (x <<< (y.toInt64 &&& 63)) :: r) h al)) ∧
  (∀ (G : mG) (d : Nat) (R : Room) (ret : Option Value → mH → mAl → Prop) (k : Nat → mL → List Value → mH → mAl → Prop) (nx a b c : Nat) (v : Int32) (w : Int64) (L : mL) (st : List Value) (h : mH) (al : mAl), wpI G d R ret k (.lshr, nx, a, b, c, v, w) L st h al = (w_li st fun x y r => k nx L (.long (x >>> (y.toInt64 &&& 63)) :: r) h al)) ∧
  (∀ (G : mG) (d : Nat) (R : Room) (ret : Option Value → mH → mAl → Prop) (k : Nat → mL → List Value → mH → mAl → Prop) (nx a b c : Nat) (v : Int32) (w : Int64) (L : mL) (st : List Value) (h : mH) (al : mAl) (c0 : ClassFile.Cond) (i1 : Int), wpI G d R ret k (.ifCond c0 i1, nx, a, b, c, v, w) L st h al = (w_i st fun x r => (mcmp c0 x 0 → k a L r h al) ∧ (¬ mcmp c0 x 0 → k nx L r h al))) ∧
  (∀ (G : mG) (d : Nat) (R : Room) (ret : Option Value → mH → mAl → Prop) (k : Nat → mL → List Value → mH → mAl → Prop) (nx a b c : Nat) (v : Int32) (w : Int64) (L : mL) (st : List Value) (h : mH) (al : mAl) (c0 : ClassFile.Cond) (i1 : Int), wpI G d R ret k (.if_icmp c0 i1, nx, a, b, c, v, w) L st h al = (w_ii st fun x y r => (mcmp c0 x y → k a L r h al) ∧ (¬ mcmp c0 x y → k nx L r h al))) ∧
  (∀ (G : mG) (d : Nat) (R : Room) (ret : Option Value → mH → mAl → Prop) (k : Nat → mL → List Value → mH → mAl → Prop) (nx a b c : Nat) (v : Int32) (w : Int64) (L : mL) (st : List Value) (h : mH) (al : mAl) (i0 : Int), wpI G d R ret k (.goto i0, nx, a, b, c, v, w) L st h al = (k a L st h al)) ∧
  (∀ (G : mG) (d : Nat) (R : Room) (ret : Option Value → mH → mAl → Prop) (k : Nat → mL → List Value → mH → mAl → Prop) (nx a b c : Nat) (v : Int32) (w : Int64) (L : mL) (st : List Value) (h : mH) (al : mAl) (i0 : Nat), wpI G d R ret k (.getfield i0, nx, a, b, c, v, w) L st h al = (w_r st fun x r => w_ob h x a fun fs => w_o fs[b]? fun v => k nx L (v :: r) h al)) ∧
  (∀ (G : mG) (d : Nat) (R : Room) (ret : Option Value → mH → mAl → Prop) (k : Nat → mL → List Value → mH → mAl → Prop) (nx a b c : Nat) (v : Int32) (w : Int64) (L : mL) (st : List Value) (h : mH) (al : mAl) (i0 : Nat), wpI G d R ret k (.putfield i0, nx, a, b, c, v, w) L st h al = (w_rv st fun x v r => w_ob h x a fun fs => b < fs.length ∧ w_fit c v (w_fset fs b v fun fs => k nx L r (mset h x (.inr (a, fs))) al))) ∧
  (∀ (G : mG) (d : Nat) (R : Room) (ret : Option Value → mH → mAl → Prop) (k : Nat → mL → List Value → mH → mAl → Prop) (nx a b c : Nat) (v : Int32) (w : Int64) (L : mL) (st : List Value) (h : mH) (al : mAl), wpI G d R ret k (.iaload, nx, a, b, c, v, w) L st h al = (w_ri st fun x i r => w_ai h x (gC G 0) fun n f => vp_in i n ∧ k nx L (.int (f i.toNatClampNeg) :: r) h al)) ∧
  (∀ (G : mG) (d : Nat) (R : Room) (ret : Option Value → mH → mAl → Prop) (k : Nat → mL → List Value → mH → mAl → Prop) (nx a b c : Nat) (v : Int32) (w : Int64) (L : mL) (st : List Value) (h : mH) (al : mAl), wpI G d R ret k (.baload, nx, a, b, c, v, w) L st h al = (w_ri st fun x i r => w_ai h x (gC G a) fun n f => vp_in i n ∧ k nx L (.int (f i.toNatClampNeg) :: r) h al)) ∧
  (∀ (G : mG) (d : Nat) (R : Room) (ret : Option Value → mH → mAl → Prop) (k : Nat → mL → List Value → mH → mAl → Prop) (nx a b c : Nat) (v : Int32) (w : Int64) (L : mL) (st : List Value) (h : mH) (al : mAl), wpI G d R ret k (.aaload, nx, a, b, c, v, w) L st h al = (w_ri st fun x i r => w_ar h x (gC G a) fun n f => vp_in i n ∧ w_o (f i.toNatClampNeg) fun y => k nx L (.ref y :: r) h al)) ∧
  (∀ (G : mG) (d : Nat) (R : Room) (ret : Option Value → mH → mAl → Prop) (k : Nat → mL → List Value → mH → mAl → Prop) (nx a b c : Nat) (v : Int32) (w : Int64) (L : mL) (st : List Value) (h : mH) (al : mAl), wpI G d R ret k (.iastore, nx, a, b, c, v, w) L st h al = (w_rii st fun x i v r => w_ai h x (gC G 0) fun n f => vp_in i n ∧ k nx L r (mset h x (.inl (gC G 0, n, .inl (upd f i.toNatClampNeg v)))) al)) ∧
  (∀ (G : mG) (d : Nat) (R : Room) (ret : Option Value → mH → mAl → Prop) (k : Nat → mL → List Value → mH → mAl → Prop) (nx a b c : Nat) (v : Int32) (w : Int64) (L : mL) (st : List Value) (h : mH) (al : mAl), wpI G d R ret k (.bastore, nx, a, b, c, v, w) L st h al = (w_rii st fun x i v r => w_ai h x (gC G a) fun n f => vp_in i n ∧ k nx L r (mset h x (.inl (gC G a, n, .inl (upd f i.toNatClampNeg (vp_nar (if a = 1 then .byte else .boolean) v))))) al)) ∧
  (∀ (G : mG) (d : Nat) (R : Room) (ret : Option Value → mH → mAl → Prop) (k : Nat → mL → List Value → mH → mAl → Prop) (nx a b c : Nat) (v : Int32) (w : Int64) (L : mL) (st : List Value) (h : mH) (al : mAl) (i0 : Nat), wpI G d R ret k (.invokevirtual i0, nx, a, b, c, v, w) L st h al = (if a = 999 then False else w_pop b [] st fun As st => w_r st fun x r => w_ob h x c fun _ => 1 ≤ d ∧ mstW r ≤ 8 ∧ MC G (mtab a) (d - 1) 0 0 (.ref x :: As) h al.1 (w_k k nx L r al))) ∧
  (∀ (G : mG) (d : Nat) (R : Room) (ret : Option Value → mH → mAl → Prop) (k : Nat → mL → List Value → mH → mAl → Prop) (nx a b c : Nat) (v : Int32) (w : Int64) (L : mL) (st : List Value) (h : mH) (al : mAl) (i0 : Nat), wpI G d R ret k (.invokestatic i0, nx, a, b, c, v, w) L st h al = (if a = 1000 then w_cp st fun x sp y dp n r => w_ai h x (gC G 0) fun n0 f => w_ai h y (gC G 0) fun n1 g => 1 ≤ d ∧ mstW r ≤ 8 ∧ ¬ sp < 0 ∧ ¬ dp < 0 ∧ ¬ n < 0 ∧ sp.toNatClampNeg + n.toNatClampNeg ≤ n0 ∧ dp.toNatClampNeg + n.toNatClampNeg ≤ n1 ∧ k nx L r (mset h y (.inl (gC G 0, n1, .inl (va_cpy f g sp.toNatClampNeg dp.toNatClampNeg n.toNatClampNeg)))) al else if a = 1010 then w_ii st fun x y r => 1 ≤ d ∧ mstW r ≤ 8 ∧ k nx L (.int (if x < y then y else x) :: r) h al else if a = 1011 then w_ii st fun x y r => 1 ≤ d ∧ mstW r ≤ 8 ∧ k nx L (.int (if y < x then y else x) :: r) h al else if a = 1012 then w_i st fun x r => 1 ≤ d ∧ mstW r ≤ 8 ∧ k nx L (.int (if 0 ≤ x then x else 0 - x) :: r) h al else if a = 1013 then False else w_pop b [] st fun As r => 1 ≤ d ∧ mstW r ≤ 8 ∧ MC G (mtab a) (d - 1) 0 0 As h al.1 (w_k k nx L r al))) ∧
  (∀ (G : mG) (d : Nat) (R : Room) (ret : Option Value → mH → mAl → Prop) (k : Nat → mL → List Value → mH → mAl → Prop) (nx a b c : Nat) (v : Int32) (w : Int64) (L : mL) (st : List Value) (h : mH) (al : mAl) (i0 : Nat), wpI G d R ret k (.invokespecial i0, nx, a, b, c, v, w) L st h al = (if a = 1001 then w_r st fun _ r => 1 ≤ d ∧ mstW r ≤ 8 ∧ k nx L r h al else w_pop b [] st fun As st => w_r st fun x r => 1 ≤ d ∧ mstW r ≤ 8 ∧ al.2.1 + (mCost c).1 ≤ R.cells ∧ al.2.2 + (mCost c).2 ≤ R.slots ∧ MC G (mtab a) (d - 1) (mCost c).1 (mCost c).2 (.ref x :: As) h al.1 (w_k k nx L r (al.1 + (mCost c).1, al.2.1 + (mCost c).1, al.2.2 + (mCost c).2)))) ∧
  (∀ (G : mG) (d : Nat) (R : Room) (ret : Option Value → mH → mAl → Prop) (k : Nat → mL → List Value → mH → mAl → Prop) (nx a b c : Nat) (v : Int32) (w : Int64) (L : mL) (st : List Value) (h : mH) (al : mAl), wpI G d R ret k (.ireturn, nx, a, b, c, v, w) L st h al = (w_ret c st fun x => ret (some (.int x)) h al)) ∧
  (∀ (G : mG) (d : Nat) (R : Room) (ret : Option Value → mH → mAl → Prop) (k : Nat → mL → List Value → mH → mAl → Prop) (nx a b c : Nat) (v : Int32) (w : Int64) (L : mL) (st : List Value) (h : mH) (al : mAl), wpI G d R ret k (.areturn, nx, a, b, c, v, w) L st h al = (w_rtr st fun x => ret (some (.ref x)) h al)) ∧
  (∀ (G : mG) (d : Nat) (R : Room) (ret : Option Value → mH → mAl → Prop) (k : Nat → mL → List Value → mH → mAl → Prop) (nx a b c : Nat) (v : Int32) (w : Int64) (L : mL) (st : List Value) (h : mH) (al : mAl), wpI G d R ret k (.return_, nx, a, b, c, v, w) L st h al = (w_rtv st (ret none h al))) ∧
  (∀ (G : mG) (M : mI) (Z : mZ) (d : Nat) (ret : Option Value → mH → mAl → Prop) (stops : List Nat) (n pc : Nat) (L : mL) (st : List Value) (h : mH) (al : mAl), wpN G M Z d ret stops (n + 1) pc L st h al = if pc ∈ stops then MW G M Z pc L st h al else w_o (mft M pc) fun e => wpI G d Z.1 ret (wpN G M Z d ret stops n) e L st h al) := by
  refine ⟨?_, ?_, ?_, ?_, ?_, ?_, ?_, ?_, ?_, ?_, ?_, ?_, ?_, ?_, ?_, ?_, ?_, ?_, ?_, ?_, ?_, ?_, ?_, ?_, ?_, ?_, ?_, ?_, ?_, ?_, ?_, ?_, ?_, ?_, ?_, ?_, ?_, ?_, ?_, ?_, ?_, ?_, ?_, ?_, ?_, ?_, ?_, ?_, ?_, ?_, ?_, ?_, ?_, ?_, ?_, ?_, ?_, ?_, ?_⟩ <;> (intros; rfl)
theorem EVc : (∀ (k : Nat → mL → List Value → mH → mAl → Prop) (nx : Nat) (L : mL) (r : List Value) (al : mAl) (rv : Option Value) (h' : mH), w_k k nx L r al rv h' = k nx L (rv.toList ++ r) h' al) ∧
  (∀ (x : Int32) (r : List Value) (f : Int32 → List Value → Prop), w_i (.int x :: r) f = f x r) ∧
  (∀ (x y : Int32) (r : List Value) (f : Int32 → Int32 → List Value → Prop), w_ii (.int y :: .int x :: r) f = f x y r) ∧
  (∀ (x : Int64) (r : List Value) (f : Int64 → List Value → Prop), w_l (.long x :: r) f = f x r) ∧
  (∀ (x y : Int64) (r : List Value) (f : Int64 → Int64 → List Value → Prop), w_ll (.long y :: .long x :: r) f = f x y r) ∧
  (∀ (x : Int64) (y : Int32) (r : List Value) (f : Int64 → Int32 → List Value → Prop), w_li (.int y :: .long x :: r) f = f x y r) ∧
  (∀ (x : Nat) (r : List Value) (f : Nat → List Value → Prop), w_r (.ref x :: r) f = f x r) ∧
  (∀ (x : Nat) (i : Int32) (r : List Value) (f : Nat → Int32 → List Value → Prop), w_ri (.int i :: .ref x :: r) f = f x i r) ∧
  (∀ (x : Nat) (i v : Int32) (r : List Value) (f : Nat → Int32 → Int32 → List Value → Prop), w_rii (.int v :: .int i :: .ref x :: r) f = f x i v r) ∧
  (∀ (x : Nat) (v : Value) (r : List Value) (f : Nat → Value → List Value → Prop), w_rv (v :: .ref x :: r) f = f x v r) ∧
  (∀ (x : Nat) (sp : Int32) (y : Nat) (dp n : Int32) (r : List Value) (f : Nat → Int32 → Nat → Int32 → Int32 → List Value → Prop), w_cp (.int n :: .int dp :: .ref y :: .int sp :: .ref x :: r) f = f x sp y dp n r) ∧
  (∀ (x : Int32) (f : Int32 → Prop), w_int (.int x) f = f x) ∧
  (∀ (x : Nat) (f : Nat → Prop), w_ref (.ref x) f = f x) ∧
  (∀ (x : Int64) (f : Int64 → Prop), w_lng (.long x) f = f x) ∧
  (∀ (x : Option Value) (L : mL) (f : Value → Prop), w_o ((x :: L).getD 0 none) f = w_o x f) ∧
  (∀ (n : Nat) (x : Option Value) (L : mL) (f : Value → Prop), w_o ((x :: L).getD (n + 1) none) f = w_o (L.getD n none) f) ∧
  (∀ (x : Value) (L : List Value) (f : Value → Prop), w_o ((x :: L)[0]?) f = f x) ∧
  (∀ (n : Nat) (x : Value) (L : List Value) (f : Value → Prop), w_o ((x :: L)[n + 1]?) f = w_o (L[n]?) f) ∧
  (∀ (x : Value) (f : Value → Prop), w_o (some x) f = f x) ∧
  (∀ (x : Nat) (f : Nat → Prop), w_o (some x) f = f x) ∧
  (∀ (x : Option Value) (L : mL) (v : Option Value) (f : mL → Prop), w_set (x :: L) 0 v f = f (v :: L)) ∧
  (∀ (n : Nat) (x : Option Value) (L : mL) (v : Option Value) (f : mL → Prop), w_set (x :: L) (n + 1) v f = w_set L n v (fun L => f (x :: L))) ∧
  (∀ (x : Value) (L : List Value) (v : Value) (f : List Value → Prop), w_fset (x :: L) 0 v f = f (v :: L)) ∧
  (∀ (n : Nat) (x : Value) (L : List Value) (v : Value) (f : List Value → Prop), w_fset (x :: L) (n + 1) v f = w_fset L n v (fun L => f (x :: L))) ∧
  (∀ (x : Value) (r : List Value) (f : Value → List Value → Prop), w_dup (x :: r) f = (x.category = 1 ∧ f x r)) ∧
  (∀ (x y : Value) (r : List Value) (f : Value → Value → List Value → Prop), w_dup2 (x :: y :: r) f = (x.category = 1 ∧ y.category = 1 ∧ f x y r)) ∧
  (∀ (acc st : List Value) (f : List Value → List Value → Prop), w_pop 0 acc st f = f acc st) ∧
  (∀ (n : Nat) (acc : List Value) (v : Value) (st : List Value) (f : List Value → List Value → Prop), w_pop (n + 1) acc (v :: st) f = w_pop n (v :: acc) st f) ∧
  (∀ (x : Int32) (P : Prop), w_fit 0 (.int x) P = P) ∧
  (∀ (x : Int32) (P : Prop), w_fit 1 (.int x) P = ((x = 0 ∨ x = 1) ∧ P)) ∧
  (∀ (x : Nat) (P : Prop), w_fit 2 (.ref x) P = P) ∧
  (∀ (x : Int32) (f : Int32 → Prop), w_ret 0 [.int x] f = f x) ∧
  (∀ (x : Int32) (f : Int32 → Prop), w_ret 1 [.int x] f = ((x = 0 ∨ x = 1) ∧ f x)) ∧
  (∀ (x : Nat) (f : Nat → Prop), w_rtr [.ref x] f = f x) ∧
  (∀ (P : Prop), w_rtv [] P = P) ∧
  (∀ (x : Int32), (Value.int x).category = 1) ∧
  (∀ (x : Nat), (Value.ref x).category = 1) ∧
  (∀ (x : Int64), (Value.long x).category = 2) ∧
  (∀ (mc ms : Nat) (post : Option Value → mH → Prop) (r : Option Value) (h : mH) (al : mAl), mEnd mc ms post r h al = (al.2.1 = mc ∧ al.2.2 ≤ ms ∧ post r h)) ∧
  (∀ (r : Value), (some r).toList = [r]) ∧
  ((none : Option Value).toList = []) ∧
  (∀ (x : Value) (r : List Value), [x] ++ r = x :: r) ∧
  (∀ (r : List Value), [] ++ r = r) ∧
  (∀ (v : Value) (r : List Value), mstW (v :: r) = v.category + mstW r) ∧
  (mstW [] = 0) ∧
  (∀ (L : mL), mOk1 L 0 = True) ∧
  (∀ (x : Int32) (L : mL), mOk1 (some (.int x) :: L) 1 = True) ∧
  (∀ (x : Nat) (L : mL), mOk1 (some (.ref x) :: L) 1 = True) ∧
  (∀ (L : mL), mOk1 (none :: L) 1 = True) ∧
  (∀ (n : Nat) (x : Option Value) (L : mL), mOk1 (x :: L) (n + 2) = mOk1 L (n + 1)) ∧
  (∀ (x y : Int32), mcmp .eq x y = (x = y)) ∧
  (∀ (x y : Int32), mcmp .ne x y = (¬ x = y)) ∧
  (∀ (x y : Int32), mcmp .lt x y = (x < y)) ∧
  (∀ (x y : Int32), mcmp .ge x y = (y ≤ x)) ∧
  (∀ (x y : Int32), mcmp .gt x y = (y < x)) ∧
  (∀ (x y : Int32), mcmp .le x y = (x ≤ y)) := ⟨by intros; rfl, by intros; rfl, by intros; rfl, by intros; rfl, by intros; rfl, by intros; rfl, by intros; rfl, by intros; rfl, by intros; rfl, by intro x v r f; cases v <;> rfl, by intros; rfl, by intros; rfl, by intros; rfl, by intros; rfl, by intros; rfl, by intros; rfl, by intros; rfl, by intros; rfl, by intros; rfl, by intros; rfl, by intros; rfl, by intros; rfl, by intros; rfl, by intros; rfl, by intros; rfl, by intros; rfl, by intros; rfl, by intros; rfl, by intros; rfl, by intros; rfl, by intros; rfl, by intros; rfl, by intros; rfl, by intros; rfl, by intros; rfl, by intros; rfl, by intros; rfl, by intros; rfl, by intros; rfl, by intros; rfl, by intros; rfl, by intros; rfl, by intros; rfl, by intros; simp [mstW], by intros; rfl, by intros; simp [mOk1, Value.category], by intros; simp [mOk1, Value.category], by intros; simp [mOk1, Value.category], by intros; simp [mOk1, Value.category], by intros; rfl, by intros; rfl, by intros; rfl, by intros; rfl, by intros; rfl, by intros; rfl, by intros; rfl⟩
theorem EV_ob {h : mH} {x c : Nat} {fs : List Value} (e : h x = some (.inr (c, fs))) (f : List Value → Prop) : w_ob h x c f = f fs := by
  unfold w_ob
  rw [e]
  exact propext ⟨fun q => q.2, fun q => ⟨rfl, q⟩⟩
theorem EV_ai {h : mH} {x : Nat} {c : ClassId} {n : Nat} {g : Nat → Int32} (e : h x = some (.inl (c, n, .inl g))) (f : Nat → (Nat → Int32) → Prop) : w_ai h x c f = f n g := by
  unfold w_ai
  rw [e]
  exact propext ⟨fun q => q.2, fun q => ⟨rfl, q⟩⟩
theorem EV_ar {h : mH} {x : Nat} {c : ClassId} {n : Nat} {g : Nat → Option Nat} (e : h x = some (.inl (c, n, .inr (.inr (.inr (.inr g)))))) (f : Nat → (Nat → Option Nat) → Prop) : w_ar h x c f = f n g := by
  unfold w_ar
  rw [e]
  exact propext ⟨fun q => q.2, fun q => ⟨rfl, q⟩⟩
theorem EV_obs {h : mH} {x c : Nat} {fs : List Value} {f : List Value → Prop} : w_ob (mset h x (.inr (c, fs))) x c f = f fs := EV_ob mset_same f
theorem EV_ais {h : mH} {x : Nat} {c : ClassId} {n : Nat} {g : Nat → Int32} {f : Nat → (Nat → Int32) → Prop} : w_ai (mset h x (.inl (c, n, .inl g))) x c f = f n g := EV_ai mset_same f
theorem EV_obn {h : mH} {x y c : Nat} {e : va_E} {f : List Value → Prop} (n : y ≠ x) : w_ob (mset h x e) y c f = w_ob h y c f := by unfold w_ob; rw [mset_ne n]
theorem EV_ain {h : mH} {x y : Nat} {c : ClassId} {e : va_E} {f : Nat → (Nat → Int32) → Prop} (n : y ≠ x) : w_ai (mset h x e) y c f = w_ai h y c f := by unfold w_ai; rw [mset_ne n]
theorem EV_arn {h : mH} {x y : Nat} {c : ClassId} {e : va_E} {f : Nat → (Nat → Option Nat) → Prop} (n : y ≠ x) : w_ar (mset h x e) y c f = w_ar h y c f := by unfold w_ar; rw [mset_ne n]
end
section
/-! what stands where in each method, written by wip/whole/gen.py -/
set_option maxRecDepth 100000 in
set_option maxHeartbeats 4000000 in
theorem ft_X0_init : (∀ f : mE → Prop, w_o (mft MX0_init 0) f = f (.aload_n 0, 1, 0, 0, 0, 0, 0)) ∧
  (∀ f : mE → Prop, w_o (mft MX0_init 1) f = f (.invokespecial 3, 4, 1001, 0, 0, 0, 0)) ∧
  (∀ f : mE → Prop, w_o (mft MX0_init 4) f = f (.aload_n 0, 5, 0, 0, 0, 0, 0)) ∧
  (∀ f : mE → Prop, w_o (mft MX0_init 5) f = f (.bipush 30, 7, 0, 0, 0, (30), 0)) ∧
  (∀ f : mE → Prop, w_o (mft MX0_init 7) f = f (.newarray .int, 9, 0, 0, 0, 0, 0)) ∧
  (∀ f : mE → Prop, w_o (mft MX0_init 9) f = f (.putfield 9, 12, 0, 0, 2, 0, 0)) ∧
  (∀ f : mE → Prop, w_o (mft MX0_init 12) f = f (.aload_n 0, 13, 0, 0, 0, 0, 0)) ∧
  (∀ f : mE → Prop, w_o (mft MX0_init 13) f = f (.bipush 30, 15, 0, 0, 0, (30), 0)) ∧
  (∀ f : mE → Prop, w_o (mft MX0_init 15) f = f (.newarray .int, 17, 0, 0, 0, 0, 0)) ∧
  (∀ f : mE → Prop, w_o (mft MX0_init 17) f = f (.putfield 15, 20, 0, 1, 2, 0, 0)) ∧
  (∀ f : mE → Prop, w_o (mft MX0_init 20) f = f (.aload_n 0, 21, 0, 0, 0, 0, 0)) ∧
  (∀ f : mE → Prop, w_o (mft MX0_init 21) f = f (.bipush 31, 23, 0, 0, 0, (31), 0)) ∧
  (∀ f : mE → Prop, w_o (mft MX0_init 23) f = f (.newarray .int, 25, 0, 0, 0, 0, 0)) ∧
  (∀ f : mE → Prop, w_o (mft MX0_init 25) f = f (.putfield 18, 28, 0, 2, 2, 0, 0)) ∧
  (∀ f : mE → Prop, w_o (mft MX0_init 28) f = f (.aload_n 0, 29, 0, 0, 0, 0, 0)) ∧
  (∀ f : mE → Prop, w_o (mft MX0_init 29) f = f (.iconst 0, 30, 0, 0, 0, (0), 0)) ∧
  (∀ f : mE → Prop, w_o (mft MX0_init 30) f = f (.putfield 21, 33, 0, 3, 0, 0, 0)) ∧
  (∀ f : mE → Prop, w_o (mft MX0_init 33) f = f (.aload_n 0, 34, 0, 0, 0, 0, 0)) ∧
  (∀ f : mE → Prop, w_o (mft MX0_init 34) f = f (.iconst 0, 35, 0, 0, 0, (0), 0)) ∧
  (∀ f : mE → Prop, w_o (mft MX0_init 35) f = f (.putfield 25, 38, 0, 4, 0, 0, 0)) ∧
  (∀ f : mE → Prop, w_o (mft MX0_init 38) f = f (.return_, 39, 0, 0, 0, 0, 0)) := ⟨fun _ => rfl, fun _ => rfl, fun _ => rfl, fun _ => rfl, fun _ => rfl, fun _ => rfl, fun _ => rfl, fun _ => rfl, fun _ => rfl, fun _ => rfl, fun _ => rfl, fun _ => rfl, fun _ => rfl, fun _ => rfl, fun _ => rfl, fun _ => rfl, fun _ => rfl, fun _ => rfl, fun _ => rfl, fun _ => rfl, fun _ => rfl⟩
set_option maxRecDepth 100000 in
theorem gd_X0_init : mGood MX0_init := ⟨by decide +kernel, by decide +kernel, by decide +kernel⟩
set_option maxRecDepth 100000 in
set_option maxHeartbeats 4000000 in
theorem ft_X0_clear : (∀ f : mE → Prop, w_o (mft MX0_clear 0) f = f (.aload_n 0, 1, 0, 0, 0, 0, 0)) ∧
  (∀ f : mE → Prop, w_o (mft MX0_clear 1) f = f (.iconst 0, 2, 0, 0, 0, (0), 0)) ∧
  (∀ f : mE → Prop, w_o (mft MX0_clear 2) f = f (.putfield 21, 5, 0, 3, 0, 0, 0)) ∧
  (∀ f : mE → Prop, w_o (mft MX0_clear 5) f = f (.aload_n 0, 6, 0, 0, 0, 0, 0)) ∧
  (∀ f : mE → Prop, w_o (mft MX0_clear 6) f = f (.iconst 0, 7, 0, 0, 0, (0), 0)) ∧
  (∀ f : mE → Prop, w_o (mft MX0_clear 7) f = f (.putfield 25, 10, 0, 4, 0, 0, 0)) ∧
  (∀ f : mE → Prop, w_o (mft MX0_clear 10) f = f (.aload_n 0, 11, 0, 0, 0, 0, 0)) ∧
  (∀ f : mE → Prop, w_o (mft MX0_clear 11) f = f (.getfield 18, 14, 0, 2, 0, 0, 0)) ∧
  (∀ f : mE → Prop, w_o (mft MX0_clear 14) f = f (.iconst 0, 15, 0, 0, 0, (0), 0)) ∧
  (∀ f : mE → Prop, w_o (mft MX0_clear 15) f = f (.iconst 0, 16, 0, 0, 0, (0), 0)) ∧
  (∀ f : mE → Prop, w_o (mft MX0_clear 16) f = f (.iastore, 17, 0, 0, 0, 0, 0)) ∧
  (∀ f : mE → Prop, w_o (mft MX0_clear 17) f = f (.return_, 18, 0, 0, 0, 0, 0)) := ⟨fun _ => rfl, fun _ => rfl, fun _ => rfl, fun _ => rfl, fun _ => rfl, fun _ => rfl, fun _ => rfl, fun _ => rfl, fun _ => rfl, fun _ => rfl, fun _ => rfl, fun _ => rfl⟩
set_option maxRecDepth 100000 in
theorem gd_X0_clear : mGood MX0_clear := ⟨by decide +kernel, by decide +kernel, by decide +kernel⟩
set_option maxRecDepth 100000 in
set_option maxHeartbeats 4000000 in
theorem ft_X0_become : (∀ f : mE → Prop, w_o (mft MX0_become 0) f = f (.aload_n 1, 1, 1, 0, 0, 0, 0)) ∧
  (∀ f : mE → Prop, w_o (mft MX0_become 1) f = f (.getfield 9, 4, 0, 0, 0, 0, 0)) ∧
  (∀ f : mE → Prop, w_o (mft MX0_become 4) f = f (.iconst 0, 5, 0, 0, 0, (0), 0)) ∧
  (∀ f : mE → Prop, w_o (mft MX0_become 5) f = f (.aload_n 0, 6, 0, 0, 0, 0, 0)) ∧
  (∀ f : mE → Prop, w_o (mft MX0_become 6) f = f (.getfield 9, 9, 0, 0, 0, 0, 0)) ∧
  (∀ f : mE → Prop, w_o (mft MX0_become 9) f = f (.iconst 0, 10, 0, 0, 0, (0), 0)) ∧
  (∀ f : mE → Prop, w_o (mft MX0_become 10) f = f (.bipush 30, 12, 0, 0, 0, (30), 0)) ∧
  (∀ f : mE → Prop, w_o (mft MX0_become 12) f = f (.invokestatic 28, 15, 1000, 0, 0, 0, 0)) ∧
  (∀ f : mE → Prop, w_o (mft MX0_become 15) f = f (.aload_n 1, 16, 1, 0, 0, 0, 0)) ∧
  (∀ f : mE → Prop, w_o (mft MX0_become 16) f = f (.getfield 15, 19, 0, 1, 0, 0, 0)) ∧
  (∀ f : mE → Prop, w_o (mft MX0_become 19) f = f (.iconst 0, 20, 0, 0, 0, (0), 0)) ∧
  (∀ f : mE → Prop, w_o (mft MX0_become 20) f = f (.aload_n 0, 21, 0, 0, 0, 0, 0)) ∧
  (∀ f : mE → Prop, w_o (mft MX0_become 21) f = f (.getfield 15, 24, 0, 1, 0, 0, 0)) ∧
  (∀ f : mE → Prop, w_o (mft MX0_become 24) f = f (.iconst 0, 25, 0, 0, 0, (0), 0)) ∧
  (∀ f : mE → Prop, w_o (mft MX0_become 25) f = f (.bipush 30, 27, 0, 0, 0, (30), 0)) ∧
  (∀ f : mE → Prop, w_o (mft MX0_become 27) f = f (.invokestatic 28, 30, 1000, 0, 0, 0, 0)) ∧
  (∀ f : mE → Prop, w_o (mft MX0_become 30) f = f (.aload_n 1, 31, 1, 0, 0, 0, 0)) ∧
  (∀ f : mE → Prop, w_o (mft MX0_become 31) f = f (.getfield 18, 34, 0, 2, 0, 0, 0)) ∧
  (∀ f : mE → Prop, w_o (mft MX0_become 34) f = f (.iconst 0, 35, 0, 0, 0, (0), 0)) ∧
  (∀ f : mE → Prop, w_o (mft MX0_become 35) f = f (.aload_n 0, 36, 0, 0, 0, 0, 0)) ∧
  (∀ f : mE → Prop, w_o (mft MX0_become 36) f = f (.getfield 18, 39, 0, 2, 0, 0, 0)) ∧
  (∀ f : mE → Prop, w_o (mft MX0_become 39) f = f (.iconst 0, 40, 0, 0, 0, (0), 0)) ∧
  (∀ f : mE → Prop, w_o (mft MX0_become 40) f = f (.bipush 31, 42, 0, 0, 0, (31), 0)) ∧
  (∀ f : mE → Prop, w_o (mft MX0_become 42) f = f (.invokestatic 28, 45, 1000, 0, 0, 0, 0)) ∧
  (∀ f : mE → Prop, w_o (mft MX0_become 45) f = f (.aload_n 0, 46, 0, 0, 0, 0, 0)) ∧
  (∀ f : mE → Prop, w_o (mft MX0_become 46) f = f (.aload_n 1, 47, 1, 0, 0, 0, 0)) ∧
  (∀ f : mE → Prop, w_o (mft MX0_become 47) f = f (.getfield 21, 50, 0, 3, 0, 0, 0)) ∧
  (∀ f : mE → Prop, w_o (mft MX0_become 50) f = f (.putfield 21, 53, 0, 3, 0, 0, 0)) ∧
  (∀ f : mE → Prop, w_o (mft MX0_become 53) f = f (.aload_n 0, 54, 0, 0, 0, 0, 0)) ∧
  (∀ f : mE → Prop, w_o (mft MX0_become 54) f = f (.aload_n 1, 55, 1, 0, 0, 0, 0)) ∧
  (∀ f : mE → Prop, w_o (mft MX0_become 55) f = f (.getfield 25, 58, 0, 4, 0, 0, 0)) ∧
  (∀ f : mE → Prop, w_o (mft MX0_become 58) f = f (.putfield 25, 61, 0, 4, 0, 0, 0)) ∧
  (∀ f : mE → Prop, w_o (mft MX0_become 61) f = f (.return_, 62, 0, 0, 0, 0, 0)) := ⟨fun _ => rfl, fun _ => rfl, fun _ => rfl, fun _ => rfl, fun _ => rfl, fun _ => rfl, fun _ => rfl, fun _ => rfl, fun _ => rfl, fun _ => rfl, fun _ => rfl, fun _ => rfl, fun _ => rfl, fun _ => rfl, fun _ => rfl, fun _ => rfl, fun _ => rfl, fun _ => rfl, fun _ => rfl, fun _ => rfl, fun _ => rfl, fun _ => rfl, fun _ => rfl, fun _ => rfl, fun _ => rfl, fun _ => rfl, fun _ => rfl, fun _ => rfl, fun _ => rfl, fun _ => rfl, fun _ => rfl, fun _ => rfl, fun _ => rfl⟩
set_option maxRecDepth 100000 in
theorem gd_X0_become : mGood MX0_become := ⟨by decide +kernel, by decide +kernel, by decide +kernel⟩
set_option maxRecDepth 100000 in
set_option maxHeartbeats 4000000 in
theorem ft_X0_isWhole : (∀ f : mE → Prop, w_o (mft MX0_isWhole 0) f = f (.aload_n 0, 1, 0, 0, 0, 0, 0)) ∧
  (∀ f : mE → Prop, w_o (mft MX0_isWhole 1) f = f (.getfield 21, 4, 0, 3, 0, 0, 0)) ∧
  (∀ f : mE → Prop, w_o (mft MX0_isWhole 4) f = f (.ifCond .le 19, 7, 23, 0, 0, 0, 0)) ∧
  (∀ f : mE → Prop, w_o (mft MX0_isWhole 7) f = f (.aload_n 0, 8, 0, 0, 0, 0, 0)) ∧
  (∀ f : mE → Prop, w_o (mft MX0_isWhole 8) f = f (.getfield 18, 11, 0, 2, 0, 0, 0)) ∧
  (∀ f : mE → Prop, w_o (mft MX0_isWhole 11) f = f (.aload_n 0, 12, 0, 0, 0, 0, 0)) ∧
  (∀ f : mE → Prop, w_o (mft MX0_isWhole 12) f = f (.getfield 21, 15, 0, 3, 0, 0, 0)) ∧
  (∀ f : mE → Prop, w_o (mft MX0_isWhole 15) f = f (.iaload, 16, 0, 0, 0, 0, 0)) ∧
  (∀ f : mE → Prop, w_o (mft MX0_isWhole 16) f = f (.ifCond .ne 7, 19, 23, 0, 0, 0, 0)) ∧
  (∀ f : mE → Prop, w_o (mft MX0_isWhole 19) f = f (.iconst 1, 20, 0, 0, 0, (1), 0)) ∧
  (∀ f : mE → Prop, w_o (mft MX0_isWhole 20) f = f (.goto 4, 23, 24, 0, 0, 0, 0)) ∧
  (∀ f : mE → Prop, w_o (mft MX0_isWhole 23) f = f (.iconst 0, 24, 0, 0, 0, (0), 0)) ∧
  (∀ f : mE → Prop, w_o (mft MX0_isWhole 24) f = f (.ireturn, 25, 0, 0, 1, 0, 0)) := ⟨fun _ => rfl, fun _ => rfl, fun _ => rfl, fun _ => rfl, fun _ => rfl, fun _ => rfl, fun _ => rfl, fun _ => rfl, fun _ => rfl, fun _ => rfl, fun _ => rfl, fun _ => rfl, fun _ => rfl⟩
set_option maxRecDepth 100000 in
theorem gd_X0_isWhole : mGood MX0_isWhole := ⟨by decide +kernel, by decide +kernel, by decide +kernel⟩
set_option maxRecDepth 100000 in
set_option maxHeartbeats 4000000 in
theorem ft_X0_hasRoomFor : (∀ f : mE → Prop, w_o (mft MX0_hasRoomFor 0) f = f (.aload_n 0, 1, 0, 0, 0, 0, 0)) ∧
  (∀ f : mE → Prop, w_o (mft MX0_hasRoomFor 1) f = f (.getfield 21, 4, 0, 3, 0, 0, 0)) ∧
  (∀ f : mE → Prop, w_o (mft MX0_hasRoomFor 4) f = f (.bipush 30, 6, 0, 0, 0, (30), 0)) ∧
  (∀ f : mE → Prop, w_o (mft MX0_hasRoomFor 6) f = f (.if_icmp .lt 5, 9, 11, 0, 0, 0, 0)) ∧
  (∀ f : mE → Prop, w_o (mft MX0_hasRoomFor 9) f = f (.iconst 0, 10, 0, 0, 0, (0), 0)) ∧
  (∀ f : mE → Prop, w_o (mft MX0_hasRoomFor 10) f = f (.ireturn, 11, 0, 0, 1, 0, 0)) ∧
  (∀ f : mE → Prop, w_o (mft MX0_hasRoomFor 11) f = f (.iload_n 1, 12, 1, 0, 0, 0, 0)) ∧
  (∀ f : mE → Prop, w_o (mft MX0_hasRoomFor 12) f = f (.iconst 1, 13, 0, 0, 0, (1), 0)) ∧
  (∀ f : mE → Prop, w_o (mft MX0_hasRoomFor 13) f = f (.if_icmp .ne 18, 16, 31, 0, 0, 0, 0)) ∧
  (∀ f : mE → Prop, w_o (mft MX0_hasRoomFor 16) f = f (.aload_n 0, 17, 0, 0, 0, 0, 0)) ∧
  (∀ f : mE → Prop, w_o (mft MX0_hasRoomFor 17) f = f (.getfield 25, 20, 0, 4, 0, 0, 0)) ∧
  (∀ f : mE → Prop, w_o (mft MX0_hasRoomFor 20) f = f (.bipush 12, 22, 0, 0, 0, (12), 0)) ∧
  (∀ f : mE → Prop, w_o (mft MX0_hasRoomFor 22) f = f (.if_icmp .ge 7, 25, 29, 0, 0, 0, 0)) ∧
  (∀ f : mE → Prop, w_o (mft MX0_hasRoomFor 25) f = f (.iconst 1, 26, 0, 0, 0, (1), 0)) ∧
  (∀ f : mE → Prop, w_o (mft MX0_hasRoomFor 26) f = f (.goto 4, 29, 30, 0, 0, 0, 0)) ∧
  (∀ f : mE → Prop, w_o (mft MX0_hasRoomFor 29) f = f (.iconst 0, 30, 0, 0, 0, (0), 0)) ∧
  (∀ f : mE → Prop, w_o (mft MX0_hasRoomFor 30) f = f (.ireturn, 31, 0, 0, 1, 0, 0)) ∧
  (∀ f : mE → Prop, w_o (mft MX0_hasRoomFor 31) f = f (.iload_n 1, 32, 1, 0, 0, 0, 0)) ∧
  (∀ f : mE → Prop, w_o (mft MX0_hasRoomFor 32) f = f (.ifCond .ne 19, 35, 51, 0, 0, 0, 0)) ∧
  (∀ f : mE → Prop, w_o (mft MX0_hasRoomFor 35) f = f (.aload_n 0, 36, 0, 0, 0, 0, 0)) ∧
  (∀ f : mE → Prop, w_o (mft MX0_hasRoomFor 36) f = f (.getfield 18, 39, 0, 2, 0, 0, 0)) ∧
  (∀ f : mE → Prop, w_o (mft MX0_hasRoomFor 39) f = f (.aload_n 0, 40, 0, 0, 0, 0, 0)) ∧
  (∀ f : mE → Prop, w_o (mft MX0_hasRoomFor 40) f = f (.getfield 21, 43, 0, 3, 0, 0, 0)) ∧
  (∀ f : mE → Prop, w_o (mft MX0_hasRoomFor 43) f = f (.iaload, 44, 0, 0, 0, 0, 0)) ∧
  (∀ f : mE → Prop, w_o (mft MX0_hasRoomFor 44) f = f (.iconst 2, 45, 0, 0, 0, (2), 0)) ∧
  (∀ f : mE → Prop, w_o (mft MX0_hasRoomFor 45) f = f (.iadd, 46, 0, 0, 0, 0, 0)) ∧
  (∀ f : mE → Prop, w_o (mft MX0_hasRoomFor 46) f = f (.bipush 10, 48, 0, 0, 0, (10), 0)) ∧
  (∀ f : mE → Prop, w_o (mft MX0_hasRoomFor 48) f = f (.if_icmp .gt 7, 51, 55, 0, 0, 0, 0)) ∧
  (∀ f : mE → Prop, w_o (mft MX0_hasRoomFor 51) f = f (.iconst 1, 52, 0, 0, 0, (1), 0)) ∧
  (∀ f : mE → Prop, w_o (mft MX0_hasRoomFor 52) f = f (.goto 4, 55, 56, 0, 0, 0, 0)) ∧
  (∀ f : mE → Prop, w_o (mft MX0_hasRoomFor 55) f = f (.iconst 0, 56, 0, 0, 0, (0), 0)) ∧
  (∀ f : mE → Prop, w_o (mft MX0_hasRoomFor 56) f = f (.ireturn, 57, 0, 0, 1, 0, 0)) := ⟨fun _ => rfl, fun _ => rfl, fun _ => rfl, fun _ => rfl, fun _ => rfl, fun _ => rfl, fun _ => rfl, fun _ => rfl, fun _ => rfl, fun _ => rfl, fun _ => rfl, fun _ => rfl, fun _ => rfl, fun _ => rfl, fun _ => rfl, fun _ => rfl, fun _ => rfl, fun _ => rfl, fun _ => rfl, fun _ => rfl, fun _ => rfl, fun _ => rfl, fun _ => rfl, fun _ => rfl, fun _ => rfl, fun _ => rfl, fun _ => rfl, fun _ => rfl, fun _ => rfl, fun _ => rfl, fun _ => rfl, fun _ => rfl⟩
set_option maxRecDepth 100000 in
theorem gd_X0_hasRoomFor : mGood MX0_hasRoomFor := ⟨by decide +kernel, by decide +kernel, by decide +kernel⟩
set_option maxRecDepth 100000 in
set_option maxHeartbeats 4000000 in
theorem ft_X0_hasStrandsFor : (∀ f : mE → Prop, w_o (mft MX0_hasStrandsFor 0) f = f (.iload_n 1, 1, 1, 0, 0, 0, 0)) ∧
  (∀ f : mE → Prop, w_o (mft MX0_hasStrandsFor 1) f = f (.ifCond .ne 15, 4, 16, 0, 0, 0, 0)) ∧
  (∀ f : mE → Prop, w_o (mft MX0_hasStrandsFor 4) f = f (.aload_n 0, 5, 0, 0, 0, 0, 0)) ∧
  (∀ f : mE → Prop, w_o (mft MX0_hasStrandsFor 5) f = f (.getfield 18, 8, 0, 2, 0, 0, 0)) ∧
  (∀ f : mE → Prop, w_o (mft MX0_hasStrandsFor 8) f = f (.aload_n 0, 9, 0, 0, 0, 0, 0)) ∧
  (∀ f : mE → Prop, w_o (mft MX0_hasStrandsFor 9) f = f (.getfield 21, 12, 0, 3, 0, 0, 0)) ∧
  (∀ f : mE → Prop, w_o (mft MX0_hasStrandsFor 12) f = f (.iaload, 13, 0, 0, 0, 0, 0)) ∧
  (∀ f : mE → Prop, w_o (mft MX0_hasStrandsFor 13) f = f (.goto 14, 16, 27, 0, 0, 0, 0)) ∧
  (∀ f : mE → Prop, w_o (mft MX0_hasStrandsFor 16) f = f (.aload_n 0, 17, 0, 0, 0, 0, 0)) ∧
  (∀ f : mE → Prop, w_o (mft MX0_hasStrandsFor 17) f = f (.getfield 18, 20, 0, 2, 0, 0, 0)) ∧
  (∀ f : mE → Prop, w_o (mft MX0_hasStrandsFor 20) f = f (.aload_n 0, 21, 0, 0, 0, 0, 0)) ∧
  (∀ f : mE → Prop, w_o (mft MX0_hasStrandsFor 21) f = f (.getfield 21, 24, 0, 3, 0, 0, 0)) ∧
  (∀ f : mE → Prop, w_o (mft MX0_hasStrandsFor 24) f = f (.iaload, 25, 0, 0, 0, 0, 0)) ∧
  (∀ f : mE → Prop, w_o (mft MX0_hasStrandsFor 25) f = f (.iconst 2, 26, 0, 0, 0, (2), 0)) ∧
  (∀ f : mE → Prop, w_o (mft MX0_hasStrandsFor 26) f = f (.isub, 27, 0, 0, 0, 0, 0)) ∧
  (∀ f : mE → Prop, w_o (mft MX0_hasStrandsFor 27) f = f (.istore_n 3, 28, 3, 0, 0, 0, 0)) ∧
  (∀ f : mE → Prop, w_o (mft MX0_hasStrandsFor 28) f = f (.iload_n 2, 29, 2, 0, 0, 0, 0)) ∧
  (∀ f : mE → Prop, w_o (mft MX0_hasStrandsFor 29) f = f (.ifCond .lt 12, 32, 41, 0, 0, 0, 0)) ∧
  (∀ f : mE → Prop, w_o (mft MX0_hasStrandsFor 32) f = f (.iload_n 2, 33, 2, 0, 0, 0, 0)) ∧
  (∀ f : mE → Prop, w_o (mft MX0_hasStrandsFor 33) f = f (.iload_n 3, 34, 3, 0, 0, 0, 0)) ∧
  (∀ f : mE → Prop, w_o (mft MX0_hasStrandsFor 34) f = f (.if_icmp .gt 7, 37, 41, 0, 0, 0, 0)) ∧
  (∀ f : mE → Prop, w_o (mft MX0_hasStrandsFor 37) f = f (.iconst 1, 38, 0, 0, 0, (1), 0)) ∧
  (∀ f : mE → Prop, w_o (mft MX0_hasStrandsFor 38) f = f (.goto 4, 41, 42, 0, 0, 0, 0)) ∧
  (∀ f : mE → Prop, w_o (mft MX0_hasStrandsFor 41) f = f (.iconst 0, 42, 0, 0, 0, (0), 0)) ∧
  (∀ f : mE → Prop, w_o (mft MX0_hasStrandsFor 42) f = f (.ireturn, 43, 0, 0, 1, 0, 0)) := ⟨fun _ => rfl, fun _ => rfl, fun _ => rfl, fun _ => rfl, fun _ => rfl, fun _ => rfl, fun _ => rfl, fun _ => rfl, fun _ => rfl, fun _ => rfl, fun _ => rfl, fun _ => rfl, fun _ => rfl, fun _ => rfl, fun _ => rfl, fun _ => rfl, fun _ => rfl, fun _ => rfl, fun _ => rfl, fun _ => rfl, fun _ => rfl, fun _ => rfl, fun _ => rfl, fun _ => rfl, fun _ => rfl⟩
set_option maxRecDepth 100000 in
theorem gd_X0_hasStrandsFor : mGood MX0_hasStrandsFor := ⟨by decide +kernel, by decide +kernel, by decide +kernel⟩
set_option maxRecDepth 100000 in
set_option maxHeartbeats 4000000 in
theorem ft_X0_append : (∀ f : mE → Prop, w_o (mft MX0_append 0) f = f (.iload_n 1, 1, 1, 0, 0, 0, 0)) ∧
  (∀ f : mE → Prop, w_o (mft MX0_append 1) f = f (.ifCond .lt 25, 4, 26, 0, 0, 0, 0)) ∧
  (∀ f : mE → Prop, w_o (mft MX0_append 4) f = f (.iload_n 1, 5, 1, 0, 0, 0, 0)) ∧
  (∀ f : mE → Prop, w_o (mft MX0_append 5) f = f (.iconst 2, 6, 0, 0, 0, (2), 0)) ∧
  (∀ f : mE → Prop, w_o (mft MX0_append 6) f = f (.if_icmp .gt 20, 9, 26, 0, 0, 0, 0)) ∧
  (∀ f : mE → Prop, w_o (mft MX0_append 9) f = f (.aload_n 0, 10, 0, 0, 0, 0, 0)) ∧
  (∀ f : mE → Prop, w_o (mft MX0_append 10) f = f (.iload_n 1, 11, 1, 0, 0, 0, 0)) ∧
  (∀ f : mE → Prop, w_o (mft MX0_append 11) f = f (.invokevirtual 34, 14, 4, 1, 0, 0, 0)) ∧
  (∀ f : mE → Prop, w_o (mft MX0_append 14) f = f (.ifCond .eq 12, 17, 26, 0, 0, 0, 0)) ∧
  (∀ f : mE → Prop, w_o (mft MX0_append 17) f = f (.aload_n 0, 18, 0, 0, 0, 0, 0)) ∧
  (∀ f : mE → Prop, w_o (mft MX0_append 18) f = f (.iload_n 1, 19, 1, 0, 0, 0, 0)) ∧
  (∀ f : mE → Prop, w_o (mft MX0_append 19) f = f (.iload_n 2, 20, 2, 0, 0, 0, 0)) ∧
  (∀ f : mE → Prop, w_o (mft MX0_append 20) f = f (.invokevirtual 38, 23, 5, 2, 0, 0, 0)) ∧
  (∀ f : mE → Prop, w_o (mft MX0_append 23) f = f (.ifCond .ne 5, 26, 28, 0, 0, 0, 0)) ∧
  (∀ f : mE → Prop, w_o (mft MX0_append 26) f = f (.iconst 0, 27, 0, 0, 0, (0), 0)) ∧
  (∀ f : mE → Prop, w_o (mft MX0_append 27) f = f (.ireturn, 28, 0, 0, 1, 0, 0)) ∧
  (∀ f : mE → Prop, w_o (mft MX0_append 28) f = f (.aload_n 0, 29, 0, 0, 0, 0, 0)) ∧
  (∀ f : mE → Prop, w_o (mft MX0_append 29) f = f (.getfield 9, 32, 0, 0, 0, 0, 0)) ∧
  (∀ f : mE → Prop, w_o (mft MX0_append 32) f = f (.aload_n 0, 33, 0, 0, 0, 0, 0)) ∧
  (∀ f : mE → Prop, w_o (mft MX0_append 33) f = f (.getfield 21, 36, 0, 3, 0, 0, 0)) ∧
  (∀ f : mE → Prop, w_o (mft MX0_append 36) f = f (.iload_n 1, 37, 1, 0, 0, 0, 0)) ∧
  (∀ f : mE → Prop, w_o (mft MX0_append 37) f = f (.iastore, 38, 0, 0, 0, 0, 0)) ∧
  (∀ f : mE → Prop, w_o (mft MX0_append 38) f = f (.aload_n 0, 39, 0, 0, 0, 0, 0)) ∧
  (∀ f : mE → Prop, w_o (mft MX0_append 39) f = f (.getfield 15, 42, 0, 1, 0, 0, 0)) ∧
  (∀ f : mE → Prop, w_o (mft MX0_append 42) f = f (.aload_n 0, 43, 0, 0, 0, 0, 0)) ∧
  (∀ f : mE → Prop, w_o (mft MX0_append 43) f = f (.getfield 21, 46, 0, 3, 0, 0, 0)) ∧
  (∀ f : mE → Prop, w_o (mft MX0_append 46) f = f (.iload_n 2, 47, 2, 0, 0, 0, 0)) ∧
  (∀ f : mE → Prop, w_o (mft MX0_append 47) f = f (.iastore, 48, 0, 0, 0, 0, 0)) ∧
  (∀ f : mE → Prop, w_o (mft MX0_append 48) f = f (.aload_n 0, 49, 0, 0, 0, 0, 0)) ∧
  (∀ f : mE → Prop, w_o (mft MX0_append 49) f = f (.getfield 18, 52, 0, 2, 0, 0, 0)) ∧
  (∀ f : mE → Prop, w_o (mft MX0_append 52) f = f (.aload_n 0, 53, 0, 0, 0, 0, 0)) ∧
  (∀ f : mE → Prop, w_o (mft MX0_append 53) f = f (.getfield 21, 56, 0, 3, 0, 0, 0)) ∧
  (∀ f : mE → Prop, w_o (mft MX0_append 56) f = f (.iconst 1, 57, 0, 0, 0, (1), 0)) ∧
  (∀ f : mE → Prop, w_o (mft MX0_append 57) f = f (.iadd, 58, 0, 0, 0, 0, 0)) ∧
  (∀ f : mE → Prop, w_o (mft MX0_append 58) f = f (.aload_n 0, 59, 0, 0, 0, 0, 0)) ∧
  (∀ f : mE → Prop, w_o (mft MX0_append 59) f = f (.getfield 18, 62, 0, 2, 0, 0, 0)) ∧
  (∀ f : mE → Prop, w_o (mft MX0_append 62) f = f (.aload_n 0, 63, 0, 0, 0, 0, 0)) ∧
  (∀ f : mE → Prop, w_o (mft MX0_append 63) f = f (.getfield 21, 66, 0, 3, 0, 0, 0)) ∧
  (∀ f : mE → Prop, w_o (mft MX0_append 66) f = f (.iaload, 67, 0, 0, 0, 0, 0)) ∧
  (∀ f : mE → Prop, w_o (mft MX0_append 67) f = f (.iload_n 1, 68, 1, 0, 0, 0, 0)) ∧
  (∀ f : mE → Prop, w_o (mft MX0_append 68) f = f (.invokestatic 42, 71, 11, 1, 0, 0, 0)) ∧
  (∀ f : mE → Prop, w_o (mft MX0_append 71) f = f (.iadd, 72, 0, 0, 0, 0, 0)) ∧
  (∀ f : mE → Prop, w_o (mft MX0_append 72) f = f (.iastore, 73, 0, 0, 0, 0, 0)) ∧
  (∀ f : mE → Prop, w_o (mft MX0_append 73) f = f (.aload_n 0, 74, 0, 0, 0, 0, 0)) ∧
  (∀ f : mE → Prop, w_o (mft MX0_append 74) f = f (.dup, 75, 0, 0, 0, 0, 0)) ∧
  (∀ f : mE → Prop, w_o (mft MX0_append 75) f = f (.getfield 25, 78, 0, 4, 0, 0, 0)) ∧
  (∀ f : mE → Prop, w_o (mft MX0_append 78) f = f (.iload_n 1, 79, 1, 0, 0, 0, 0)) ∧
  (∀ f : mE → Prop, w_o (mft MX0_append 79) f = f (.iconst 1, 80, 0, 0, 0, (1), 0)) ∧
  (∀ f : mE → Prop, w_o (mft MX0_append 80) f = f (.if_icmp .ne 7, 83, 87, 0, 0, 0, 0)) ∧
  (∀ f : mE → Prop, w_o (mft MX0_append 83) f = f (.iconst 1, 84, 0, 0, 0, (1), 0)) ∧
  (∀ f : mE → Prop, w_o (mft MX0_append 84) f = f (.goto 4, 87, 88, 0, 0, 0, 0)) ∧
  (∀ f : mE → Prop, w_o (mft MX0_append 87) f = f (.iconst 0, 88, 0, 0, 0, (0), 0)) ∧
  (∀ f : mE → Prop, w_o (mft MX0_append 88) f = f (.iadd, 89, 0, 0, 0, 0, 0)) ∧
  (∀ f : mE → Prop, w_o (mft MX0_append 89) f = f (.putfield 25, 92, 0, 4, 0, 0, 0)) ∧
  (∀ f : mE → Prop, w_o (mft MX0_append 92) f = f (.aload_n 0, 93, 0, 0, 0, 0, 0)) ∧
  (∀ f : mE → Prop, w_o (mft MX0_append 93) f = f (.dup, 94, 0, 0, 0, 0, 0)) ∧
  (∀ f : mE → Prop, w_o (mft MX0_append 94) f = f (.getfield 21, 97, 0, 3, 0, 0, 0)) ∧
  (∀ f : mE → Prop, w_o (mft MX0_append 97) f = f (.iconst 1, 98, 0, 0, 0, (1), 0)) ∧
  (∀ f : mE → Prop, w_o (mft MX0_append 98) f = f (.iadd, 99, 0, 0, 0, 0, 0)) ∧
  (∀ f : mE → Prop, w_o (mft MX0_append 99) f = f (.putfield 21, 102, 0, 3, 0, 0, 0)) ∧
  (∀ f : mE → Prop, w_o (mft MX0_append 102) f = f (.iconst 1, 103, 0, 0, 0, (1), 0)) ∧
  (∀ f : mE → Prop, w_o (mft MX0_append 103) f = f (.ireturn, 104, 0, 0, 1, 0, 0)) := ⟨fun _ => rfl, fun _ => rfl, fun _ => rfl, fun _ => rfl, fun _ => rfl, fun _ => rfl, fun _ => rfl, fun _ => rfl, fun _ => rfl, fun _ => rfl, fun _ => rfl, fun _ => rfl, fun _ => rfl, fun _ => rfl, fun _ => rfl, fun _ => rfl, fun _ => rfl, fun _ => rfl, fun _ => rfl, fun _ => rfl, fun _ => rfl, fun _ => rfl, fun _ => rfl, fun _ => rfl, fun _ => rfl, fun _ => rfl, fun _ => rfl, fun _ => rfl, fun _ => rfl, fun _ => rfl, fun _ => rfl, fun _ => rfl, fun _ => rfl, fun _ => rfl, fun _ => rfl, fun _ => rfl, fun _ => rfl, fun _ => rfl, fun _ => rfl, fun _ => rfl, fun _ => rfl, fun _ => rfl, fun _ => rfl, fun _ => rfl, fun _ => rfl, fun _ => rfl, fun _ => rfl, fun _ => rfl, fun _ => rfl, fun _ => rfl, fun _ => rfl, fun _ => rfl, fun _ => rfl, fun _ => rfl, fun _ => rfl, fun _ => rfl, fun _ => rfl, fun _ => rfl, fun _ => rfl, fun _ => rfl, fun _ => rfl, fun _ => rfl⟩
set_option maxRecDepth 100000 in
theorem gd_X0_append : mGood MX0_append := ⟨by decide +kernel, by decide +kernel, by decide +kernel⟩
set_option maxRecDepth 100000 in
set_option maxHeartbeats 4000000 in
theorem ft_X0_appendRange : (∀ f : mE → Prop, w_o (mft MX0_appendRange 0) f = f (.iload_n 2, 1, 2, 0, 0, 0, 0)) ∧
  (∀ f : mE → Prop, w_o (mft MX0_appendRange 1) f = f (.istore 4, 3, 4, 0, 0, 0, 0)) ∧
  (∀ f : mE → Prop, w_o (mft MX0_appendRange 3) f = f (.iload 4, 5, 4, 0, 0, 0, 0)) ∧
  (∀ f : mE → Prop, w_o (mft MX0_appendRange 5) f = f (.iload_n 3, 6, 3, 0, 0, 0, 0)) ∧
  (∀ f : mE → Prop, w_o (mft MX0_appendRange 6) f = f (.if_icmp .ge 32, 9, 38, 0, 0, 0, 0)) ∧
  (∀ f : mE → Prop, w_o (mft MX0_appendRange 9) f = f (.aload_n 0, 10, 0, 0, 0, 0, 0)) ∧
  (∀ f : mE → Prop, w_o (mft MX0_appendRange 10) f = f (.aload_n 1, 11, 1, 0, 0, 0, 0)) ∧
  (∀ f : mE → Prop, w_o (mft MX0_appendRange 11) f = f (.getfield 9, 14, 0, 0, 0, 0, 0)) ∧
  (∀ f : mE → Prop, w_o (mft MX0_appendRange 14) f = f (.iload 4, 16, 4, 0, 0, 0, 0)) ∧
  (∀ f : mE → Prop, w_o (mft MX0_appendRange 16) f = f (.iaload, 17, 0, 0, 0, 0, 0)) ∧
  (∀ f : mE → Prop, w_o (mft MX0_appendRange 17) f = f (.aload_n 1, 18, 1, 0, 0, 0, 0)) ∧
  (∀ f : mE → Prop, w_o (mft MX0_appendRange 18) f = f (.getfield 15, 21, 0, 1, 0, 0, 0)) ∧
  (∀ f : mE → Prop, w_o (mft MX0_appendRange 21) f = f (.iload 4, 23, 4, 0, 0, 0, 0)) ∧
  (∀ f : mE → Prop, w_o (mft MX0_appendRange 23) f = f (.iaload, 24, 0, 0, 0, 0, 0)) ∧
  (∀ f : mE → Prop, w_o (mft MX0_appendRange 24) f = f (.invokevirtual 46, 27, 6, 2, 0, 0, 0)) ∧
  (∀ f : mE → Prop, w_o (mft MX0_appendRange 27) f = f (.ifCond .ne 5, 30, 32, 0, 0, 0, 0)) ∧
  (∀ f : mE → Prop, w_o (mft MX0_appendRange 30) f = f (.iconst 0, 31, 0, 0, 0, (0), 0)) ∧
  (∀ f : mE → Prop, w_o (mft MX0_appendRange 31) f = f (.ireturn, 32, 0, 0, 1, 0, 0)) ∧
  (∀ f : mE → Prop, w_o (mft MX0_appendRange 32) f = f (.iinc 4 1, 35, 4, 0, 0, (1), 0)) ∧
  (∀ f : mE → Prop, w_o (mft MX0_appendRange 35) f = f (.goto (-32), 38, 3, 0, 0, 0, 0)) ∧
  (∀ f : mE → Prop, w_o (mft MX0_appendRange 38) f = f (.iconst 1, 39, 0, 0, 0, (1), 0)) ∧
  (∀ f : mE → Prop, w_o (mft MX0_appendRange 39) f = f (.ireturn, 40, 0, 0, 1, 0, 0)) := ⟨fun _ => rfl, fun _ => rfl, fun _ => rfl, fun _ => rfl, fun _ => rfl, fun _ => rfl, fun _ => rfl, fun _ => rfl, fun _ => rfl, fun _ => rfl, fun _ => rfl, fun _ => rfl, fun _ => rfl, fun _ => rfl, fun _ => rfl, fun _ => rfl, fun _ => rfl, fun _ => rfl, fun _ => rfl, fun _ => rfl, fun _ => rfl, fun _ => rfl⟩
set_option maxRecDepth 100000 in
theorem gd_X0_appendRange : mGood MX0_appendRange := ⟨by decide +kernel, by decide +kernel, by decide +kernel⟩
set_option maxRecDepth 100000 in
set_option maxHeartbeats 4000000 in
theorem ft_X0_appendPatch : (∀ f : mE → Prop, w_o (mft MX0_appendPatch 0) f = f (.iconst 0, 1, 0, 0, 0, (0), 0)) ∧
  (∀ f : mE → Prop, w_o (mft MX0_appendPatch 1) f = f (.istore_n 2, 2, 2, 0, 0, 0, 0)) ∧
  (∀ f : mE → Prop, w_o (mft MX0_appendPatch 2) f = f (.iload_n 2, 3, 2, 0, 0, 0, 0)) ∧
  (∀ f : mE → Prop, w_o (mft MX0_appendPatch 3) f = f (.aload_n 1, 4, 1, 0, 0, 0, 0)) ∧
  (∀ f : mE → Prop, w_o (mft MX0_appendPatch 4) f = f (.getfield 49, 7, 1, 2, 0, 0, 0)) ∧
  (∀ f : mE → Prop, w_o (mft MX0_appendPatch 7) f = f (.if_icmp .ge 30, 10, 37, 0, 0, 0, 0)) ∧
  (∀ f : mE → Prop, w_o (mft MX0_appendPatch 10) f = f (.aload_n 0, 11, 0, 0, 0, 0, 0)) ∧
  (∀ f : mE → Prop, w_o (mft MX0_appendPatch 11) f = f (.aload_n 1, 12, 1, 0, 0, 0, 0)) ∧
  (∀ f : mE → Prop, w_o (mft MX0_appendPatch 12) f = f (.getfield 52, 15, 1, 0, 0, 0, 0)) ∧
  (∀ f : mE → Prop, w_o (mft MX0_appendPatch 15) f = f (.iload_n 2, 16, 2, 0, 0, 0, 0)) ∧
  (∀ f : mE → Prop, w_o (mft MX0_appendPatch 16) f = f (.iaload, 17, 0, 0, 0, 0, 0)) ∧
  (∀ f : mE → Prop, w_o (mft MX0_appendPatch 17) f = f (.aload_n 1, 18, 1, 0, 0, 0, 0)) ∧
  (∀ f : mE → Prop, w_o (mft MX0_appendPatch 18) f = f (.getfield 53, 21, 1, 1, 0, 0, 0)) ∧
  (∀ f : mE → Prop, w_o (mft MX0_appendPatch 21) f = f (.iload_n 2, 22, 2, 0, 0, 0, 0)) ∧
  (∀ f : mE → Prop, w_o (mft MX0_appendPatch 22) f = f (.iaload, 23, 0, 0, 0, 0, 0)) ∧
  (∀ f : mE → Prop, w_o (mft MX0_appendPatch 23) f = f (.invokevirtual 46, 26, 6, 2, 0, 0, 0)) ∧
  (∀ f : mE → Prop, w_o (mft MX0_appendPatch 26) f = f (.ifCond .ne 5, 29, 31, 0, 0, 0, 0)) ∧
  (∀ f : mE → Prop, w_o (mft MX0_appendPatch 29) f = f (.iconst 0, 30, 0, 0, 0, (0), 0)) ∧
  (∀ f : mE → Prop, w_o (mft MX0_appendPatch 30) f = f (.ireturn, 31, 0, 0, 1, 0, 0)) ∧
  (∀ f : mE → Prop, w_o (mft MX0_appendPatch 31) f = f (.iinc 2 1, 34, 2, 0, 0, (1), 0)) ∧
  (∀ f : mE → Prop, w_o (mft MX0_appendPatch 34) f = f (.goto (-32), 37, 2, 0, 0, 0, 0)) ∧
  (∀ f : mE → Prop, w_o (mft MX0_appendPatch 37) f = f (.iconst 1, 38, 0, 0, 0, (1), 0)) ∧
  (∀ f : mE → Prop, w_o (mft MX0_appendPatch 38) f = f (.ireturn, 39, 0, 0, 1, 0, 0)) := ⟨fun _ => rfl, fun _ => rfl, fun _ => rfl, fun _ => rfl, fun _ => rfl, fun _ => rfl, fun _ => rfl, fun _ => rfl, fun _ => rfl, fun _ => rfl, fun _ => rfl, fun _ => rfl, fun _ => rfl, fun _ => rfl, fun _ => rfl, fun _ => rfl, fun _ => rfl, fun _ => rfl, fun _ => rfl, fun _ => rfl, fun _ => rfl, fun _ => rfl, fun _ => rfl⟩
set_option maxRecDepth 100000 in
theorem gd_X0_appendPatch : mGood MX0_appendPatch := ⟨by decide +kernel, by decide +kernel, by decide +kernel⟩
set_option maxRecDepth 100000 in
set_option maxHeartbeats 4000000 in
theorem ft_X0_mostStrands : (∀ f : mE → Prop, w_o (mft MX0_mostStrands 0) f = f (.iconst 0, 1, 0, 0, 0, (0), 0)) ∧
  (∀ f : mE → Prop, w_o (mft MX0_mostStrands 1) f = f (.istore_n 1, 2, 1, 0, 0, 0, 0)) ∧
  (∀ f : mE → Prop, w_o (mft MX0_mostStrands 2) f = f (.iconst 0, 3, 0, 0, 0, (0), 0)) ∧
  (∀ f : mE → Prop, w_o (mft MX0_mostStrands 3) f = f (.istore_n 2, 4, 2, 0, 0, 0, 0)) ∧
  (∀ f : mE → Prop, w_o (mft MX0_mostStrands 4) f = f (.iload_n 2, 5, 2, 0, 0, 0, 0)) ∧
  (∀ f : mE → Prop, w_o (mft MX0_mostStrands 5) f = f (.aload_n 0, 6, 0, 0, 0, 0, 0)) ∧
  (∀ f : mE → Prop, w_o (mft MX0_mostStrands 6) f = f (.getfield 21, 9, 0, 3, 0, 0, 0)) ∧
  (∀ f : mE → Prop, w_o (mft MX0_mostStrands 9) f = f (.if_icmp .ge 20, 12, 29, 0, 0, 0, 0)) ∧
  (∀ f : mE → Prop, w_o (mft MX0_mostStrands 12) f = f (.iload_n 1, 13, 1, 0, 0, 0, 0)) ∧
  (∀ f : mE → Prop, w_o (mft MX0_mostStrands 13) f = f (.aload_n 0, 14, 0, 0, 0, 0, 0)) ∧
  (∀ f : mE → Prop, w_o (mft MX0_mostStrands 14) f = f (.getfield 18, 17, 0, 2, 0, 0, 0)) ∧
  (∀ f : mE → Prop, w_o (mft MX0_mostStrands 17) f = f (.iload_n 2, 18, 2, 0, 0, 0, 0)) ∧
  (∀ f : mE → Prop, w_o (mft MX0_mostStrands 18) f = f (.iaload, 19, 0, 0, 0, 0, 0)) ∧
  (∀ f : mE → Prop, w_o (mft MX0_mostStrands 19) f = f (.invokestatic 54, 22, 1010, 0, 0, 0, 0)) ∧
  (∀ f : mE → Prop, w_o (mft MX0_mostStrands 22) f = f (.istore_n 1, 23, 1, 0, 0, 0, 0)) ∧
  (∀ f : mE → Prop, w_o (mft MX0_mostStrands 23) f = f (.iinc 2 1, 26, 2, 0, 0, (1), 0)) ∧
  (∀ f : mE → Prop, w_o (mft MX0_mostStrands 26) f = f (.goto (-22), 29, 4, 0, 0, 0, 0)) ∧
  (∀ f : mE → Prop, w_o (mft MX0_mostStrands 29) f = f (.iload_n 1, 30, 1, 0, 0, 0, 0)) ∧
  (∀ f : mE → Prop, w_o (mft MX0_mostStrands 30) f = f (.ireturn, 31, 0, 0, 0, 0, 0)) := ⟨fun _ => rfl, fun _ => rfl, fun _ => rfl, fun _ => rfl, fun _ => rfl, fun _ => rfl, fun _ => rfl, fun _ => rfl, fun _ => rfl, fun _ => rfl, fun _ => rfl, fun _ => rfl, fun _ => rfl, fun _ => rfl, fun _ => rfl, fun _ => rfl, fun _ => rfl, fun _ => rfl, fun _ => rfl⟩
set_option maxRecDepth 100000 in
theorem gd_X0_mostStrands : mGood MX0_mostStrands := ⟨by decide +kernel, by decide +kernel, by decide +kernel⟩
set_option maxRecDepth 100000 in
set_option maxHeartbeats 4000000 in
theorem ft_X0_firstUnlike : (∀ f : mE → Prop, w_o (mft MX0_firstUnlike 0) f = f (.aload_n 0, 1, 0, 0, 0, 0, 0)) ∧
  (∀ f : mE → Prop, w_o (mft MX0_firstUnlike 1) f = f (.getfield 21, 4, 0, 3, 0, 0, 0)) ∧
  (∀ f : mE → Prop, w_o (mft MX0_firstUnlike 4) f = f (.aload_n 1, 5, 1, 0, 0, 0, 0)) ∧
  (∀ f : mE → Prop, w_o (mft MX0_firstUnlike 5) f = f (.getfield 21, 8, 0, 3, 0, 0, 0)) ∧
  (∀ f : mE → Prop, w_o (mft MX0_firstUnlike 8) f = f (.invokestatic 60, 11, 1011, 0, 0, 0, 0)) ∧
  (∀ f : mE → Prop, w_o (mft MX0_firstUnlike 11) f = f (.istore_n 2, 12, 2, 0, 0, 0, 0)) ∧
  (∀ f : mE → Prop, w_o (mft MX0_firstUnlike 12) f = f (.iconst 0, 13, 0, 0, 0, (0), 0)) ∧
  (∀ f : mE → Prop, w_o (mft MX0_firstUnlike 13) f = f (.istore_n 3, 14, 3, 0, 0, 0, 0)) ∧
  (∀ f : mE → Prop, w_o (mft MX0_firstUnlike 14) f = f (.iload_n 3, 15, 3, 0, 0, 0, 0)) ∧
  (∀ f : mE → Prop, w_o (mft MX0_firstUnlike 15) f = f (.iload_n 2, 16, 2, 0, 0, 0, 0)) ∧
  (∀ f : mE → Prop, w_o (mft MX0_firstUnlike 16) f = f (.if_icmp .ge 41, 19, 57, 0, 0, 0, 0)) ∧
  (∀ f : mE → Prop, w_o (mft MX0_firstUnlike 19) f = f (.aload_n 0, 20, 0, 0, 0, 0, 0)) ∧
  (∀ f : mE → Prop, w_o (mft MX0_firstUnlike 20) f = f (.getfield 9, 23, 0, 0, 0, 0, 0)) ∧
  (∀ f : mE → Prop, w_o (mft MX0_firstUnlike 23) f = f (.iload_n 3, 24, 3, 0, 0, 0, 0)) ∧
  (∀ f : mE → Prop, w_o (mft MX0_firstUnlike 24) f = f (.iaload, 25, 0, 0, 0, 0, 0)) ∧
  (∀ f : mE → Prop, w_o (mft MX0_firstUnlike 25) f = f (.aload_n 1, 26, 1, 0, 0, 0, 0)) ∧
  (∀ f : mE → Prop, w_o (mft MX0_firstUnlike 26) f = f (.getfield 9, 29, 0, 0, 0, 0, 0)) ∧
  (∀ f : mE → Prop, w_o (mft MX0_firstUnlike 29) f = f (.iload_n 3, 30, 3, 0, 0, 0, 0)) ∧
  (∀ f : mE → Prop, w_o (mft MX0_firstUnlike 30) f = f (.iaload, 31, 0, 0, 0, 0, 0)) ∧
  (∀ f : mE → Prop, w_o (mft MX0_firstUnlike 31) f = f (.if_icmp .ne 18, 34, 49, 0, 0, 0, 0)) ∧
  (∀ f : mE → Prop, w_o (mft MX0_firstUnlike 34) f = f (.aload_n 0, 35, 0, 0, 0, 0, 0)) ∧
  (∀ f : mE → Prop, w_o (mft MX0_firstUnlike 35) f = f (.getfield 15, 38, 0, 1, 0, 0, 0)) ∧
  (∀ f : mE → Prop, w_o (mft MX0_firstUnlike 38) f = f (.iload_n 3, 39, 3, 0, 0, 0, 0)) ∧
  (∀ f : mE → Prop, w_o (mft MX0_firstUnlike 39) f = f (.iaload, 40, 0, 0, 0, 0, 0)) ∧
  (∀ f : mE → Prop, w_o (mft MX0_firstUnlike 40) f = f (.aload_n 1, 41, 1, 0, 0, 0, 0)) ∧
  (∀ f : mE → Prop, w_o (mft MX0_firstUnlike 41) f = f (.getfield 15, 44, 0, 1, 0, 0, 0)) ∧
  (∀ f : mE → Prop, w_o (mft MX0_firstUnlike 44) f = f (.iload_n 3, 45, 3, 0, 0, 0, 0)) ∧
  (∀ f : mE → Prop, w_o (mft MX0_firstUnlike 45) f = f (.iaload, 46, 0, 0, 0, 0, 0)) ∧
  (∀ f : mE → Prop, w_o (mft MX0_firstUnlike 46) f = f (.if_icmp .eq 5, 49, 51, 0, 0, 0, 0)) ∧
  (∀ f : mE → Prop, w_o (mft MX0_firstUnlike 49) f = f (.iload_n 3, 50, 3, 0, 0, 0, 0)) ∧
  (∀ f : mE → Prop, w_o (mft MX0_firstUnlike 50) f = f (.ireturn, 51, 0, 0, 0, 0, 0)) ∧
  (∀ f : mE → Prop, w_o (mft MX0_firstUnlike 51) f = f (.iinc 3 1, 54, 3, 0, 0, (1), 0)) ∧
  (∀ f : mE → Prop, w_o (mft MX0_firstUnlike 54) f = f (.goto (-40), 57, 14, 0, 0, 0, 0)) ∧
  (∀ f : mE → Prop, w_o (mft MX0_firstUnlike 57) f = f (.aload_n 0, 58, 0, 0, 0, 0, 0)) ∧
  (∀ f : mE → Prop, w_o (mft MX0_firstUnlike 58) f = f (.getfield 21, 61, 0, 3, 0, 0, 0)) ∧
  (∀ f : mE → Prop, w_o (mft MX0_firstUnlike 61) f = f (.aload_n 1, 62, 1, 0, 0, 0, 0)) ∧
  (∀ f : mE → Prop, w_o (mft MX0_firstUnlike 62) f = f (.getfield 21, 65, 0, 3, 0, 0, 0)) ∧
  (∀ f : mE → Prop, w_o (mft MX0_firstUnlike 65) f = f (.if_icmp .ne 8, 68, 73, 0, 0, 0, 0)) ∧
  (∀ f : mE → Prop, w_o (mft MX0_firstUnlike 68) f = f (.bipush (-4), 70, 0, 0, 0, (-4), 0)) ∧
  (∀ f : mE → Prop, w_o (mft MX0_firstUnlike 70) f = f (.goto 4, 73, 74, 0, 0, 0, 0)) ∧
  (∀ f : mE → Prop, w_o (mft MX0_firstUnlike 73) f = f (.iload_n 2, 74, 2, 0, 0, 0, 0)) ∧
  (∀ f : mE → Prop, w_o (mft MX0_firstUnlike 74) f = f (.ireturn, 75, 0, 0, 0, 0, 0)) := ⟨fun _ => rfl, fun _ => rfl, fun _ => rfl, fun _ => rfl, fun _ => rfl, fun _ => rfl, fun _ => rfl, fun _ => rfl, fun _ => rfl, fun _ => rfl, fun _ => rfl, fun _ => rfl, fun _ => rfl, fun _ => rfl, fun _ => rfl, fun _ => rfl, fun _ => rfl, fun _ => rfl, fun _ => rfl, fun _ => rfl, fun _ => rfl, fun _ => rfl, fun _ => rfl, fun _ => rfl, fun _ => rfl, fun _ => rfl, fun _ => rfl, fun _ => rfl, fun _ => rfl, fun _ => rfl, fun _ => rfl, fun _ => rfl, fun _ => rfl, fun _ => rfl, fun _ => rfl, fun _ => rfl, fun _ => rfl, fun _ => rfl, fun _ => rfl, fun _ => rfl, fun _ => rfl, fun _ => rfl⟩
set_option maxRecDepth 100000 in
theorem gd_X0_firstUnlike : mGood MX0_firstUnlike := ⟨by decide +kernel, by decide +kernel, by decide +kernel⟩
set_option maxRecDepth 100000 in
set_option maxHeartbeats 4000000 in
theorem ft_X0_strandsAdded : (∀ f : mE → Prop, w_o (mft MX0_strandsAdded 0) f = f (.iload_n 0, 1, 0, 0, 0, 0, 0)) ∧
  (∀ f : mE → Prop, w_o (mft MX0_strandsAdded 1) f = f (.ifCond .ne 5, 4, 6, 0, 0, 0, 0)) ∧
  (∀ f : mE → Prop, w_o (mft MX0_strandsAdded 4) f = f (.iconst 2, 5, 0, 0, 0, (2), 0)) ∧
  (∀ f : mE → Prop, w_o (mft MX0_strandsAdded 5) f = f (.ireturn, 6, 0, 0, 0, 0, 0)) ∧
  (∀ f : mE → Prop, w_o (mft MX0_strandsAdded 6) f = f (.iload_n 0, 7, 0, 0, 0, 0, 0)) ∧
  (∀ f : mE → Prop, w_o (mft MX0_strandsAdded 7) f = f (.iconst 2, 8, 0, 0, 0, (2), 0)) ∧
  (∀ f : mE → Prop, w_o (mft MX0_strandsAdded 8) f = f (.if_icmp .ne 8, 11, 16, 0, 0, 0, 0)) ∧
  (∀ f : mE → Prop, w_o (mft MX0_strandsAdded 11) f = f (.bipush (-2), 13, 0, 0, 0, (-2), 0)) ∧
  (∀ f : mE → Prop, w_o (mft MX0_strandsAdded 13) f = f (.goto 4, 16, 17, 0, 0, 0, 0)) ∧
  (∀ f : mE → Prop, w_o (mft MX0_strandsAdded 16) f = f (.iconst 0, 17, 0, 0, 0, (0), 0)) ∧
  (∀ f : mE → Prop, w_o (mft MX0_strandsAdded 17) f = f (.ireturn, 18, 0, 0, 0, 0, 0)) := ⟨fun _ => rfl, fun _ => rfl, fun _ => rfl, fun _ => rfl, fun _ => rfl, fun _ => rfl, fun _ => rfl, fun _ => rfl, fun _ => rfl, fun _ => rfl, fun _ => rfl⟩
set_option maxRecDepth 100000 in
theorem gd_X0_strandsAdded : mGood MX0_strandsAdded := ⟨by decide +kernel, by decide +kernel, by decide +kernel⟩
set_option maxRecDepth 100000 in
set_option maxHeartbeats 4000000 in
theorem ft_X1_init : (∀ f : mE → Prop, w_o (mft MX1_init 0) f = f (.aload_n 0, 1, 0, 0, 0, 0, 0)) ∧
  (∀ f : mE → Prop, w_o (mft MX1_init 1) f = f (.invokespecial 3, 4, 1001, 0, 0, 0, 0)) ∧
  (∀ f : mE → Prop, w_o (mft MX1_init 4) f = f (.aload_n 0, 5, 0, 0, 0, 0, 0)) ∧
  (∀ f : mE → Prop, w_o (mft MX1_init 5) f = f (.iconst 3, 6, 0, 0, 0, (3), 0)) ∧
  (∀ f : mE → Prop, w_o (mft MX1_init 6) f = f (.newarray .int, 8, 0, 0, 0, 0, 0)) ∧
  (∀ f : mE → Prop, w_o (mft MX1_init 8) f = f (.putfield 11, 11, 1, 0, 2, 0, 0)) ∧
  (∀ f : mE → Prop, w_o (mft MX1_init 11) f = f (.aload_n 0, 12, 0, 0, 0, 0, 0)) ∧
  (∀ f : mE → Prop, w_o (mft MX1_init 12) f = f (.iconst 3, 13, 0, 0, 0, (3), 0)) ∧
  (∀ f : mE → Prop, w_o (mft MX1_init 13) f = f (.newarray .int, 15, 0, 0, 0, 0, 0)) ∧
  (∀ f : mE → Prop, w_o (mft MX1_init 15) f = f (.putfield 15, 18, 1, 1, 2, 0, 0)) ∧
  (∀ f : mE → Prop, w_o (mft MX1_init 18) f = f (.aload_n 0, 19, 0, 0, 0, 0, 0)) ∧
  (∀ f : mE → Prop, w_o (mft MX1_init 19) f = f (.iconst 0, 20, 0, 0, 0, (0), 0)) ∧
  (∀ f : mE → Prop, w_o (mft MX1_init 20) f = f (.putfield 18, 23, 1, 2, 0, 0, 0)) ∧
  (∀ f : mE → Prop, w_o (mft MX1_init 23) f = f (.aload_n 0, 24, 0, 0, 0, 0, 0)) ∧
  (∀ f : mE → Prop, w_o (mft MX1_init 24) f = f (.iconst 0, 25, 0, 0, 0, (0), 0)) ∧
  (∀ f : mE → Prop, w_o (mft MX1_init 25) f = f (.putfield 22, 28, 1, 3, 0, 0, 0)) ∧
  (∀ f : mE → Prop, w_o (mft MX1_init 28) f = f (.return_, 29, 0, 0, 0, 0, 0)) := ⟨fun _ => rfl, fun _ => rfl, fun _ => rfl, fun _ => rfl, fun _ => rfl, fun _ => rfl, fun _ => rfl, fun _ => rfl, fun _ => rfl, fun _ => rfl, fun _ => rfl, fun _ => rfl, fun _ => rfl, fun _ => rfl, fun _ => rfl, fun _ => rfl, fun _ => rfl⟩
set_option maxRecDepth 100000 in
theorem gd_X1_init : mGood MX1_init := ⟨by decide +kernel, by decide +kernel, by decide +kernel⟩
set_option maxRecDepth 100000 in
set_option maxHeartbeats 4000000 in
theorem ft_X1_begin : (∀ f : mE → Prop, w_o (mft MX1_begin 0) f = f (.aload_n 0, 1, 0, 0, 0, 0, 0)) ∧
  (∀ f : mE → Prop, w_o (mft MX1_begin 1) f = f (.iconst 0, 2, 0, 0, 0, (0), 0)) ∧
  (∀ f : mE → Prop, w_o (mft MX1_begin 2) f = f (.putfield 18, 5, 1, 2, 0, 0, 0)) ∧
  (∀ f : mE → Prop, w_o (mft MX1_begin 5) f = f (.aload_n 0, 6, 0, 0, 0, 0, 0)) ∧
  (∀ f : mE → Prop, w_o (mft MX1_begin 6) f = f (.iload_n 1, 7, 1, 0, 0, 0, 0)) ∧
  (∀ f : mE → Prop, w_o (mft MX1_begin 7) f = f (.putfield 22, 10, 1, 3, 0, 0, 0)) ∧
  (∀ f : mE → Prop, w_o (mft MX1_begin 10) f = f (.return_, 11, 0, 0, 0, 0, 0)) := ⟨fun _ => rfl, fun _ => rfl, fun _ => rfl, fun _ => rfl, fun _ => rfl, fun _ => rfl, fun _ => rfl⟩
set_option maxRecDepth 100000 in
theorem gd_X1_begin : mGood MX1_begin := ⟨by decide +kernel, by decide +kernel, by decide +kernel⟩
set_option maxRecDepth 100000 in
set_option maxHeartbeats 4000000 in
theorem ft_X1_put : (∀ f : mE → Prop, w_o (mft MX1_put 0) f = f (.aload_n 0, 1, 0, 0, 0, 0, 0)) ∧
  (∀ f : mE → Prop, w_o (mft MX1_put 1) f = f (.getfield 18, 4, 1, 2, 0, 0, 0)) ∧
  (∀ f : mE → Prop, w_o (mft MX1_put 4) f = f (.iconst 3, 5, 0, 0, 0, (3), 0)) ∧
  (∀ f : mE → Prop, w_o (mft MX1_put 5) f = f (.if_icmp .ge 33, 8, 38, 0, 0, 0, 0)) ∧
  (∀ f : mE → Prop, w_o (mft MX1_put 8) f = f (.aload_n 0, 9, 0, 0, 0, 0, 0)) ∧
  (∀ f : mE → Prop, w_o (mft MX1_put 9) f = f (.getfield 11, 12, 1, 0, 0, 0, 0)) ∧
  (∀ f : mE → Prop, w_o (mft MX1_put 12) f = f (.aload_n 0, 13, 0, 0, 0, 0, 0)) ∧
  (∀ f : mE → Prop, w_o (mft MX1_put 13) f = f (.getfield 18, 16, 1, 2, 0, 0, 0)) ∧
  (∀ f : mE → Prop, w_o (mft MX1_put 16) f = f (.iload_n 1, 17, 1, 0, 0, 0, 0)) ∧
  (∀ f : mE → Prop, w_o (mft MX1_put 17) f = f (.iastore, 18, 0, 0, 0, 0, 0)) ∧
  (∀ f : mE → Prop, w_o (mft MX1_put 18) f = f (.aload_n 0, 19, 0, 0, 0, 0, 0)) ∧
  (∀ f : mE → Prop, w_o (mft MX1_put 19) f = f (.getfield 15, 22, 1, 1, 0, 0, 0)) ∧
  (∀ f : mE → Prop, w_o (mft MX1_put 22) f = f (.aload_n 0, 23, 0, 0, 0, 0, 0)) ∧
  (∀ f : mE → Prop, w_o (mft MX1_put 23) f = f (.getfield 18, 26, 1, 2, 0, 0, 0)) ∧
  (∀ f : mE → Prop, w_o (mft MX1_put 26) f = f (.iload_n 2, 27, 2, 0, 0, 0, 0)) ∧
  (∀ f : mE → Prop, w_o (mft MX1_put 27) f = f (.iastore, 28, 0, 0, 0, 0, 0)) ∧
  (∀ f : mE → Prop, w_o (mft MX1_put 28) f = f (.aload_n 0, 29, 0, 0, 0, 0, 0)) ∧
  (∀ f : mE → Prop, w_o (mft MX1_put 29) f = f (.dup, 30, 0, 0, 0, 0, 0)) ∧
  (∀ f : mE → Prop, w_o (mft MX1_put 30) f = f (.getfield 18, 33, 1, 2, 0, 0, 0)) ∧
  (∀ f : mE → Prop, w_o (mft MX1_put 33) f = f (.iconst 1, 34, 0, 0, 0, (1), 0)) ∧
  (∀ f : mE → Prop, w_o (mft MX1_put 34) f = f (.iadd, 35, 0, 0, 0, 0, 0)) ∧
  (∀ f : mE → Prop, w_o (mft MX1_put 35) f = f (.putfield 18, 38, 1, 2, 0, 0, 0)) ∧
  (∀ f : mE → Prop, w_o (mft MX1_put 38) f = f (.return_, 39, 0, 0, 0, 0, 0)) := ⟨fun _ => rfl, fun _ => rfl, fun _ => rfl, fun _ => rfl, fun _ => rfl, fun _ => rfl, fun _ => rfl, fun _ => rfl, fun _ => rfl, fun _ => rfl, fun _ => rfl, fun _ => rfl, fun _ => rfl, fun _ => rfl, fun _ => rfl, fun _ => rfl, fun _ => rfl, fun _ => rfl, fun _ => rfl, fun _ => rfl, fun _ => rfl, fun _ => rfl, fun _ => rfl⟩
set_option maxRecDepth 100000 in
theorem gd_X1_put : mGood MX1_put := ⟨by decide +kernel, by decide +kernel, by decide +kernel⟩
set_option maxRecDepth 100000 in
set_option maxHeartbeats 4000000 in
theorem ft_X1_putThree : (∀ f : mE → Prop, w_o (mft MX1_putThree 0) f = f (.aload_n 0, 1, 0, 0, 0, 0, 0)) ∧
  (∀ f : mE → Prop, w_o (mft MX1_putThree 1) f = f (.iload_n 1, 2, 1, 0, 0, 0, 0)) ∧
  (∀ f : mE → Prop, w_o (mft MX1_putThree 2) f = f (.iload_n 2, 3, 2, 0, 0, 0, 0)) ∧
  (∀ f : mE → Prop, w_o (mft MX1_putThree 3) f = f (.invokevirtual 25, 6, 14, 2, 1, 0, 0)) ∧
  (∀ f : mE → Prop, w_o (mft MX1_putThree 6) f = f (.aload_n 0, 7, 0, 0, 0, 0, 0)) ∧
  (∀ f : mE → Prop, w_o (mft MX1_putThree 7) f = f (.iload_n 3, 8, 3, 0, 0, 0, 0)) ∧
  (∀ f : mE → Prop, w_o (mft MX1_putThree 8) f = f (.iload 4, 10, 4, 0, 0, 0, 0)) ∧
  (∀ f : mE → Prop, w_o (mft MX1_putThree 10) f = f (.invokevirtual 25, 13, 14, 2, 1, 0, 0)) ∧
  (∀ f : mE → Prop, w_o (mft MX1_putThree 13) f = f (.aload_n 0, 14, 0, 0, 0, 0, 0)) ∧
  (∀ f : mE → Prop, w_o (mft MX1_putThree 14) f = f (.iload 5, 16, 5, 0, 0, 0, 0)) ∧
  (∀ f : mE → Prop, w_o (mft MX1_putThree 16) f = f (.iload 6, 18, 6, 0, 0, 0, 0)) ∧
  (∀ f : mE → Prop, w_o (mft MX1_putThree 18) f = f (.invokevirtual 25, 21, 14, 2, 1, 0, 0)) ∧
  (∀ f : mE → Prop, w_o (mft MX1_putThree 21) f = f (.return_, 22, 0, 0, 0, 0, 0)) := ⟨fun _ => rfl, fun _ => rfl, fun _ => rfl, fun _ => rfl, fun _ => rfl, fun _ => rfl, fun _ => rfl, fun _ => rfl, fun _ => rfl, fun _ => rfl, fun _ => rfl, fun _ => rfl, fun _ => rfl⟩
set_option maxRecDepth 100000 in
theorem gd_X1_putThree : mGood MX1_putThree := ⟨by decide +kernel, by decide +kernel, by decide +kernel⟩
set_option maxRecDepth 100000 in
set_option maxHeartbeats 4000000 in
theorem ft_X1_planMove : (∀ f : mE → Prop, w_o (mft MX1_planMove 0) f = f (.iload_n 2, 1, 2, 0, 0, 0, 0)) ∧
  (∀ f : mE → Prop, w_o (mft MX1_planMove 1) f = f (.tableswitch 70 0 4 #[35, 42, 49, 56, 63], 36, 0, 0, 0, 0, 0)) ∧
  (∀ f : mE → Prop, w_o (mft MX1_planMove 36) f = f (.aload_n 0, 37, 0, 0, 0, 0, 0)) ∧
  (∀ f : mE → Prop, w_o (mft MX1_planMove 37) f = f (.aload_n 1, 38, 1, 0, 0, 0, 0)) ∧
  (∀ f : mE → Prop, w_o (mft MX1_planMove 38) f = f (.iload_n 3, 39, 3, 0, 0, 0, 0)) ∧
  (∀ f : mE → Prop, w_o (mft MX1_planMove 39) f = f (.invokevirtual 29, 42, 17, 2, 1, 0, 0)) ∧
  (∀ f : mE → Prop, w_o (mft MX1_planMove 42) f = f (.ireturn, 43, 0, 0, 1, 0, 0)) ∧
  (∀ f : mE → Prop, w_o (mft MX1_planMove 43) f = f (.aload_n 0, 44, 0, 0, 0, 0, 0)) ∧
  (∀ f : mE → Prop, w_o (mft MX1_planMove 44) f = f (.aload_n 1, 45, 1, 0, 0, 0, 0)) ∧
  (∀ f : mE → Prop, w_o (mft MX1_planMove 45) f = f (.iload_n 3, 46, 3, 0, 0, 0, 0)) ∧
  (∀ f : mE → Prop, w_o (mft MX1_planMove 46) f = f (.invokevirtual 33, 49, 18, 2, 1, 0, 0)) ∧
  (∀ f : mE → Prop, w_o (mft MX1_planMove 49) f = f (.ireturn, 50, 0, 0, 1, 0, 0)) ∧
  (∀ f : mE → Prop, w_o (mft MX1_planMove 50) f = f (.aload_n 0, 51, 0, 0, 0, 0, 0)) ∧
  (∀ f : mE → Prop, w_o (mft MX1_planMove 51) f = f (.aload_n 1, 52, 1, 0, 0, 0, 0)) ∧
  (∀ f : mE → Prop, w_o (mft MX1_planMove 52) f = f (.iload_n 3, 53, 3, 0, 0, 0, 0)) ∧
  (∀ f : mE → Prop, w_o (mft MX1_planMove 53) f = f (.invokevirtual 36, 56, 19, 2, 1, 0, 0)) ∧
  (∀ f : mE → Prop, w_o (mft MX1_planMove 56) f = f (.ireturn, 57, 0, 0, 1, 0, 0)) ∧
  (∀ f : mE → Prop, w_o (mft MX1_planMove 57) f = f (.aload_n 0, 58, 0, 0, 0, 0, 0)) ∧
  (∀ f : mE → Prop, w_o (mft MX1_planMove 58) f = f (.aload_n 1, 59, 1, 0, 0, 0, 0)) ∧
  (∀ f : mE → Prop, w_o (mft MX1_planMove 59) f = f (.iload_n 3, 60, 3, 0, 0, 0, 0)) ∧
  (∀ f : mE → Prop, w_o (mft MX1_planMove 60) f = f (.invokevirtual 39, 63, 20, 2, 1, 0, 0)) ∧
  (∀ f : mE → Prop, w_o (mft MX1_planMove 63) f = f (.ireturn, 64, 0, 0, 1, 0, 0)) ∧
  (∀ f : mE → Prop, w_o (mft MX1_planMove 64) f = f (.aload_n 0, 65, 0, 0, 0, 0, 0)) ∧
  (∀ f : mE → Prop, w_o (mft MX1_planMove 65) f = f (.aload_n 1, 66, 1, 0, 0, 0, 0)) ∧
  (∀ f : mE → Prop, w_o (mft MX1_planMove 66) f = f (.iload_n 3, 67, 3, 0, 0, 0, 0)) ∧
  (∀ f : mE → Prop, w_o (mft MX1_planMove 67) f = f (.invokevirtual 42, 70, 21, 2, 1, 0, 0)) ∧
  (∀ f : mE → Prop, w_o (mft MX1_planMove 70) f = f (.ireturn, 71, 0, 0, 1, 0, 0)) ∧
  (∀ f : mE → Prop, w_o (mft MX1_planMove 71) f = f (.iconst 0, 72, 0, 0, 0, (0), 0)) ∧
  (∀ f : mE → Prop, w_o (mft MX1_planMove 72) f = f (.ireturn, 73, 0, 0, 1, 0, 0)) := ⟨fun _ => rfl, fun _ => rfl, fun _ => rfl, fun _ => rfl, fun _ => rfl, fun _ => rfl, fun _ => rfl, fun _ => rfl, fun _ => rfl, fun _ => rfl, fun _ => rfl, fun _ => rfl, fun _ => rfl, fun _ => rfl, fun _ => rfl, fun _ => rfl, fun _ => rfl, fun _ => rfl, fun _ => rfl, fun _ => rfl, fun _ => rfl, fun _ => rfl, fun _ => rfl, fun _ => rfl, fun _ => rfl, fun _ => rfl, fun _ => rfl, fun _ => rfl, fun _ => rfl⟩
set_option maxRecDepth 100000 in
theorem gd_X1_planMove : mGood MX1_planMove := ⟨by decide +kernel, by decide +kernel, by decide +kernel⟩
set_option maxRecDepth 100000 in
set_option maxHeartbeats 4000000 in
theorem ft_X1_planSwap : (∀ f : mE → Prop, w_o (mft MX1_planSwap 0) f = f (.iload_n 2, 1, 2, 0, 0, 0, 0)) ∧
  (∀ f : mE → Prop, w_o (mft MX1_planSwap 1) f = f (.iconst 1, 2, 0, 0, 0, (1), 0)) ∧
  (∀ f : mE → Prop, w_o (mft MX1_planSwap 2) f = f (.iadd, 3, 0, 0, 0, 0, 0)) ∧
  (∀ f : mE → Prop, w_o (mft MX1_planSwap 3) f = f (.aload_n 1, 4, 1, 0, 0, 0, 0)) ∧
  (∀ f : mE → Prop, w_o (mft MX1_planSwap 4) f = f (.getfield 45, 7, 0, 3, 0, 0, 0)) ∧
  (∀ f : mE → Prop, w_o (mft MX1_planSwap 7) f = f (.if_icmp .lt 5, 10, 12, 0, 0, 0, 0)) ∧
  (∀ f : mE → Prop, w_o (mft MX1_planSwap 10) f = f (.iconst 0, 11, 0, 0, 0, (0), 0)) ∧
  (∀ f : mE → Prop, w_o (mft MX1_planSwap 11) f = f (.ireturn, 12, 0, 0, 1, 0, 0)) ∧
  (∀ f : mE → Prop, w_o (mft MX1_planSwap 12) f = f (.aload_n 1, 13, 1, 0, 0, 0, 0)) ∧
  (∀ f : mE → Prop, w_o (mft MX1_planSwap 13) f = f (.getfield 48, 16, 0, 0, 0, 0, 0)) ∧
  (∀ f : mE → Prop, w_o (mft MX1_planSwap 16) f = f (.iload_n 2, 17, 2, 0, 0, 0, 0)) ∧
  (∀ f : mE → Prop, w_o (mft MX1_planSwap 17) f = f (.iaload, 18, 0, 0, 0, 0, 0)) ∧
  (∀ f : mE → Prop, w_o (mft MX1_planSwap 18) f = f (.istore_n 3, 19, 3, 0, 0, 0, 0)) ∧
  (∀ f : mE → Prop, w_o (mft MX1_planSwap 19) f = f (.aload_n 1, 20, 1, 0, 0, 0, 0)) ∧
  (∀ f : mE → Prop, w_o (mft MX1_planSwap 20) f = f (.getfield 49, 23, 0, 1, 0, 0, 0)) ∧
  (∀ f : mE → Prop, w_o (mft MX1_planSwap 23) f = f (.iload_n 2, 24, 2, 0, 0, 0, 0)) ∧
  (∀ f : mE → Prop, w_o (mft MX1_planSwap 24) f = f (.iaload, 25, 0, 0, 0, 0, 0)) ∧
  (∀ f : mE → Prop, w_o (mft MX1_planSwap 25) f = f (.istore 4, 27, 4, 0, 0, 0, 0)) ∧
  (∀ f : mE → Prop, w_o (mft MX1_planSwap 27) f = f (.aload_n 1, 28, 1, 0, 0, 0, 0)) ∧
  (∀ f : mE → Prop, w_o (mft MX1_planSwap 28) f = f (.getfield 48, 31, 0, 0, 0, 0, 0)) ∧
  (∀ f : mE → Prop, w_o (mft MX1_planSwap 31) f = f (.iload_n 2, 32, 2, 0, 0, 0, 0)) ∧
  (∀ f : mE → Prop, w_o (mft MX1_planSwap 32) f = f (.iconst 1, 33, 0, 0, 0, (1), 0)) ∧
  (∀ f : mE → Prop, w_o (mft MX1_planSwap 33) f = f (.iadd, 34, 0, 0, 0, 0, 0)) ∧
  (∀ f : mE → Prop, w_o (mft MX1_planSwap 34) f = f (.iaload, 35, 0, 0, 0, 0, 0)) ∧
  (∀ f : mE → Prop, w_o (mft MX1_planSwap 35) f = f (.istore 5, 37, 5, 0, 0, 0, 0)) ∧
  (∀ f : mE → Prop, w_o (mft MX1_planSwap 37) f = f (.aload_n 1, 38, 1, 0, 0, 0, 0)) ∧
  (∀ f : mE → Prop, w_o (mft MX1_planSwap 38) f = f (.getfield 49, 41, 0, 1, 0, 0, 0)) ∧
  (∀ f : mE → Prop, w_o (mft MX1_planSwap 41) f = f (.iload_n 2, 42, 2, 0, 0, 0, 0)) ∧
  (∀ f : mE → Prop, w_o (mft MX1_planSwap 42) f = f (.iconst 1, 43, 0, 0, 0, (1), 0)) ∧
  (∀ f : mE → Prop, w_o (mft MX1_planSwap 43) f = f (.iadd, 44, 0, 0, 0, 0, 0)) ∧
  (∀ f : mE → Prop, w_o (mft MX1_planSwap 44) f = f (.iaload, 45, 0, 0, 0, 0, 0)) ∧
  (∀ f : mE → Prop, w_o (mft MX1_planSwap 45) f = f (.istore 6, 47, 6, 0, 0, 0, 0)) ∧
  (∀ f : mE → Prop, w_o (mft MX1_planSwap 47) f = f (.iload_n 3, 48, 3, 0, 0, 0, 0)) ∧
  (∀ f : mE → Prop, w_o (mft MX1_planSwap 48) f = f (.iconst 2, 49, 0, 0, 0, (2), 0)) ∧
  (∀ f : mE → Prop, w_o (mft MX1_planSwap 49) f = f (.if_icmp .ne 7, 52, 56, 0, 0, 0, 0)) ∧
  (∀ f : mE → Prop, w_o (mft MX1_planSwap 52) f = f (.iconst 0, 53, 0, 0, 0, (0), 0)) ∧
  (∀ f : mE → Prop, w_o (mft MX1_planSwap 53) f = f (.goto 4, 56, 57, 0, 0, 0, 0)) ∧
  (∀ f : mE → Prop, w_o (mft MX1_planSwap 56) f = f (.iconst 2, 57, 0, 0, 0, (2), 0)) ∧
  (∀ f : mE → Prop, w_o (mft MX1_planSwap 57) f = f (.istore 7, 59, 7, 0, 0, 0, 0)) ∧
  (∀ f : mE → Prop, w_o (mft MX1_planSwap 59) f = f (.iload 5, 61, 5, 0, 0, 0, 0)) ∧
  (∀ f : mE → Prop, w_o (mft MX1_planSwap 61) f = f (.ifCond .ne 7, 64, 68, 0, 0, 0, 0)) ∧
  (∀ f : mE → Prop, w_o (mft MX1_planSwap 64) f = f (.iconst 0, 65, 0, 0, 0, (0), 0)) ∧
  (∀ f : mE → Prop, w_o (mft MX1_planSwap 65) f = f (.goto 4, 68, 69, 0, 0, 0, 0)) ∧
  (∀ f : mE → Prop, w_o (mft MX1_planSwap 68) f = f (.iconst 2, 69, 0, 0, 0, (2), 0)) ∧
  (∀ f : mE → Prop, w_o (mft MX1_planSwap 69) f = f (.istore 8, 71, 8, 0, 0, 0, 0)) ∧
  (∀ f : mE → Prop, w_o (mft MX1_planSwap 71) f = f (.aload_n 0, 72, 0, 0, 0, 0, 0)) ∧
  (∀ f : mE → Prop, w_o (mft MX1_planSwap 72) f = f (.iconst 2, 73, 0, 0, 0, (2), 0)) ∧
  (∀ f : mE → Prop, w_o (mft MX1_planSwap 73) f = f (.invokevirtual 50, 76, 13, 1, 1, 0, 0)) ∧
  (∀ f : mE → Prop, w_o (mft MX1_planSwap 76) f = f (.iload 6, 78, 6, 0, 0, 0, 0)) ∧
  (∀ f : mE → Prop, w_o (mft MX1_planSwap 78) f = f (.iload 4, 80, 4, 0, 0, 0, 0)) ∧
  (∀ f : mE → Prop, w_o (mft MX1_planSwap 80) f = f (.iload 7, 82, 7, 0, 0, 0, 0)) ∧
  (∀ f : mE → Prop, w_o (mft MX1_planSwap 82) f = f (.iadd, 83, 0, 0, 0, 0, 0)) ∧
  (∀ f : mE → Prop, w_o (mft MX1_planSwap 83) f = f (.if_icmp .lt 25, 86, 108, 0, 0, 0, 0)) ∧
  (∀ f : mE → Prop, w_o (mft MX1_planSwap 86) f = f (.aload_n 0, 87, 0, 0, 0, 0, 0)) ∧
  (∀ f : mE → Prop, w_o (mft MX1_planSwap 87) f = f (.iload 5, 89, 5, 0, 0, 0, 0)) ∧
  (∀ f : mE → Prop, w_o (mft MX1_planSwap 89) f = f (.iload 6, 91, 6, 0, 0, 0, 0)) ∧
  (∀ f : mE → Prop, w_o (mft MX1_planSwap 91) f = f (.iload_n 3, 92, 3, 0, 0, 0, 0)) ∧
  (∀ f : mE → Prop, w_o (mft MX1_planSwap 92) f = f (.invokestatic 54, 95, 11, 1, 0, 0, 0)) ∧
  (∀ f : mE → Prop, w_o (mft MX1_planSwap 95) f = f (.isub, 96, 0, 0, 0, 0, 0)) ∧
  (∀ f : mE → Prop, w_o (mft MX1_planSwap 96) f = f (.invokevirtual 25, 99, 14, 2, 1, 0, 0)) ∧
  (∀ f : mE → Prop, w_o (mft MX1_planSwap 99) f = f (.aload_n 0, 100, 0, 0, 0, 0, 0)) ∧
  (∀ f : mE → Prop, w_o (mft MX1_planSwap 100) f = f (.iload_n 3, 101, 3, 0, 0, 0, 0)) ∧
  (∀ f : mE → Prop, w_o (mft MX1_planSwap 101) f = f (.iload 4, 103, 4, 0, 0, 0, 0)) ∧
  (∀ f : mE → Prop, w_o (mft MX1_planSwap 103) f = f (.invokevirtual 25, 106, 14, 2, 1, 0, 0)) ∧
  (∀ f : mE → Prop, w_o (mft MX1_planSwap 106) f = f (.iconst 1, 107, 0, 0, 0, (1), 0)) ∧
  (∀ f : mE → Prop, w_o (mft MX1_planSwap 107) f = f (.ireturn, 108, 0, 0, 1, 0, 0)) ∧
  (∀ f : mE → Prop, w_o (mft MX1_planSwap 108) f = f (.iload 6, 110, 6, 0, 0, 0, 0)) ∧
  (∀ f : mE → Prop, w_o (mft MX1_planSwap 110) f = f (.iload 8, 112, 8, 0, 0, 0, 0)) ∧
  (∀ f : mE → Prop, w_o (mft MX1_planSwap 112) f = f (.iadd, 113, 0, 0, 0, 0, 0)) ∧
  (∀ f : mE → Prop, w_o (mft MX1_planSwap 113) f = f (.iload 4, 115, 4, 0, 0, 0, 0)) ∧
  (∀ f : mE → Prop, w_o (mft MX1_planSwap 115) f = f (.if_icmp .gt 26, 118, 141, 0, 0, 0, 0)) ∧
  (∀ f : mE → Prop, w_o (mft MX1_planSwap 118) f = f (.aload_n 0, 119, 0, 0, 0, 0, 0)) ∧
  (∀ f : mE → Prop, w_o (mft MX1_planSwap 119) f = f (.iload 5, 121, 5, 0, 0, 0, 0)) ∧
  (∀ f : mE → Prop, w_o (mft MX1_planSwap 121) f = f (.iload 6, 123, 6, 0, 0, 0, 0)) ∧
  (∀ f : mE → Prop, w_o (mft MX1_planSwap 123) f = f (.invokevirtual 25, 126, 14, 2, 1, 0, 0)) ∧
  (∀ f : mE → Prop, w_o (mft MX1_planSwap 126) f = f (.aload_n 0, 127, 0, 0, 0, 0, 0)) ∧
  (∀ f : mE → Prop, w_o (mft MX1_planSwap 127) f = f (.iload_n 3, 128, 3, 0, 0, 0, 0)) ∧
  (∀ f : mE → Prop, w_o (mft MX1_planSwap 128) f = f (.iload 4, 130, 4, 0, 0, 0, 0)) ∧
  (∀ f : mE → Prop, w_o (mft MX1_planSwap 130) f = f (.iload 5, 132, 5, 0, 0, 0, 0)) ∧
  (∀ f : mE → Prop, w_o (mft MX1_planSwap 132) f = f (.invokestatic 54, 135, 11, 1, 0, 0, 0)) ∧
  (∀ f : mE → Prop, w_o (mft MX1_planSwap 135) f = f (.iadd, 136, 0, 0, 0, 0, 0)) ∧
  (∀ f : mE → Prop, w_o (mft MX1_planSwap 136) f = f (.invokevirtual 25, 139, 14, 2, 1, 0, 0)) ∧
  (∀ f : mE → Prop, w_o (mft MX1_planSwap 139) f = f (.iconst 1, 140, 0, 0, 0, (1), 0)) ∧
  (∀ f : mE → Prop, w_o (mft MX1_planSwap 140) f = f (.ireturn, 141, 0, 0, 1, 0, 0)) ∧
  (∀ f : mE → Prop, w_o (mft MX1_planSwap 141) f = f (.iconst 0, 142, 0, 0, 0, (0), 0)) ∧
  (∀ f : mE → Prop, w_o (mft MX1_planSwap 142) f = f (.ireturn, 143, 0, 0, 1, 0, 0)) := ⟨fun _ => rfl, fun _ => rfl, fun _ => rfl, fun _ => rfl, fun _ => rfl, fun _ => rfl, fun _ => rfl, fun _ => rfl, fun _ => rfl, fun _ => rfl, fun _ => rfl, fun _ => rfl, fun _ => rfl, fun _ => rfl, fun _ => rfl, fun _ => rfl, fun _ => rfl, fun _ => rfl, fun _ => rfl, fun _ => rfl, fun _ => rfl, fun _ => rfl, fun _ => rfl, fun _ => rfl, fun _ => rfl, fun _ => rfl, fun _ => rfl, fun _ => rfl, fun _ => rfl, fun _ => rfl, fun _ => rfl, fun _ => rfl, fun _ => rfl, fun _ => rfl, fun _ => rfl, fun _ => rfl, fun _ => rfl, fun _ => rfl, fun _ => rfl, fun _ => rfl, fun _ => rfl, fun _ => rfl, fun _ => rfl, fun _ => rfl, fun _ => rfl, fun _ => rfl, fun _ => rfl, fun _ => rfl, fun _ => rfl, fun _ => rfl, fun _ => rfl, fun _ => rfl, fun _ => rfl, fun _ => rfl, fun _ => rfl, fun _ => rfl, fun _ => rfl, fun _ => rfl, fun _ => rfl, fun _ => rfl, fun _ => rfl, fun _ => rfl, fun _ => rfl, fun _ => rfl, fun _ => rfl, fun _ => rfl, fun _ => rfl, fun _ => rfl, fun _ => rfl, fun _ => rfl, fun _ => rfl, fun _ => rfl, fun _ => rfl, fun _ => rfl, fun _ => rfl, fun _ => rfl, fun _ => rfl, fun _ => rfl, fun _ => rfl, fun _ => rfl, fun _ => rfl, fun _ => rfl, fun _ => rfl, fun _ => rfl, fun _ => rfl, fun _ => rfl⟩
set_option maxRecDepth 100000 in
theorem gd_X1_planSwap : mGood MX1_planSwap := ⟨by decide +kernel, by decide +kernel, by decide +kernel⟩
set_option maxRecDepth 100000 in
set_option maxHeartbeats 4000000 in
theorem ft_X1_planSlide : (∀ f : mE → Prop, w_o (mft MX1_planSlide 0) f = f (.aload_n 1, 1, 1, 0, 0, 0, 0)) ∧
  (∀ f : mE → Prop, w_o (mft MX1_planSlide 1) f = f (.iload_n 2, 2, 2, 0, 0, 0, 0)) ∧
  (∀ f : mE → Prop, w_o (mft MX1_planSlide 2) f = f (.iconst 1, 3, 0, 0, 0, (1), 0)) ∧
  (∀ f : mE → Prop, w_o (mft MX1_planSlide 3) f = f (.iconst 1, 4, 0, 0, 0, (1), 0)) ∧
  (∀ f : mE → Prop, w_o (mft MX1_planSlide 4) f = f (.iconst 1, 5, 0, 0, 0, (1), 0)) ∧
  (∀ f : mE → Prop, w_o (mft MX1_planSlide 5) f = f (.invokestatic 58, 8, 22, 5, 1, 0, 0)) ∧
  (∀ f : mE → Prop, w_o (mft MX1_planSlide 8) f = f (.ifCond .eq 11, 11, 19, 0, 0, 0, 0)) ∧
  (∀ f : mE → Prop, w_o (mft MX1_planSlide 11) f = f (.aload_n 1, 12, 1, 0, 0, 0, 0)) ∧
  (∀ f : mE → Prop, w_o (mft MX1_planSlide 12) f = f (.iload_n 2, 13, 2, 0, 0, 0, 0)) ∧
  (∀ f : mE → Prop, w_o (mft MX1_planSlide 13) f = f (.invokestatic 62, 16, 23, 2, 1, 0, 0)) ∧
  (∀ f : mE → Prop, w_o (mft MX1_planSlide 16) f = f (.ifCond .ne 5, 19, 21, 0, 0, 0, 0)) ∧
  (∀ f : mE → Prop, w_o (mft MX1_planSlide 19) f = f (.iconst 0, 20, 0, 0, 0, (0), 0)) ∧
  (∀ f : mE → Prop, w_o (mft MX1_planSlide 20) f = f (.ireturn, 21, 0, 0, 1, 0, 0)) ∧
  (∀ f : mE → Prop, w_o (mft MX1_planSlide 21) f = f (.aload_n 0, 22, 0, 0, 0, 0, 0)) ∧
  (∀ f : mE → Prop, w_o (mft MX1_planSlide 22) f = f (.iconst 3, 23, 0, 0, 0, (3), 0)) ∧
  (∀ f : mE → Prop, w_o (mft MX1_planSlide 23) f = f (.invokevirtual 50, 26, 13, 1, 1, 0, 0)) ∧
  (∀ f : mE → Prop, w_o (mft MX1_planSlide 26) f = f (.aload_n 1, 27, 1, 0, 0, 0, 0)) ∧
  (∀ f : mE → Prop, w_o (mft MX1_planSlide 27) f = f (.getfield 49, 30, 0, 1, 0, 0, 0)) ∧
  (∀ f : mE → Prop, w_o (mft MX1_planSlide 30) f = f (.iload_n 2, 31, 2, 0, 0, 0, 0)) ∧
  (∀ f : mE → Prop, w_o (mft MX1_planSlide 31) f = f (.iaload, 32, 0, 0, 0, 0, 0)) ∧
  (∀ f : mE → Prop, w_o (mft MX1_planSlide 32) f = f (.istore_n 3, 33, 3, 0, 0, 0, 0)) ∧
  (∀ f : mE → Prop, w_o (mft MX1_planSlide 33) f = f (.aload_n 1, 34, 1, 0, 0, 0, 0)) ∧
  (∀ f : mE → Prop, w_o (mft MX1_planSlide 34) f = f (.getfield 49, 37, 0, 1, 0, 0, 0)) ∧
  (∀ f : mE → Prop, w_o (mft MX1_planSlide 37) f = f (.iload_n 2, 38, 2, 0, 0, 0, 0)) ∧
  (∀ f : mE → Prop, w_o (mft MX1_planSlide 38) f = f (.iconst 1, 39, 0, 0, 0, (1), 0)) ∧
  (∀ f : mE → Prop, w_o (mft MX1_planSlide 39) f = f (.iadd, 40, 0, 0, 0, 0, 0)) ∧
  (∀ f : mE → Prop, w_o (mft MX1_planSlide 40) f = f (.iaload, 41, 0, 0, 0, 0, 0)) ∧
  (∀ f : mE → Prop, w_o (mft MX1_planSlide 41) f = f (.istore 4, 43, 4, 0, 0, 0, 0)) ∧
  (∀ f : mE → Prop, w_o (mft MX1_planSlide 43) f = f (.aload_n 0, 44, 0, 0, 0, 0, 0)) ∧
  (∀ f : mE → Prop, w_o (mft MX1_planSlide 44) f = f (.iconst 1, 45, 0, 0, 0, (1), 0)) ∧
  (∀ f : mE → Prop, w_o (mft MX1_planSlide 45) f = f (.iload 4, 47, 4, 0, 0, 0, 0)) ∧
  (∀ f : mE → Prop, w_o (mft MX1_planSlide 47) f = f (.iconst 1, 48, 0, 0, 0, (1), 0)) ∧
  (∀ f : mE → Prop, w_o (mft MX1_planSlide 48) f = f (.iload_n 3, 49, 3, 0, 0, 0, 0)) ∧
  (∀ f : mE → Prop, w_o (mft MX1_planSlide 49) f = f (.iconst 1, 50, 0, 0, 0, (1), 0)) ∧
  (∀ f : mE → Prop, w_o (mft MX1_planSlide 50) f = f (.iload 4, 52, 4, 0, 0, 0, 0)) ∧
  (∀ f : mE → Prop, w_o (mft MX1_planSlide 52) f = f (.invokevirtual 65, 55, 15, 6, 1, 0, 0)) ∧
  (∀ f : mE → Prop, w_o (mft MX1_planSlide 55) f = f (.iconst 1, 56, 0, 0, 0, (1), 0)) ∧
  (∀ f : mE → Prop, w_o (mft MX1_planSlide 56) f = f (.ireturn, 57, 0, 0, 1, 0, 0)) := ⟨fun _ => rfl, fun _ => rfl, fun _ => rfl, fun _ => rfl, fun _ => rfl, fun _ => rfl, fun _ => rfl, fun _ => rfl, fun _ => rfl, fun _ => rfl, fun _ => rfl, fun _ => rfl, fun _ => rfl, fun _ => rfl, fun _ => rfl, fun _ => rfl, fun _ => rfl, fun _ => rfl, fun _ => rfl, fun _ => rfl, fun _ => rfl, fun _ => rfl, fun _ => rfl, fun _ => rfl, fun _ => rfl, fun _ => rfl, fun _ => rfl, fun _ => rfl, fun _ => rfl, fun _ => rfl, fun _ => rfl, fun _ => rfl, fun _ => rfl, fun _ => rfl, fun _ => rfl, fun _ => rfl, fun _ => rfl, fun _ => rfl⟩
set_option maxRecDepth 100000 in
theorem gd_X1_planSlide : mGood MX1_planSlide := ⟨by decide +kernel, by decide +kernel, by decide +kernel⟩
set_option maxRecDepth 100000 in
set_option maxHeartbeats 4000000 in
theorem ft_X1_planUncurl : (∀ f : mE → Prop, w_o (mft MX1_planUncurl 0) f = f (.aload_n 0, 1, 0, 0, 0, 0, 0)) ∧
  (∀ f : mE → Prop, w_o (mft MX1_planUncurl 1) f = f (.iconst 3, 2, 0, 0, 0, (3), 0)) ∧
  (∀ f : mE → Prop, w_o (mft MX1_planUncurl 2) f = f (.invokevirtual 50, 5, 13, 1, 1, 0, 0)) ∧
  (∀ f : mE → Prop, w_o (mft MX1_planUncurl 5) f = f (.aload_n 1, 6, 1, 0, 0, 0, 0)) ∧
  (∀ f : mE → Prop, w_o (mft MX1_planUncurl 6) f = f (.iload_n 2, 7, 2, 0, 0, 0, 0)) ∧
  (∀ f : mE → Prop, w_o (mft MX1_planUncurl 7) f = f (.iconst 0, 8, 0, 0, 0, (0), 0)) ∧
  (∀ f : mE → Prop, w_o (mft MX1_planUncurl 8) f = f (.iconst 1, 9, 0, 0, 0, (1), 0)) ∧
  (∀ f : mE → Prop, w_o (mft MX1_planUncurl 9) f = f (.iconst 2, 10, 0, 0, 0, (2), 0)) ∧
  (∀ f : mE → Prop, w_o (mft MX1_planUncurl 10) f = f (.invokestatic 58, 13, 22, 5, 1, 0, 0)) ∧
  (∀ f : mE → Prop, w_o (mft MX1_planUncurl 13) f = f (.ifCond .eq 15, 16, 28, 0, 0, 0, 0)) ∧
  (∀ f : mE → Prop, w_o (mft MX1_planUncurl 16) f = f (.aload_n 1, 17, 1, 0, 0, 0, 0)) ∧
  (∀ f : mE → Prop, w_o (mft MX1_planUncurl 17) f = f (.iload_n 2, 18, 2, 0, 0, 0, 0)) ∧
  (∀ f : mE → Prop, w_o (mft MX1_planUncurl 18) f = f (.invokestatic 62, 21, 23, 2, 1, 0, 0)) ∧
  (∀ f : mE → Prop, w_o (mft MX1_planUncurl 21) f = f (.ifCond .eq 7, 24, 28, 0, 0, 0, 0)) ∧
  (∀ f : mE → Prop, w_o (mft MX1_planUncurl 24) f = f (.iconst 1, 25, 0, 0, 0, (1), 0)) ∧
  (∀ f : mE → Prop, w_o (mft MX1_planUncurl 25) f = f (.goto 4, 28, 29, 0, 0, 0, 0)) ∧
  (∀ f : mE → Prop, w_o (mft MX1_planUncurl 28) f = f (.iconst 0, 29, 0, 0, 0, (0), 0)) ∧
  (∀ f : mE → Prop, w_o (mft MX1_planUncurl 29) f = f (.ireturn, 30, 0, 0, 1, 0, 0)) := ⟨fun _ => rfl, fun _ => rfl, fun _ => rfl, fun _ => rfl, fun _ => rfl, fun _ => rfl, fun _ => rfl, fun _ => rfl, fun _ => rfl, fun _ => rfl, fun _ => rfl, fun _ => rfl, fun _ => rfl, fun _ => rfl, fun _ => rfl, fun _ => rfl, fun _ => rfl, fun _ => rfl⟩
set_option maxRecDepth 100000 in
theorem gd_X1_planUncurl : mGood MX1_planUncurl := ⟨by decide +kernel, by decide +kernel, by decide +kernel⟩
set_option maxRecDepth 100000 in
set_option maxHeartbeats 4000000 in
theorem ft_X1_planPull : (∀ f : mE → Prop, w_o (mft MX1_planPull 0) f = f (.aload_n 1, 1, 1, 0, 0, 0, 0)) ∧
  (∀ f : mE → Prop, w_o (mft MX1_planPull 1) f = f (.iload_n 2, 2, 2, 0, 0, 0, 0)) ∧
  (∀ f : mE → Prop, w_o (mft MX1_planPull 2) f = f (.iconst 0, 3, 0, 0, 0, (0), 0)) ∧
  (∀ f : mE → Prop, w_o (mft MX1_planPull 3) f = f (.iconst 1, 4, 0, 0, 0, (1), 0)) ∧
  (∀ f : mE → Prop, w_o (mft MX1_planPull 4) f = f (.iconst 1, 5, 0, 0, 0, (1), 0)) ∧
  (∀ f : mE → Prop, w_o (mft MX1_planPull 5) f = f (.invokestatic 58, 8, 22, 5, 1, 0, 0)) ∧
  (∀ f : mE → Prop, w_o (mft MX1_planPull 8) f = f (.istore_n 3, 9, 3, 0, 0, 0, 0)) ∧
  (∀ f : mE → Prop, w_o (mft MX1_planPull 9) f = f (.aload_n 1, 10, 1, 0, 0, 0, 0)) ∧
  (∀ f : mE → Prop, w_o (mft MX1_planPull 10) f = f (.iload_n 2, 11, 2, 0, 0, 0, 0)) ∧
  (∀ f : mE → Prop, w_o (mft MX1_planPull 11) f = f (.iconst 1, 12, 0, 0, 0, (1), 0)) ∧
  (∀ f : mE → Prop, w_o (mft MX1_planPull 12) f = f (.iconst 1, 13, 0, 0, 0, (1), 0)) ∧
  (∀ f : mE → Prop, w_o (mft MX1_planPull 13) f = f (.iconst 2, 14, 0, 0, 0, (2), 0)) ∧
  (∀ f : mE → Prop, w_o (mft MX1_planPull 14) f = f (.invokestatic 58, 17, 22, 5, 1, 0, 0)) ∧
  (∀ f : mE → Prop, w_o (mft MX1_planPull 17) f = f (.istore 4, 19, 4, 0, 0, 0, 0)) ∧
  (∀ f : mE → Prop, w_o (mft MX1_planPull 19) f = f (.iload_n 3, 20, 3, 0, 0, 0, 0)) ∧
  (∀ f : mE → Prop, w_o (mft MX1_planPull 20) f = f (.ifCond .ne 8, 23, 28, 0, 0, 0, 0)) ∧
  (∀ f : mE → Prop, w_o (mft MX1_planPull 23) f = f (.iload 4, 25, 4, 0, 0, 0, 0)) ∧
  (∀ f : mE → Prop, w_o (mft MX1_planPull 25) f = f (.ifCond .eq 11, 28, 36, 0, 0, 0, 0)) ∧
  (∀ f : mE → Prop, w_o (mft MX1_planPull 28) f = f (.aload_n 1, 29, 1, 0, 0, 0, 0)) ∧
  (∀ f : mE → Prop, w_o (mft MX1_planPull 29) f = f (.iload_n 2, 30, 2, 0, 0, 0, 0)) ∧
  (∀ f : mE → Prop, w_o (mft MX1_planPull 30) f = f (.invokestatic 62, 33, 23, 2, 1, 0, 0)) ∧
  (∀ f : mE → Prop, w_o (mft MX1_planPull 33) f = f (.ifCond .ne 5, 36, 38, 0, 0, 0, 0)) ∧
  (∀ f : mE → Prop, w_o (mft MX1_planPull 36) f = f (.iconst 0, 37, 0, 0, 0, (0), 0)) ∧
  (∀ f : mE → Prop, w_o (mft MX1_planPull 37) f = f (.ireturn, 38, 0, 0, 1, 0, 0)) ∧
  (∀ f : mE → Prop, w_o (mft MX1_planPull 38) f = f (.aload_n 0, 39, 0, 0, 0, 0, 0)) ∧
  (∀ f : mE → Prop, w_o (mft MX1_planPull 39) f = f (.iconst 3, 40, 0, 0, 0, (3), 0)) ∧
  (∀ f : mE → Prop, w_o (mft MX1_planPull 40) f = f (.invokevirtual 50, 43, 13, 1, 1, 0, 0)) ∧
  (∀ f : mE → Prop, w_o (mft MX1_planPull 43) f = f (.aload_n 0, 44, 0, 0, 0, 0, 0)) ∧
  (∀ f : mE → Prop, w_o (mft MX1_planPull 44) f = f (.iload_n 3, 45, 3, 0, 0, 0, 0)) ∧
  (∀ f : mE → Prop, w_o (mft MX1_planPull 45) f = f (.ifCond .eq 7, 48, 52, 0, 0, 0, 0)) ∧
  (∀ f : mE → Prop, w_o (mft MX1_planPull 48) f = f (.iconst 0, 49, 0, 0, 0, (0), 0)) ∧
  (∀ f : mE → Prop, w_o (mft MX1_planPull 49) f = f (.goto 4, 52, 53, 0, 0, 0, 0)) ∧
  (∀ f : mE → Prop, w_o (mft MX1_planPull 52) f = f (.iconst 2, 53, 0, 0, 0, (2), 0)) ∧
  (∀ f : mE → Prop, w_o (mft MX1_planPull 53) f = f (.aload_n 1, 54, 1, 0, 0, 0, 0)) ∧
  (∀ f : mE → Prop, w_o (mft MX1_planPull 54) f = f (.getfield 49, 57, 0, 1, 0, 0, 0)) ∧
  (∀ f : mE → Prop, w_o (mft MX1_planPull 57) f = f (.iload_n 2, 58, 2, 0, 0, 0, 0)) ∧
  (∀ f : mE → Prop, w_o (mft MX1_planPull 58) f = f (.iconst 1, 59, 0, 0, 0, (1), 0)) ∧
  (∀ f : mE → Prop, w_o (mft MX1_planPull 59) f = f (.iadd, 60, 0, 0, 0, 0, 0)) ∧
  (∀ f : mE → Prop, w_o (mft MX1_planPull 60) f = f (.iaload, 61, 0, 0, 0, 0, 0)) ∧
  (∀ f : mE → Prop, w_o (mft MX1_planPull 61) f = f (.invokevirtual 25, 64, 14, 2, 1, 0, 0)) ∧
  (∀ f : mE → Prop, w_o (mft MX1_planPull 64) f = f (.iconst 1, 65, 0, 0, 0, (1), 0)) ∧
  (∀ f : mE → Prop, w_o (mft MX1_planPull 65) f = f (.ireturn, 66, 0, 0, 1, 0, 0)) := ⟨fun _ => rfl, fun _ => rfl, fun _ => rfl, fun _ => rfl, fun _ => rfl, fun _ => rfl, fun _ => rfl, fun _ => rfl, fun _ => rfl, fun _ => rfl, fun _ => rfl, fun _ => rfl, fun _ => rfl, fun _ => rfl, fun _ => rfl, fun _ => rfl, fun _ => rfl, fun _ => rfl, fun _ => rfl, fun _ => rfl, fun _ => rfl, fun _ => rfl, fun _ => rfl, fun _ => rfl, fun _ => rfl, fun _ => rfl, fun _ => rfl, fun _ => rfl, fun _ => rfl, fun _ => rfl, fun _ => rfl, fun _ => rfl, fun _ => rfl, fun _ => rfl, fun _ => rfl, fun _ => rfl, fun _ => rfl, fun _ => rfl, fun _ => rfl, fun _ => rfl, fun _ => rfl, fun _ => rfl⟩
set_option maxRecDepth 100000 in
theorem gd_X1_planPull : mGood MX1_planPull := ⟨by decide +kernel, by decide +kernel, by decide +kernel⟩
set_option maxRecDepth 100000 in
set_option maxHeartbeats 4000000 in
theorem ft_X1_planStraighten : (∀ f : mE → Prop, w_o (mft MX1_planStraighten 0) f = f (.aload_n 0, 1, 0, 0, 0, 0, 0)) ∧
  (∀ f : mE → Prop, w_o (mft MX1_planStraighten 1) f = f (.iconst 2, 2, 0, 0, 0, (2), 0)) ∧
  (∀ f : mE → Prop, w_o (mft MX1_planStraighten 2) f = f (.invokevirtual 50, 5, 13, 1, 1, 0, 0)) ∧
  (∀ f : mE → Prop, w_o (mft MX1_planStraighten 5) f = f (.iload_n 2, 6, 2, 0, 0, 0, 0)) ∧
  (∀ f : mE → Prop, w_o (mft MX1_planStraighten 6) f = f (.iconst 1, 7, 0, 0, 0, (1), 0)) ∧
  (∀ f : mE → Prop, w_o (mft MX1_planStraighten 7) f = f (.iadd, 8, 0, 0, 0, 0, 0)) ∧
  (∀ f : mE → Prop, w_o (mft MX1_planStraighten 8) f = f (.aload_n 1, 9, 1, 0, 0, 0, 0)) ∧
  (∀ f : mE → Prop, w_o (mft MX1_planStraighten 9) f = f (.getfield 45, 12, 0, 3, 0, 0, 0)) ∧
  (∀ f : mE → Prop, w_o (mft MX1_planStraighten 12) f = f (.if_icmp .ge 50, 15, 62, 0, 0, 0, 0)) ∧
  (∀ f : mE → Prop, w_o (mft MX1_planStraighten 15) f = f (.aload_n 1, 16, 1, 0, 0, 0, 0)) ∧
  (∀ f : mE → Prop, w_o (mft MX1_planStraighten 16) f = f (.getfield 48, 19, 0, 0, 0, 0, 0)) ∧
  (∀ f : mE → Prop, w_o (mft MX1_planStraighten 19) f = f (.iload_n 2, 20, 2, 0, 0, 0, 0)) ∧
  (∀ f : mE → Prop, w_o (mft MX1_planStraighten 20) f = f (.iaload, 21, 0, 0, 0, 0, 0)) ∧
  (∀ f : mE → Prop, w_o (mft MX1_planStraighten 21) f = f (.ifCond .ne 41, 24, 62, 0, 0, 0, 0)) ∧
  (∀ f : mE → Prop, w_o (mft MX1_planStraighten 24) f = f (.aload_n 1, 25, 1, 0, 0, 0, 0)) ∧
  (∀ f : mE → Prop, w_o (mft MX1_planStraighten 25) f = f (.getfield 48, 28, 0, 0, 0, 0, 0)) ∧
  (∀ f : mE → Prop, w_o (mft MX1_planStraighten 28) f = f (.iload_n 2, 29, 2, 0, 0, 0, 0)) ∧
  (∀ f : mE → Prop, w_o (mft MX1_planStraighten 29) f = f (.iconst 1, 30, 0, 0, 0, (1), 0)) ∧
  (∀ f : mE → Prop, w_o (mft MX1_planStraighten 30) f = f (.iadd, 31, 0, 0, 0, 0, 0)) ∧
  (∀ f : mE → Prop, w_o (mft MX1_planStraighten 31) f = f (.iaload, 32, 0, 0, 0, 0, 0)) ∧
  (∀ f : mE → Prop, w_o (mft MX1_planStraighten 32) f = f (.iconst 2, 33, 0, 0, 0, (2), 0)) ∧
  (∀ f : mE → Prop, w_o (mft MX1_planStraighten 33) f = f (.if_icmp .ne 29, 36, 62, 0, 0, 0, 0)) ∧
  (∀ f : mE → Prop, w_o (mft MX1_planStraighten 36) f = f (.aload_n 1, 37, 1, 0, 0, 0, 0)) ∧
  (∀ f : mE → Prop, w_o (mft MX1_planStraighten 37) f = f (.getfield 49, 40, 0, 1, 0, 0, 0)) ∧
  (∀ f : mE → Prop, w_o (mft MX1_planStraighten 40) f = f (.iload_n 2, 41, 2, 0, 0, 0, 0)) ∧
  (∀ f : mE → Prop, w_o (mft MX1_planStraighten 41) f = f (.iaload, 42, 0, 0, 0, 0, 0)) ∧
  (∀ f : mE → Prop, w_o (mft MX1_planStraighten 42) f = f (.aload_n 1, 43, 1, 0, 0, 0, 0)) ∧
  (∀ f : mE → Prop, w_o (mft MX1_planStraighten 43) f = f (.getfield 49, 46, 0, 1, 0, 0, 0)) ∧
  (∀ f : mE → Prop, w_o (mft MX1_planStraighten 46) f = f (.iload_n 2, 47, 2, 0, 0, 0, 0)) ∧
  (∀ f : mE → Prop, w_o (mft MX1_planStraighten 47) f = f (.iconst 1, 48, 0, 0, 0, (1), 0)) ∧
  (∀ f : mE → Prop, w_o (mft MX1_planStraighten 48) f = f (.iadd, 49, 0, 0, 0, 0, 0)) ∧
  (∀ f : mE → Prop, w_o (mft MX1_planStraighten 49) f = f (.iaload, 50, 0, 0, 0, 0, 0)) ∧
  (∀ f : mE → Prop, w_o (mft MX1_planStraighten 50) f = f (.isub, 51, 0, 0, 0, 0, 0)) ∧
  (∀ f : mE → Prop, w_o (mft MX1_planStraighten 51) f = f (.invokestatic 69, 54, 1012, 0, 0, 0, 0)) ∧
  (∀ f : mE → Prop, w_o (mft MX1_planStraighten 54) f = f (.iconst 1, 55, 0, 0, 0, (1), 0)) ∧
  (∀ f : mE → Prop, w_o (mft MX1_planStraighten 55) f = f (.if_icmp .ne 7, 58, 62, 0, 0, 0, 0)) ∧
  (∀ f : mE → Prop, w_o (mft MX1_planStraighten 58) f = f (.iconst 1, 59, 0, 0, 0, (1), 0)) ∧
  (∀ f : mE → Prop, w_o (mft MX1_planStraighten 59) f = f (.goto 4, 62, 63, 0, 0, 0, 0)) ∧
  (∀ f : mE → Prop, w_o (mft MX1_planStraighten 62) f = f (.iconst 0, 63, 0, 0, 0, (0), 0)) ∧
  (∀ f : mE → Prop, w_o (mft MX1_planStraighten 63) f = f (.ireturn, 64, 0, 0, 1, 0, 0)) := ⟨fun _ => rfl, fun _ => rfl, fun _ => rfl, fun _ => rfl, fun _ => rfl, fun _ => rfl, fun _ => rfl, fun _ => rfl, fun _ => rfl, fun _ => rfl, fun _ => rfl, fun _ => rfl, fun _ => rfl, fun _ => rfl, fun _ => rfl, fun _ => rfl, fun _ => rfl, fun _ => rfl, fun _ => rfl, fun _ => rfl, fun _ => rfl, fun _ => rfl, fun _ => rfl, fun _ => rfl, fun _ => rfl, fun _ => rfl, fun _ => rfl, fun _ => rfl, fun _ => rfl, fun _ => rfl, fun _ => rfl, fun _ => rfl, fun _ => rfl, fun _ => rfl, fun _ => rfl, fun _ => rfl, fun _ => rfl, fun _ => rfl, fun _ => rfl, fun _ => rfl⟩
set_option maxRecDepth 100000 in
theorem gd_X1_planStraighten : mGood MX1_planStraighten := ⟨by decide +kernel, by decide +kernel, by decide +kernel⟩
set_option maxRecDepth 100000 in
set_option maxHeartbeats 4000000 in
theorem ft_X1_hasKinds : (∀ f : mE → Prop, w_o (mft MX1_hasKinds 0) f = f (.iload_n 1, 1, 1, 0, 0, 0, 0)) ∧
  (∀ f : mE → Prop, w_o (mft MX1_hasKinds 1) f = f (.iconst 2, 2, 0, 0, 0, (2), 0)) ∧
  (∀ f : mE → Prop, w_o (mft MX1_hasKinds 2) f = f (.iadd, 3, 0, 0, 0, 0, 0)) ∧
  (∀ f : mE → Prop, w_o (mft MX1_hasKinds 3) f = f (.aload_n 0, 4, 0, 0, 0, 0, 0)) ∧
  (∀ f : mE → Prop, w_o (mft MX1_hasKinds 4) f = f (.getfield 45, 7, 0, 3, 0, 0, 0)) ∧
  (∀ f : mE → Prop, w_o (mft MX1_hasKinds 7) f = f (.if_icmp .ge 42, 10, 49, 0, 0, 0, 0)) ∧
  (∀ f : mE → Prop, w_o (mft MX1_hasKinds 10) f = f (.aload_n 0, 11, 0, 0, 0, 0, 0)) ∧
  (∀ f : mE → Prop, w_o (mft MX1_hasKinds 11) f = f (.getfield 48, 14, 0, 0, 0, 0, 0)) ∧
  (∀ f : mE → Prop, w_o (mft MX1_hasKinds 14) f = f (.iload_n 1, 15, 1, 0, 0, 0, 0)) ∧
  (∀ f : mE → Prop, w_o (mft MX1_hasKinds 15) f = f (.iaload, 16, 0, 0, 0, 0, 0)) ∧
  (∀ f : mE → Prop, w_o (mft MX1_hasKinds 16) f = f (.iload_n 2, 17, 2, 0, 0, 0, 0)) ∧
  (∀ f : mE → Prop, w_o (mft MX1_hasKinds 17) f = f (.if_icmp .ne 32, 20, 49, 0, 0, 0, 0)) ∧
  (∀ f : mE → Prop, w_o (mft MX1_hasKinds 20) f = f (.aload_n 0, 21, 0, 0, 0, 0, 0)) ∧
  (∀ f : mE → Prop, w_o (mft MX1_hasKinds 21) f = f (.getfield 48, 24, 0, 0, 0, 0, 0)) ∧
  (∀ f : mE → Prop, w_o (mft MX1_hasKinds 24) f = f (.iload_n 1, 25, 1, 0, 0, 0, 0)) ∧
  (∀ f : mE → Prop, w_o (mft MX1_hasKinds 25) f = f (.iconst 1, 26, 0, 0, 0, (1), 0)) ∧
  (∀ f : mE → Prop, w_o (mft MX1_hasKinds 26) f = f (.iadd, 27, 0, 0, 0, 0, 0)) ∧
  (∀ f : mE → Prop, w_o (mft MX1_hasKinds 27) f = f (.iaload, 28, 0, 0, 0, 0, 0)) ∧
  (∀ f : mE → Prop, w_o (mft MX1_hasKinds 28) f = f (.iload_n 3, 29, 3, 0, 0, 0, 0)) ∧
  (∀ f : mE → Prop, w_o (mft MX1_hasKinds 29) f = f (.if_icmp .ne 20, 32, 49, 0, 0, 0, 0)) ∧
  (∀ f : mE → Prop, w_o (mft MX1_hasKinds 32) f = f (.aload_n 0, 33, 0, 0, 0, 0, 0)) ∧
  (∀ f : mE → Prop, w_o (mft MX1_hasKinds 33) f = f (.getfield 48, 36, 0, 0, 0, 0, 0)) ∧
  (∀ f : mE → Prop, w_o (mft MX1_hasKinds 36) f = f (.iload_n 1, 37, 1, 0, 0, 0, 0)) ∧
  (∀ f : mE → Prop, w_o (mft MX1_hasKinds 37) f = f (.iconst 2, 38, 0, 0, 0, (2), 0)) ∧
  (∀ f : mE → Prop, w_o (mft MX1_hasKinds 38) f = f (.iadd, 39, 0, 0, 0, 0, 0)) ∧
  (∀ f : mE → Prop, w_o (mft MX1_hasKinds 39) f = f (.iaload, 40, 0, 0, 0, 0, 0)) ∧
  (∀ f : mE → Prop, w_o (mft MX1_hasKinds 40) f = f (.iload 4, 42, 4, 0, 0, 0, 0)) ∧
  (∀ f : mE → Prop, w_o (mft MX1_hasKinds 42) f = f (.if_icmp .ne 7, 45, 49, 0, 0, 0, 0)) ∧
  (∀ f : mE → Prop, w_o (mft MX1_hasKinds 45) f = f (.iconst 1, 46, 0, 0, 0, (1), 0)) ∧
  (∀ f : mE → Prop, w_o (mft MX1_hasKinds 46) f = f (.goto 4, 49, 50, 0, 0, 0, 0)) ∧
  (∀ f : mE → Prop, w_o (mft MX1_hasKinds 49) f = f (.iconst 0, 50, 0, 0, 0, (0), 0)) ∧
  (∀ f : mE → Prop, w_o (mft MX1_hasKinds 50) f = f (.ireturn, 51, 0, 0, 1, 0, 0)) := ⟨fun _ => rfl, fun _ => rfl, fun _ => rfl, fun _ => rfl, fun _ => rfl, fun _ => rfl, fun _ => rfl, fun _ => rfl, fun _ => rfl, fun _ => rfl, fun _ => rfl, fun _ => rfl, fun _ => rfl, fun _ => rfl, fun _ => rfl, fun _ => rfl, fun _ => rfl, fun _ => rfl, fun _ => rfl, fun _ => rfl, fun _ => rfl, fun _ => rfl, fun _ => rfl, fun _ => rfl, fun _ => rfl, fun _ => rfl, fun _ => rfl, fun _ => rfl, fun _ => rfl, fun _ => rfl, fun _ => rfl, fun _ => rfl⟩
set_option maxRecDepth 100000 in
theorem gd_X1_hasKinds : mGood MX1_hasKinds := ⟨by decide +kernel, by decide +kernel, by decide +kernel⟩
set_option maxRecDepth 100000 in
set_option maxHeartbeats 4000000 in
theorem ft_X1_goesThereAndBack : (∀ f : mE → Prop, w_o (mft MX1_goesThereAndBack 0) f = f (.aload_n 0, 1, 0, 0, 0, 0, 0)) ∧
  (∀ f : mE → Prop, w_o (mft MX1_goesThereAndBack 1) f = f (.getfield 49, 4, 0, 1, 0, 0, 0)) ∧
  (∀ f : mE → Prop, w_o (mft MX1_goesThereAndBack 4) f = f (.iload_n 1, 5, 1, 0, 0, 0, 0)) ∧
  (∀ f : mE → Prop, w_o (mft MX1_goesThereAndBack 5) f = f (.iaload, 6, 0, 0, 0, 0, 0)) ∧
  (∀ f : mE → Prop, w_o (mft MX1_goesThereAndBack 6) f = f (.aload_n 0, 7, 0, 0, 0, 0, 0)) ∧
  (∀ f : mE → Prop, w_o (mft MX1_goesThereAndBack 7) f = f (.getfield 49, 10, 0, 1, 0, 0, 0)) ∧
  (∀ f : mE → Prop, w_o (mft MX1_goesThereAndBack 10) f = f (.iload_n 1, 11, 1, 0, 0, 0, 0)) ∧
  (∀ f : mE → Prop, w_o (mft MX1_goesThereAndBack 11) f = f (.iconst 2, 12, 0, 0, 0, (2), 0)) ∧
  (∀ f : mE → Prop, w_o (mft MX1_goesThereAndBack 12) f = f (.iadd, 13, 0, 0, 0, 0, 0)) ∧
  (∀ f : mE → Prop, w_o (mft MX1_goesThereAndBack 13) f = f (.iaload, 14, 0, 0, 0, 0, 0)) ∧
  (∀ f : mE → Prop, w_o (mft MX1_goesThereAndBack 14) f = f (.if_icmp .ne 29, 17, 43, 0, 0, 0, 0)) ∧
  (∀ f : mE → Prop, w_o (mft MX1_goesThereAndBack 17) f = f (.aload_n 0, 18, 0, 0, 0, 0, 0)) ∧
  (∀ f : mE → Prop, w_o (mft MX1_goesThereAndBack 18) f = f (.getfield 49, 21, 0, 1, 0, 0, 0)) ∧
  (∀ f : mE → Prop, w_o (mft MX1_goesThereAndBack 21) f = f (.iload_n 1, 22, 1, 0, 0, 0, 0)) ∧
  (∀ f : mE → Prop, w_o (mft MX1_goesThereAndBack 22) f = f (.iaload, 23, 0, 0, 0, 0, 0)) ∧
  (∀ f : mE → Prop, w_o (mft MX1_goesThereAndBack 23) f = f (.aload_n 0, 24, 0, 0, 0, 0, 0)) ∧
  (∀ f : mE → Prop, w_o (mft MX1_goesThereAndBack 24) f = f (.getfield 49, 27, 0, 1, 0, 0, 0)) ∧
  (∀ f : mE → Prop, w_o (mft MX1_goesThereAndBack 27) f = f (.iload_n 1, 28, 1, 0, 0, 0, 0)) ∧
  (∀ f : mE → Prop, w_o (mft MX1_goesThereAndBack 28) f = f (.iconst 1, 29, 0, 0, 0, (1), 0)) ∧
  (∀ f : mE → Prop, w_o (mft MX1_goesThereAndBack 29) f = f (.iadd, 30, 0, 0, 0, 0, 0)) ∧
  (∀ f : mE → Prop, w_o (mft MX1_goesThereAndBack 30) f = f (.iaload, 31, 0, 0, 0, 0, 0)) ∧
  (∀ f : mE → Prop, w_o (mft MX1_goesThereAndBack 31) f = f (.isub, 32, 0, 0, 0, 0, 0)) ∧
  (∀ f : mE → Prop, w_o (mft MX1_goesThereAndBack 32) f = f (.invokestatic 69, 35, 1012, 0, 0, 0, 0)) ∧
  (∀ f : mE → Prop, w_o (mft MX1_goesThereAndBack 35) f = f (.iconst 1, 36, 0, 0, 0, (1), 0)) ∧
  (∀ f : mE → Prop, w_o (mft MX1_goesThereAndBack 36) f = f (.if_icmp .ne 7, 39, 43, 0, 0, 0, 0)) ∧
  (∀ f : mE → Prop, w_o (mft MX1_goesThereAndBack 39) f = f (.iconst 1, 40, 0, 0, 0, (1), 0)) ∧
  (∀ f : mE → Prop, w_o (mft MX1_goesThereAndBack 40) f = f (.goto 4, 43, 44, 0, 0, 0, 0)) ∧
  (∀ f : mE → Prop, w_o (mft MX1_goesThereAndBack 43) f = f (.iconst 0, 44, 0, 0, 0, (0), 0)) ∧
  (∀ f : mE → Prop, w_o (mft MX1_goesThereAndBack 44) f = f (.ireturn, 45, 0, 0, 1, 0, 0)) := ⟨fun _ => rfl, fun _ => rfl, fun _ => rfl, fun _ => rfl, fun _ => rfl, fun _ => rfl, fun _ => rfl, fun _ => rfl, fun _ => rfl, fun _ => rfl, fun _ => rfl, fun _ => rfl, fun _ => rfl, fun _ => rfl, fun _ => rfl, fun _ => rfl, fun _ => rfl, fun _ => rfl, fun _ => rfl, fun _ => rfl, fun _ => rfl, fun _ => rfl, fun _ => rfl, fun _ => rfl, fun _ => rfl, fun _ => rfl, fun _ => rfl, fun _ => rfl, fun _ => rfl⟩
set_option maxRecDepth 100000 in
theorem gd_X1_goesThereAndBack : mGood MX1_goesThereAndBack := ⟨by decide +kernel, by decide +kernel, by decide +kernel⟩
set_option maxRecDepth 100000 in
set_option maxHeartbeats 4000000 in
theorem ft_X1_planAdd : (∀ f : mE → Prop, w_o (mft MX1_planAdd 0) f = f (.aload_n 0, 1, 0, 0, 0, 0, 0)) ∧
  (∀ f : mE → Prop, w_o (mft MX1_planAdd 1) f = f (.iconst 0, 2, 0, 0, 0, (0), 0)) ∧
  (∀ f : mE → Prop, w_o (mft MX1_planAdd 2) f = f (.invokevirtual 50, 5, 13, 1, 1, 0, 0)) ∧
  (∀ f : mE → Prop, w_o (mft MX1_planAdd 5) f = f (.iload_n 1, 6, 1, 0, 0, 0, 0)) ∧
  (∀ f : mE → Prop, w_o (mft MX1_planAdd 6) f = f (.tableswitch 75 0 2 #[26, 43, 58], 32, 0, 0, 0, 0, 0)) ∧
  (∀ f : mE → Prop, w_o (mft MX1_planAdd 32) f = f (.aload_n 0, 33, 0, 0, 0, 0, 0)) ∧
  (∀ f : mE → Prop, w_o (mft MX1_planAdd 33) f = f (.iconst 0, 34, 0, 0, 0, (0), 0)) ∧
  (∀ f : mE → Prop, w_o (mft MX1_planAdd 34) f = f (.iload_n 2, 35, 2, 0, 0, 0, 0)) ∧
  (∀ f : mE → Prop, w_o (mft MX1_planAdd 35) f = f (.iconst 1, 36, 0, 0, 0, (1), 0)) ∧
  (∀ f : mE → Prop, w_o (mft MX1_planAdd 36) f = f (.iadd, 37, 0, 0, 0, 0, 0)) ∧
  (∀ f : mE → Prop, w_o (mft MX1_planAdd 37) f = f (.iconst 1, 38, 0, 0, 0, (1), 0)) ∧
  (∀ f : mE → Prop, w_o (mft MX1_planAdd 38) f = f (.iload_n 2, 39, 2, 0, 0, 0, 0)) ∧
  (∀ f : mE → Prop, w_o (mft MX1_planAdd 39) f = f (.iconst 2, 40, 0, 0, 0, (2), 0)) ∧
  (∀ f : mE → Prop, w_o (mft MX1_planAdd 40) f = f (.iload_n 2, 41, 2, 0, 0, 0, 0)) ∧
  (∀ f : mE → Prop, w_o (mft MX1_planAdd 41) f = f (.iconst 1, 42, 0, 0, 0, (1), 0)) ∧
  (∀ f : mE → Prop, w_o (mft MX1_planAdd 42) f = f (.iadd, 43, 0, 0, 0, 0, 0)) ∧
  (∀ f : mE → Prop, w_o (mft MX1_planAdd 43) f = f (.invokevirtual 65, 46, 15, 6, 1, 0, 0)) ∧
  (∀ f : mE → Prop, w_o (mft MX1_planAdd 46) f = f (.goto 49, 49, 95, 0, 0, 0, 0)) ∧
  (∀ f : mE → Prop, w_o (mft MX1_planAdd 49) f = f (.aload_n 0, 50, 0, 0, 0, 0, 0)) ∧
  (∀ f : mE → Prop, w_o (mft MX1_planAdd 50) f = f (.iconst 0, 51, 0, 0, 0, (0), 0)) ∧
  (∀ f : mE → Prop, w_o (mft MX1_planAdd 51) f = f (.iload_n 2, 52, 2, 0, 0, 0, 0)) ∧
  (∀ f : mE → Prop, w_o (mft MX1_planAdd 52) f = f (.iconst 1, 53, 0, 0, 0, (1), 0)) ∧
  (∀ f : mE → Prop, w_o (mft MX1_planAdd 53) f = f (.iload_n 2, 54, 2, 0, 0, 0, 0)) ∧
  (∀ f : mE → Prop, w_o (mft MX1_planAdd 54) f = f (.iconst 1, 55, 0, 0, 0, (1), 0)) ∧
  (∀ f : mE → Prop, w_o (mft MX1_planAdd 55) f = f (.iadd, 56, 0, 0, 0, 0, 0)) ∧
  (∀ f : mE → Prop, w_o (mft MX1_planAdd 56) f = f (.iconst 2, 57, 0, 0, 0, (2), 0)) ∧
  (∀ f : mE → Prop, w_o (mft MX1_planAdd 57) f = f (.iload_n 2, 58, 2, 0, 0, 0, 0)) ∧
  (∀ f : mE → Prop, w_o (mft MX1_planAdd 58) f = f (.invokevirtual 65, 61, 15, 6, 1, 0, 0)) ∧
  (∀ f : mE → Prop, w_o (mft MX1_planAdd 61) f = f (.goto 34, 64, 95, 0, 0, 0, 0)) ∧
  (∀ f : mE → Prop, w_o (mft MX1_planAdd 64) f = f (.aload_n 0, 65, 0, 0, 0, 0, 0)) ∧
  (∀ f : mE → Prop, w_o (mft MX1_planAdd 65) f = f (.iconst 0, 66, 0, 0, 0, (0), 0)) ∧
  (∀ f : mE → Prop, w_o (mft MX1_planAdd 66) f = f (.iload_n 2, 67, 2, 0, 0, 0, 0)) ∧
  (∀ f : mE → Prop, w_o (mft MX1_planAdd 67) f = f (.iconst 1, 68, 0, 0, 0, (1), 0)) ∧
  (∀ f : mE → Prop, w_o (mft MX1_planAdd 68) f = f (.iadd, 69, 0, 0, 0, 0, 0)) ∧
  (∀ f : mE → Prop, w_o (mft MX1_planAdd 69) f = f (.invokevirtual 25, 72, 14, 2, 1, 0, 0)) ∧
  (∀ f : mE → Prop, w_o (mft MX1_planAdd 72) f = f (.aload_n 0, 73, 0, 0, 0, 0, 0)) ∧
  (∀ f : mE → Prop, w_o (mft MX1_planAdd 73) f = f (.iconst 2, 74, 0, 0, 0, (2), 0)) ∧
  (∀ f : mE → Prop, w_o (mft MX1_planAdd 74) f = f (.iload_n 2, 75, 2, 0, 0, 0, 0)) ∧
  (∀ f : mE → Prop, w_o (mft MX1_planAdd 75) f = f (.invokevirtual 25, 78, 14, 2, 1, 0, 0)) ∧
  (∀ f : mE → Prop, w_o (mft MX1_planAdd 78) f = f (.goto 17, 81, 95, 0, 0, 0, 0)) ∧
  (∀ f : mE → Prop, w_o (mft MX1_planAdd 81) f = f (.aload_n 0, 82, 0, 0, 0, 0, 0)) ∧
  (∀ f : mE → Prop, w_o (mft MX1_planAdd 82) f = f (.iconst 0, 83, 0, 0, 0, (0), 0)) ∧
  (∀ f : mE → Prop, w_o (mft MX1_planAdd 83) f = f (.iload_n 2, 84, 2, 0, 0, 0, 0)) ∧
  (∀ f : mE → Prop, w_o (mft MX1_planAdd 84) f = f (.invokevirtual 25, 87, 14, 2, 1, 0, 0)) ∧
  (∀ f : mE → Prop, w_o (mft MX1_planAdd 87) f = f (.aload_n 0, 88, 0, 0, 0, 0, 0)) ∧
  (∀ f : mE → Prop, w_o (mft MX1_planAdd 88) f = f (.iconst 2, 89, 0, 0, 0, (2), 0)) ∧
  (∀ f : mE → Prop, w_o (mft MX1_planAdd 89) f = f (.iload_n 2, 90, 2, 0, 0, 0, 0)) ∧
  (∀ f : mE → Prop, w_o (mft MX1_planAdd 90) f = f (.iconst 1, 91, 0, 0, 0, (1), 0)) ∧
  (∀ f : mE → Prop, w_o (mft MX1_planAdd 91) f = f (.iadd, 92, 0, 0, 0, 0, 0)) ∧
  (∀ f : mE → Prop, w_o (mft MX1_planAdd 92) f = f (.invokevirtual 25, 95, 14, 2, 1, 0, 0)) ∧
  (∀ f : mE → Prop, w_o (mft MX1_planAdd 95) f = f (.return_, 96, 0, 0, 0, 0, 0)) := ⟨fun _ => rfl, fun _ => rfl, fun _ => rfl, fun _ => rfl, fun _ => rfl, fun _ => rfl, fun _ => rfl, fun _ => rfl, fun _ => rfl, fun _ => rfl, fun _ => rfl, fun _ => rfl, fun _ => rfl, fun _ => rfl, fun _ => rfl, fun _ => rfl, fun _ => rfl, fun _ => rfl, fun _ => rfl, fun _ => rfl, fun _ => rfl, fun _ => rfl, fun _ => rfl, fun _ => rfl, fun _ => rfl, fun _ => rfl, fun _ => rfl, fun _ => rfl, fun _ => rfl, fun _ => rfl, fun _ => rfl, fun _ => rfl, fun _ => rfl, fun _ => rfl, fun _ => rfl, fun _ => rfl, fun _ => rfl, fun _ => rfl, fun _ => rfl, fun _ => rfl, fun _ => rfl, fun _ => rfl, fun _ => rfl, fun _ => rfl, fun _ => rfl, fun _ => rfl, fun _ => rfl, fun _ => rfl, fun _ => rfl, fun _ => rfl, fun _ => rfl⟩
set_option maxRecDepth 100000 in
theorem gd_X1_planAdd : mGood MX1_planAdd := ⟨by decide +kernel, by decide +kernel, by decide +kernel⟩
set_option maxRecDepth 100000 in
set_option maxHeartbeats 4000000 in
theorem ft_X1_planPush : (∀ f : mE → Prop, w_o (mft MX1_planPush 0) f = f (.aload_n 0, 1, 0, 0, 0, 0, 0)) ∧
  (∀ f : mE → Prop, w_o (mft MX1_planPush 1) f = f (.iconst 1, 2, 0, 0, 0, (1), 0)) ∧
  (∀ f : mE → Prop, w_o (mft MX1_planPush 2) f = f (.invokevirtual 50, 5, 13, 1, 1, 0, 0)) ∧
  (∀ f : mE → Prop, w_o (mft MX1_planPush 5) f = f (.aload_n 1, 6, 1, 0, 0, 0, 0)) ∧
  (∀ f : mE → Prop, w_o (mft MX1_planPush 6) f = f (.getfield 49, 9, 0, 1, 0, 0, 0)) ∧
  (∀ f : mE → Prop, w_o (mft MX1_planPush 9) f = f (.iload_n 3, 10, 3, 0, 0, 0, 0)) ∧
  (∀ f : mE → Prop, w_o (mft MX1_planPush 10) f = f (.iaload, 11, 0, 0, 0, 0, 0)) ∧
  (∀ f : mE → Prop, w_o (mft MX1_planPush 11) f = f (.istore 4, 13, 4, 0, 0, 0, 0)) ∧
  (∀ f : mE → Prop, w_o (mft MX1_planPush 13) f = f (.aload_n 1, 14, 1, 0, 0, 0, 0)) ∧
  (∀ f : mE → Prop, w_o (mft MX1_planPush 14) f = f (.getfield 48, 17, 0, 0, 0, 0, 0)) ∧
  (∀ f : mE → Prop, w_o (mft MX1_planPush 17) f = f (.iload_n 3, 18, 3, 0, 0, 0, 0)) ∧
  (∀ f : mE → Prop, w_o (mft MX1_planPush 18) f = f (.iaload, 19, 0, 0, 0, 0, 0)) ∧
  (∀ f : mE → Prop, w_o (mft MX1_planPush 19) f = f (.lookupswitch 53 #[(0, 25), (2, 39)], 44, 0, 0, 0, 0, 0)) ∧
  (∀ f : mE → Prop, w_o (mft MX1_planPush 44) f = f (.aload_n 0, 45, 0, 0, 0, 0, 0)) ∧
  (∀ f : mE → Prop, w_o (mft MX1_planPush 45) f = f (.iload_n 2, 46, 2, 0, 0, 0, 0)) ∧
  (∀ f : mE → Prop, w_o (mft MX1_planPush 46) f = f (.iload 4, 48, 4, 0, 0, 0, 0)) ∧
  (∀ f : mE → Prop, w_o (mft MX1_planPush 48) f = f (.aload_n 1, 49, 1, 0, 0, 0, 0)) ∧
  (∀ f : mE → Prop, w_o (mft MX1_planPush 49) f = f (.getfield 74, 52, 0, 2, 0, 0, 0)) ∧
  (∀ f : mE → Prop, w_o (mft MX1_planPush 52) f = f (.iload_n 3, 53, 3, 0, 0, 0, 0)) ∧
  (∀ f : mE → Prop, w_o (mft MX1_planPush 53) f = f (.iaload, 54, 0, 0, 0, 0, 0)) ∧
  (∀ f : mE → Prop, w_o (mft MX1_planPush 54) f = f (.invokevirtual 77, 57, 26, 3, 1, 0, 0)) ∧
  (∀ f : mE → Prop, w_o (mft MX1_planPush 57) f = f (.ireturn, 58, 0, 0, 1, 0, 0)) ∧
  (∀ f : mE → Prop, w_o (mft MX1_planPush 58) f = f (.aload_n 0, 59, 0, 0, 0, 0, 0)) ∧
  (∀ f : mE → Prop, w_o (mft MX1_planPush 59) f = f (.iload_n 2, 60, 2, 0, 0, 0, 0)) ∧
  (∀ f : mE → Prop, w_o (mft MX1_planPush 60) f = f (.iload 4, 62, 4, 0, 0, 0, 0)) ∧
  (∀ f : mE → Prop, w_o (mft MX1_planPush 62) f = f (.aload_n 1, 63, 1, 0, 0, 0, 0)) ∧
  (∀ f : mE → Prop, w_o (mft MX1_planPush 63) f = f (.getfield 74, 66, 0, 2, 0, 0, 0)) ∧
  (∀ f : mE → Prop, w_o (mft MX1_planPush 66) f = f (.iload_n 3, 67, 3, 0, 0, 0, 0)) ∧
  (∀ f : mE → Prop, w_o (mft MX1_planPush 67) f = f (.iaload, 68, 0, 0, 0, 0, 0)) ∧
  (∀ f : mE → Prop, w_o (mft MX1_planPush 68) f = f (.invokevirtual 81, 71, 27, 3, 1, 0, 0)) ∧
  (∀ f : mE → Prop, w_o (mft MX1_planPush 71) f = f (.ireturn, 72, 0, 0, 1, 0, 0)) ∧
  (∀ f : mE → Prop, w_o (mft MX1_planPush 72) f = f (.iconst 0, 73, 0, 0, 0, (0), 0)) ∧
  (∀ f : mE → Prop, w_o (mft MX1_planPush 73) f = f (.ireturn, 74, 0, 0, 1, 0, 0)) := ⟨fun _ => rfl, fun _ => rfl, fun _ => rfl, fun _ => rfl, fun _ => rfl, fun _ => rfl, fun _ => rfl, fun _ => rfl, fun _ => rfl, fun _ => rfl, fun _ => rfl, fun _ => rfl, fun _ => rfl, fun _ => rfl, fun _ => rfl, fun _ => rfl, fun _ => rfl, fun _ => rfl, fun _ => rfl, fun _ => rfl, fun _ => rfl, fun _ => rfl, fun _ => rfl, fun _ => rfl, fun _ => rfl, fun _ => rfl, fun _ => rfl, fun _ => rfl, fun _ => rfl, fun _ => rfl, fun _ => rfl, fun _ => rfl, fun _ => rfl⟩
set_option maxRecDepth 100000 in
theorem gd_X1_planPush : mGood MX1_planPush := ⟨by decide +kernel, by decide +kernel, by decide +kernel⟩
set_option maxRecDepth 100000 in
set_option maxHeartbeats 4000000 in
theorem ft_X1_planBirthPush : (∀ f : mE → Prop, w_o (mft MX1_planBirthPush 0) f = f (.iload_n 1, 1, 1, 0, 0, 0, 0)) ∧
  (∀ f : mE → Prop, w_o (mft MX1_planBirthPush 1) f = f (.ifCond .ne 28, 4, 29, 0, 0, 0, 0)) ∧
  (∀ f : mE → Prop, w_o (mft MX1_planBirthPush 4) f = f (.aload_n 0, 5, 0, 0, 0, 0, 0)) ∧
  (∀ f : mE → Prop, w_o (mft MX1_planBirthPush 5) f = f (.iconst 0, 6, 0, 0, 0, (0), 0)) ∧
  (∀ f : mE → Prop, w_o (mft MX1_planBirthPush 6) f = f (.iload_n 2, 7, 2, 0, 0, 0, 0)) ∧
  (∀ f : mE → Prop, w_o (mft MX1_planBirthPush 7) f = f (.iconst 1, 8, 0, 0, 0, (1), 0)) ∧
  (∀ f : mE → Prop, w_o (mft MX1_planBirthPush 8) f = f (.isub, 9, 0, 0, 0, 0, 0)) ∧
  (∀ f : mE → Prop, w_o (mft MX1_planBirthPush 9) f = f (.iconst 1, 10, 0, 0, 0, (1), 0)) ∧
  (∀ f : mE → Prop, w_o (mft MX1_planBirthPush 10) f = f (.iload_n 2, 11, 2, 0, 0, 0, 0)) ∧
  (∀ f : mE → Prop, w_o (mft MX1_planBirthPush 11) f = f (.iconst 1, 12, 0, 0, 0, (1), 0)) ∧
  (∀ f : mE → Prop, w_o (mft MX1_planBirthPush 12) f = f (.iload_n 2, 13, 2, 0, 0, 0, 0)) ∧
  (∀ f : mE → Prop, w_o (mft MX1_planBirthPush 13) f = f (.iconst 1, 14, 0, 0, 0, (1), 0)) ∧
  (∀ f : mE → Prop, w_o (mft MX1_planBirthPush 14) f = f (.isub, 15, 0, 0, 0, 0, 0)) ∧
  (∀ f : mE → Prop, w_o (mft MX1_planBirthPush 15) f = f (.invokevirtual 65, 18, 15, 6, 1, 0, 0)) ∧
  (∀ f : mE → Prop, w_o (mft MX1_planBirthPush 18) f = f (.iload_n 2, 19, 2, 0, 0, 0, 0)) ∧
  (∀ f : mE → Prop, w_o (mft MX1_planBirthPush 19) f = f (.iconst 1, 20, 0, 0, 0, (1), 0)) ∧
  (∀ f : mE → Prop, w_o (mft MX1_planBirthPush 20) f = f (.if_icmp .lt 7, 23, 27, 0, 0, 0, 0)) ∧
  (∀ f : mE → Prop, w_o (mft MX1_planBirthPush 23) f = f (.iconst 1, 24, 0, 0, 0, (1), 0)) ∧
  (∀ f : mE → Prop, w_o (mft MX1_planBirthPush 24) f = f (.goto 4, 27, 28, 0, 0, 0, 0)) ∧
  (∀ f : mE → Prop, w_o (mft MX1_planBirthPush 27) f = f (.iconst 0, 28, 0, 0, 0, (0), 0)) ∧
  (∀ f : mE → Prop, w_o (mft MX1_planBirthPush 28) f = f (.ireturn, 29, 0, 0, 1, 0, 0)) ∧
  (∀ f : mE → Prop, w_o (mft MX1_planBirthPush 29) f = f (.aload_n 0, 30, 0, 0, 0, 0, 0)) ∧
  (∀ f : mE → Prop, w_o (mft MX1_planBirthPush 30) f = f (.iconst 0, 31, 0, 0, 0, (0), 0)) ∧
  (∀ f : mE → Prop, w_o (mft MX1_planBirthPush 31) f = f (.iload_n 2, 32, 2, 0, 0, 0, 0)) ∧
  (∀ f : mE → Prop, w_o (mft MX1_planBirthPush 32) f = f (.iconst 1, 33, 0, 0, 0, (1), 0)) ∧
  (∀ f : mE → Prop, w_o (mft MX1_planBirthPush 33) f = f (.iadd, 34, 0, 0, 0, 0, 0)) ∧
  (∀ f : mE → Prop, w_o (mft MX1_planBirthPush 34) f = f (.iconst 1, 35, 0, 0, 0, (1), 0)) ∧
  (∀ f : mE → Prop, w_o (mft MX1_planBirthPush 35) f = f (.iload_n 2, 36, 2, 0, 0, 0, 0)) ∧
  (∀ f : mE → Prop, w_o (mft MX1_planBirthPush 36) f = f (.iconst 1, 37, 0, 0, 0, (1), 0)) ∧
  (∀ f : mE → Prop, w_o (mft MX1_planBirthPush 37) f = f (.iload_n 2, 38, 2, 0, 0, 0, 0)) ∧
  (∀ f : mE → Prop, w_o (mft MX1_planBirthPush 38) f = f (.iconst 1, 39, 0, 0, 0, (1), 0)) ∧
  (∀ f : mE → Prop, w_o (mft MX1_planBirthPush 39) f = f (.iadd, 40, 0, 0, 0, 0, 0)) ∧
  (∀ f : mE → Prop, w_o (mft MX1_planBirthPush 40) f = f (.invokevirtual 65, 43, 15, 6, 1, 0, 0)) ∧
  (∀ f : mE → Prop, w_o (mft MX1_planBirthPush 43) f = f (.iload_n 2, 44, 2, 0, 0, 0, 0)) ∧
  (∀ f : mE → Prop, w_o (mft MX1_planBirthPush 44) f = f (.iload_n 3, 45, 3, 0, 0, 0, 0)) ∧
  (∀ f : mE → Prop, w_o (mft MX1_planBirthPush 45) f = f (.if_icmp .ge 7, 48, 52, 0, 0, 0, 0)) ∧
  (∀ f : mE → Prop, w_o (mft MX1_planBirthPush 48) f = f (.iconst 1, 49, 0, 0, 0, (1), 0)) ∧
  (∀ f : mE → Prop, w_o (mft MX1_planBirthPush 49) f = f (.goto 4, 52, 53, 0, 0, 0, 0)) ∧
  (∀ f : mE → Prop, w_o (mft MX1_planBirthPush 52) f = f (.iconst 0, 53, 0, 0, 0, (0), 0)) ∧
  (∀ f : mE → Prop, w_o (mft MX1_planBirthPush 53) f = f (.ireturn, 54, 0, 0, 1, 0, 0)) := ⟨fun _ => rfl, fun _ => rfl, fun _ => rfl, fun _ => rfl, fun _ => rfl, fun _ => rfl, fun _ => rfl, fun _ => rfl, fun _ => rfl, fun _ => rfl, fun _ => rfl, fun _ => rfl, fun _ => rfl, fun _ => rfl, fun _ => rfl, fun _ => rfl, fun _ => rfl, fun _ => rfl, fun _ => rfl, fun _ => rfl, fun _ => rfl, fun _ => rfl, fun _ => rfl, fun _ => rfl, fun _ => rfl, fun _ => rfl, fun _ => rfl, fun _ => rfl, fun _ => rfl, fun _ => rfl, fun _ => rfl, fun _ => rfl, fun _ => rfl, fun _ => rfl, fun _ => rfl, fun _ => rfl, fun _ => rfl, fun _ => rfl, fun _ => rfl, fun _ => rfl⟩
set_option maxRecDepth 100000 in
theorem gd_X1_planBirthPush : mGood MX1_planBirthPush := ⟨by decide +kernel, by decide +kernel, by decide +kernel⟩
set_option maxRecDepth 100000 in
set_option maxHeartbeats 4000000 in
theorem ft_X1_planDeathPush : (∀ f : mE → Prop, w_o (mft MX1_planDeathPush 0) f = f (.iload_n 1, 1, 1, 0, 0, 0, 0)) ∧
  (∀ f : mE → Prop, w_o (mft MX1_planDeathPush 1) f = f (.ifCond .ne 28, 4, 29, 0, 0, 0, 0)) ∧
  (∀ f : mE → Prop, w_o (mft MX1_planDeathPush 4) f = f (.aload_n 0, 5, 0, 0, 0, 0, 0)) ∧
  (∀ f : mE → Prop, w_o (mft MX1_planDeathPush 5) f = f (.iconst 1, 6, 0, 0, 0, (1), 0)) ∧
  (∀ f : mE → Prop, w_o (mft MX1_planDeathPush 6) f = f (.iload_n 2, 7, 2, 0, 0, 0, 0)) ∧
  (∀ f : mE → Prop, w_o (mft MX1_planDeathPush 7) f = f (.iconst 1, 8, 0, 0, 0, (1), 0)) ∧
  (∀ f : mE → Prop, w_o (mft MX1_planDeathPush 8) f = f (.isub, 9, 0, 0, 0, 0, 0)) ∧
  (∀ f : mE → Prop, w_o (mft MX1_planDeathPush 9) f = f (.iconst 1, 10, 0, 0, 0, (1), 0)) ∧
  (∀ f : mE → Prop, w_o (mft MX1_planDeathPush 10) f = f (.iload_n 2, 11, 2, 0, 0, 0, 0)) ∧
  (∀ f : mE → Prop, w_o (mft MX1_planDeathPush 11) f = f (.iconst 2, 12, 0, 0, 0, (2), 0)) ∧
  (∀ f : mE → Prop, w_o (mft MX1_planDeathPush 12) f = f (.iload_n 2, 13, 2, 0, 0, 0, 0)) ∧
  (∀ f : mE → Prop, w_o (mft MX1_planDeathPush 13) f = f (.iconst 1, 14, 0, 0, 0, (1), 0)) ∧
  (∀ f : mE → Prop, w_o (mft MX1_planDeathPush 14) f = f (.isub, 15, 0, 0, 0, 0, 0)) ∧
  (∀ f : mE → Prop, w_o (mft MX1_planDeathPush 15) f = f (.invokevirtual 65, 18, 15, 6, 1, 0, 0)) ∧
  (∀ f : mE → Prop, w_o (mft MX1_planDeathPush 18) f = f (.iload_n 2, 19, 2, 0, 0, 0, 0)) ∧
  (∀ f : mE → Prop, w_o (mft MX1_planDeathPush 19) f = f (.iconst 1, 20, 0, 0, 0, (1), 0)) ∧
  (∀ f : mE → Prop, w_o (mft MX1_planDeathPush 20) f = f (.if_icmp .lt 7, 23, 27, 0, 0, 0, 0)) ∧
  (∀ f : mE → Prop, w_o (mft MX1_planDeathPush 23) f = f (.iconst 1, 24, 0, 0, 0, (1), 0)) ∧
  (∀ f : mE → Prop, w_o (mft MX1_planDeathPush 24) f = f (.goto 4, 27, 28, 0, 0, 0, 0)) ∧
  (∀ f : mE → Prop, w_o (mft MX1_planDeathPush 27) f = f (.iconst 0, 28, 0, 0, 0, (0), 0)) ∧
  (∀ f : mE → Prop, w_o (mft MX1_planDeathPush 28) f = f (.ireturn, 29, 0, 0, 1, 0, 0)) ∧
  (∀ f : mE → Prop, w_o (mft MX1_planDeathPush 29) f = f (.aload_n 0, 30, 0, 0, 0, 0, 0)) ∧
  (∀ f : mE → Prop, w_o (mft MX1_planDeathPush 30) f = f (.iconst 1, 31, 0, 0, 0, (1), 0)) ∧
  (∀ f : mE → Prop, w_o (mft MX1_planDeathPush 31) f = f (.iload_n 2, 32, 2, 0, 0, 0, 0)) ∧
  (∀ f : mE → Prop, w_o (mft MX1_planDeathPush 32) f = f (.iconst 1, 33, 0, 0, 0, (1), 0)) ∧
  (∀ f : mE → Prop, w_o (mft MX1_planDeathPush 33) f = f (.iadd, 34, 0, 0, 0, 0, 0)) ∧
  (∀ f : mE → Prop, w_o (mft MX1_planDeathPush 34) f = f (.iconst 1, 35, 0, 0, 0, (1), 0)) ∧
  (∀ f : mE → Prop, w_o (mft MX1_planDeathPush 35) f = f (.iload_n 2, 36, 2, 0, 0, 0, 0)) ∧
  (∀ f : mE → Prop, w_o (mft MX1_planDeathPush 36) f = f (.iconst 2, 37, 0, 0, 0, (2), 0)) ∧
  (∀ f : mE → Prop, w_o (mft MX1_planDeathPush 37) f = f (.iload_n 2, 38, 2, 0, 0, 0, 0)) ∧
  (∀ f : mE → Prop, w_o (mft MX1_planDeathPush 38) f = f (.iconst 1, 39, 0, 0, 0, (1), 0)) ∧
  (∀ f : mE → Prop, w_o (mft MX1_planDeathPush 39) f = f (.iadd, 40, 0, 0, 0, 0, 0)) ∧
  (∀ f : mE → Prop, w_o (mft MX1_planDeathPush 40) f = f (.invokevirtual 65, 43, 15, 6, 1, 0, 0)) ∧
  (∀ f : mE → Prop, w_o (mft MX1_planDeathPush 43) f = f (.iload_n 2, 44, 2, 0, 0, 0, 0)) ∧
  (∀ f : mE → Prop, w_o (mft MX1_planDeathPush 44) f = f (.iconst 2, 45, 0, 0, 0, (2), 0)) ∧
  (∀ f : mE → Prop, w_o (mft MX1_planDeathPush 45) f = f (.iadd, 46, 0, 0, 0, 0, 0)) ∧
  (∀ f : mE → Prop, w_o (mft MX1_planDeathPush 46) f = f (.iload_n 3, 47, 3, 0, 0, 0, 0)) ∧
  (∀ f : mE → Prop, w_o (mft MX1_planDeathPush 47) f = f (.if_icmp .ge 7, 50, 54, 0, 0, 0, 0)) ∧
  (∀ f : mE → Prop, w_o (mft MX1_planDeathPush 50) f = f (.iconst 1, 51, 0, 0, 0, (1), 0)) ∧
  (∀ f : mE → Prop, w_o (mft MX1_planDeathPush 51) f = f (.goto 4, 54, 55, 0, 0, 0, 0)) ∧
  (∀ f : mE → Prop, w_o (mft MX1_planDeathPush 54) f = f (.iconst 0, 55, 0, 0, 0, (0), 0)) ∧
  (∀ f : mE → Prop, w_o (mft MX1_planDeathPush 55) f = f (.ireturn, 56, 0, 0, 1, 0, 0)) := ⟨fun _ => rfl, fun _ => rfl, fun _ => rfl, fun _ => rfl, fun _ => rfl, fun _ => rfl, fun _ => rfl, fun _ => rfl, fun _ => rfl, fun _ => rfl, fun _ => rfl, fun _ => rfl, fun _ => rfl, fun _ => rfl, fun _ => rfl, fun _ => rfl, fun _ => rfl, fun _ => rfl, fun _ => rfl, fun _ => rfl, fun _ => rfl, fun _ => rfl, fun _ => rfl, fun _ => rfl, fun _ => rfl, fun _ => rfl, fun _ => rfl, fun _ => rfl, fun _ => rfl, fun _ => rfl, fun _ => rfl, fun _ => rfl, fun _ => rfl, fun _ => rfl, fun _ => rfl, fun _ => rfl, fun _ => rfl, fun _ => rfl, fun _ => rfl, fun _ => rfl, fun _ => rfl, fun _ => rfl⟩
set_option maxRecDepth 100000 in
theorem gd_X1_planDeathPush : mGood MX1_planDeathPush := ⟨by decide +kernel, by decide +kernel, by decide +kernel⟩
set_option maxRecDepth 100000 in
set_option maxHeartbeats 4000000 in
theorem ft_X2_init : (∀ f : mE → Prop, w_o (mft MX2_init 0) f = f (.aload_n 0, 1, 0, 0, 0, 0, 0)) ∧
  (∀ f : mE → Prop, w_o (mft MX2_init 1) f = f (.invokespecial 3, 4, 1001, 0, 0, 0, 0)) ∧
  (∀ f : mE → Prop, w_o (mft MX2_init 4) f = f (.aload_n 0, 5, 0, 0, 0, 0, 0)) ∧
  (∀ f : mE → Prop, w_o (mft MX2_init 5) f = f (.bipush 62, 7, 0, 0, 0, (62), 0)) ∧
  (∀ f : mE → Prop, w_o (mft MX2_init 7) f = f (.newarray .int, 9, 0, 0, 0, 0, 0)) ∧
  (∀ f : mE → Prop, w_o (mft MX2_init 9) f = f (.putfield 9, 12, 2, 0, 2, 0, 0)) ∧
  (∀ f : mE → Prop, w_o (mft MX2_init 12) f = f (.aload_n 0, 13, 0, 0, 0, 0, 0)) ∧
  (∀ f : mE → Prop, w_o (mft MX2_init 13) f = f (.iconst (-1), 14, 0, 0, 0, (-1), 0)) ∧
  (∀ f : mE → Prop, w_o (mft MX2_init 14) f = f (.putfield 15, 17, 2, 1, 0, 0, 0)) ∧
  (∀ f : mE → Prop, w_o (mft MX2_init 17) f = f (.aload_n 0, 18, 0, 0, 0, 0, 0)) ∧
  (∀ f : mE → Prop, w_o (mft MX2_init 18) f = f (.iconst 0, 19, 0, 0, 0, (0), 0)) ∧
  (∀ f : mE → Prop, w_o (mft MX2_init 19) f = f (.putfield 19, 22, 2, 2, 0, 0, 0)) ∧
  (∀ f : mE → Prop, w_o (mft MX2_init 22) f = f (.return_, 23, 0, 0, 0, 0, 0)) := ⟨fun _ => rfl, fun _ => rfl, fun _ => rfl, fun _ => rfl, fun _ => rfl, fun _ => rfl, fun _ => rfl, fun _ => rfl, fun _ => rfl, fun _ => rfl, fun _ => rfl, fun _ => rfl, fun _ => rfl⟩
set_option maxRecDepth 100000 in
theorem gd_X2_init : mGood MX2_init := ⟨by decide +kernel, by decide +kernel, by decide +kernel⟩
set_option maxRecDepth 100000 in
set_option maxHeartbeats 4000000 in
theorem ft_X2_renew : (∀ f : mE → Prop, w_o (mft MX2_renew 0) f = f (.aload_n 0, 1, 0, 0, 0, 0, 0)) ∧
  (∀ f : mE → Prop, w_o (mft MX2_renew 1) f = f (.iload_n 1, 2, 1, 0, 0, 0, 0)) ∧
  (∀ f : mE → Prop, w_o (mft MX2_renew 2) f = f (.putfield 15, 5, 2, 1, 0, 0, 0)) ∧
  (∀ f : mE → Prop, w_o (mft MX2_renew 5) f = f (.aload_n 0, 6, 0, 0, 0, 0, 0)) ∧
  (∀ f : mE → Prop, w_o (mft MX2_renew 6) f = f (.iload_n 2, 7, 2, 0, 0, 0, 0)) ∧
  (∀ f : mE → Prop, w_o (mft MX2_renew 7) f = f (.putfield 19, 10, 2, 2, 0, 0, 0)) ∧
  (∀ f : mE → Prop, w_o (mft MX2_renew 10) f = f (.iconst 0, 11, 0, 0, 0, (0), 0)) ∧
  (∀ f : mE → Prop, w_o (mft MX2_renew 11) f = f (.istore_n 3, 12, 3, 0, 0, 0, 0)) ∧
  (∀ f : mE → Prop, w_o (mft MX2_renew 12) f = f (.iload_n 3, 13, 3, 0, 0, 0, 0)) ∧
  (∀ f : mE → Prop, w_o (mft MX2_renew 13) f = f (.bipush 62, 15, 0, 0, 0, (62), 0)) ∧
  (∀ f : mE → Prop, w_o (mft MX2_renew 15) f = f (.if_icmp .ge 16, 18, 31, 0, 0, 0, 0)) ∧
  (∀ f : mE → Prop, w_o (mft MX2_renew 18) f = f (.aload_n 0, 19, 0, 0, 0, 0, 0)) ∧
  (∀ f : mE → Prop, w_o (mft MX2_renew 19) f = f (.getfield 9, 22, 2, 0, 0, 0, 0)) ∧
  (∀ f : mE → Prop, w_o (mft MX2_renew 22) f = f (.iload_n 3, 23, 3, 0, 0, 0, 0)) ∧
  (∀ f : mE → Prop, w_o (mft MX2_renew 23) f = f (.iconst 0, 24, 0, 0, 0, (0), 0)) ∧
  (∀ f : mE → Prop, w_o (mft MX2_renew 24) f = f (.iastore, 25, 0, 0, 0, 0, 0)) ∧
  (∀ f : mE → Prop, w_o (mft MX2_renew 25) f = f (.iinc 3 1, 28, 3, 0, 0, (1), 0)) ∧
  (∀ f : mE → Prop, w_o (mft MX2_renew 28) f = f (.goto (-16), 31, 12, 0, 0, 0, 0)) ∧
  (∀ f : mE → Prop, w_o (mft MX2_renew 31) f = f (.return_, 32, 0, 0, 0, 0, 0)) := ⟨fun _ => rfl, fun _ => rfl, fun _ => rfl, fun _ => rfl, fun _ => rfl, fun _ => rfl, fun _ => rfl, fun _ => rfl, fun _ => rfl, fun _ => rfl, fun _ => rfl, fun _ => rfl, fun _ => rfl, fun _ => rfl, fun _ => rfl, fun _ => rfl, fun _ => rfl, fun _ => rfl, fun _ => rfl⟩
set_option maxRecDepth 100000 in
theorem gd_X2_renew : mGood MX2_renew := ⟨by decide +kernel, by decide +kernel, by decide +kernel⟩
set_option maxRecDepth 100000 in
set_option maxHeartbeats 4000000 in
theorem ft_X2_write : (∀ f : mE → Prop, w_o (mft MX2_write 0) f = f (.aload_n 0, 1, 0, 0, 0, 0, 0)) ∧
  (∀ f : mE → Prop, w_o (mft MX2_write 1) f = f (.getfield 15, 4, 2, 1, 0, 0, 0)) ∧
  (∀ f : mE → Prop, w_o (mft MX2_write 4) f = f (.iconst (-1), 5, 0, 0, 0, (-1), 0)) ∧
  (∀ f : mE → Prop, w_o (mft MX2_write 5) f = f (.if_icmp .ne 5, 8, 10, 0, 0, 0, 0)) ∧
  (∀ f : mE → Prop, w_o (mft MX2_write 8) f = f (.iconst 1, 9, 0, 0, 0, (1), 0)) ∧
  (∀ f : mE → Prop, w_o (mft MX2_write 9) f = f (.ireturn, 10, 0, 0, 0, 0, 0)) ∧
  (∀ f : mE → Prop, w_o (mft MX2_write 10) f = f (.iload_n 1, 11, 1, 0, 0, 0, 0)) ∧
  (∀ f : mE → Prop, w_o (mft MX2_write 11) f = f (.ifCond .lt 11, 14, 22, 0, 0, 0, 0)) ∧
  (∀ f : mE → Prop, w_o (mft MX2_write 14) f = f (.iload_n 1, 15, 1, 0, 0, 0, 0)) ∧
  (∀ f : mE → Prop, w_o (mft MX2_write 15) f = f (.aload_n 0, 16, 0, 0, 0, 0, 0)) ∧
  (∀ f : mE → Prop, w_o (mft MX2_write 16) f = f (.getfield 19, 19, 2, 2, 0, 0, 0)) ∧
  (∀ f : mE → Prop, w_o (mft MX2_write 19) f = f (.if_icmp .lt 5, 22, 24, 0, 0, 0, 0)) ∧
  (∀ f : mE → Prop, w_o (mft MX2_write 22) f = f (.iconst 2, 23, 0, 0, 0, (2), 0)) ∧
  (∀ f : mE → Prop, w_o (mft MX2_write 23) f = f (.ireturn, 24, 0, 0, 0, 0, 0)) ∧
  (∀ f : mE → Prop, w_o (mft MX2_write 24) f = f (.aload_n 0, 25, 0, 0, 0, 0, 0)) ∧
  (∀ f : mE → Prop, w_o (mft MX2_write 25) f = f (.getfield 9, 28, 2, 0, 0, 0, 0)) ∧
  (∀ f : mE → Prop, w_o (mft MX2_write 28) f = f (.iload_n 1, 29, 1, 0, 0, 0, 0)) ∧
  (∀ f : mE → Prop, w_o (mft MX2_write 29) f = f (.aload_n 0, 30, 0, 0, 0, 0, 0)) ∧
  (∀ f : mE → Prop, w_o (mft MX2_write 30) f = f (.iload_n 2, 31, 2, 0, 0, 0, 0)) ∧
  (∀ f : mE → Prop, w_o (mft MX2_write 31) f = f (.invokevirtual 22, 34, 31, 1, 2, 0, 0)) ∧
  (∀ f : mE → Prop, w_o (mft MX2_write 34) f = f (.iastore, 35, 0, 0, 0, 0, 0)) ∧
  (∀ f : mE → Prop, w_o (mft MX2_write 35) f = f (.iconst 0, 36, 0, 0, 0, (0), 0)) ∧
  (∀ f : mE → Prop, w_o (mft MX2_write 36) f = f (.ireturn, 37, 0, 0, 0, 0, 0)) := ⟨fun _ => rfl, fun _ => rfl, fun _ => rfl, fun _ => rfl, fun _ => rfl, fun _ => rfl, fun _ => rfl, fun _ => rfl, fun _ => rfl, fun _ => rfl, fun _ => rfl, fun _ => rfl, fun _ => rfl, fun _ => rfl, fun _ => rfl, fun _ => rfl, fun _ => rfl, fun _ => rfl, fun _ => rfl, fun _ => rfl, fun _ => rfl, fun _ => rfl, fun _ => rfl⟩
set_option maxRecDepth 100000 in
theorem gd_X2_write : mGood MX2_write := ⟨by decide +kernel, by decide +kernel, by decide +kernel⟩
set_option maxRecDepth 100000 in
set_option maxHeartbeats 4000000 in
theorem ft_X2_narrowed : (∀ f : mE → Prop, w_o (mft MX2_narrowed 0) f = f (.aload_n 0, 1, 0, 0, 0, 0, 0)) ∧
  (∀ f : mE → Prop, w_o (mft MX2_narrowed 1) f = f (.getfield 15, 4, 2, 1, 0, 0, 0)) ∧
  (∀ f : mE → Prop, w_o (mft MX2_narrowed 4) f = f (.lookupswitch 34 #[(0, 28), (1, 31)], 32, 0, 0, 0, 0, 0)) ∧
  (∀ f : mE → Prop, w_o (mft MX2_narrowed 32) f = f (.iload_n 1, 33, 1, 0, 0, 0, 0)) ∧
  (∀ f : mE → Prop, w_o (mft MX2_narrowed 33) f = f (.i2b, 34, 0, 0, 0, 0, 0)) ∧
  (∀ f : mE → Prop, w_o (mft MX2_narrowed 34) f = f (.ireturn, 35, 0, 0, 0, 0, 0)) ∧
  (∀ f : mE → Prop, w_o (mft MX2_narrowed 35) f = f (.iload_n 1, 36, 1, 0, 0, 0, 0)) ∧
  (∀ f : mE → Prop, w_o (mft MX2_narrowed 36) f = f (.i2s, 37, 0, 0, 0, 0, 0)) ∧
  (∀ f : mE → Prop, w_o (mft MX2_narrowed 37) f = f (.ireturn, 38, 0, 0, 0, 0, 0)) ∧
  (∀ f : mE → Prop, w_o (mft MX2_narrowed 38) f = f (.iload_n 1, 39, 1, 0, 0, 0, 0)) ∧
  (∀ f : mE → Prop, w_o (mft MX2_narrowed 39) f = f (.ireturn, 40, 0, 0, 0, 0, 0)) := ⟨fun _ => rfl, fun _ => rfl, fun _ => rfl, fun _ => rfl, fun _ => rfl, fun _ => rfl, fun _ => rfl, fun _ => rfl, fun _ => rfl, fun _ => rfl, fun _ => rfl⟩
set_option maxRecDepth 100000 in
theorem gd_X2_narrowed : mGood MX2_narrowed := ⟨by decide +kernel, by decide +kernel, by decide +kernel⟩
set_option maxRecDepth 100000 in
set_option maxHeartbeats 4000000 in
theorem ft_X2_tell : (∀ f : mE → Prop, w_o (mft MX2_tell 0) f = f (.aload_n 0, 1, 0, 0, 0, 0, 0)) ∧
  (∀ f : mE → Prop, w_o (mft MX2_tell 1) f = f (.getfield 15, 4, 2, 1, 0, 0, 0)) ∧
  (∀ f : mE → Prop, w_o (mft MX2_tell 4) f = f (.iconst (-1), 5, 0, 0, 0, (-1), 0)) ∧
  (∀ f : mE → Prop, w_o (mft MX2_tell 5) f = f (.if_icmp .ne 6, 8, 11, 0, 0, 0, 0)) ∧
  (∀ f : mE → Prop, w_o (mft MX2_tell 8) f = f (.bipush (-11), 10, 0, 0, 0, (-11), 0)) ∧
  (∀ f : mE → Prop, w_o (mft MX2_tell 10) f = f (.ireturn, 11, 0, 0, 0, 0, 0)) ∧
  (∀ f : mE → Prop, w_o (mft MX2_tell 11) f = f (.aload_n 0, 12, 0, 0, 0, 0, 0)) ∧
  (∀ f : mE → Prop, w_o (mft MX2_tell 12) f = f (.getfield 15, 15, 2, 1, 0, 0, 0)) ∧
  (∀ f : mE → Prop, w_o (mft MX2_tell 15) f = f (.iload_n 2, 16, 2, 0, 0, 0, 0)) ∧
  (∀ f : mE → Prop, w_o (mft MX2_tell 16) f = f (.if_icmp .eq 6, 19, 22, 0, 0, 0, 0)) ∧
  (∀ f : mE → Prop, w_o (mft MX2_tell 19) f = f (.bipush (-13), 21, 0, 0, 0, (-13), 0)) ∧
  (∀ f : mE → Prop, w_o (mft MX2_tell 21) f = f (.ireturn, 22, 0, 0, 0, 0, 0)) ∧
  (∀ f : mE → Prop, w_o (mft MX2_tell 22) f = f (.aload_n 1, 23, 1, 0, 0, 0, 0)) ∧
  (∀ f : mE → Prop, w_o (mft MX2_tell 23) f = f (.invokevirtual 26, 26, 1, 0, 0, 0, 0)) ∧
  (∀ f : mE → Prop, w_o (mft MX2_tell 26) f = f (.iconst 0, 27, 0, 0, 0, (0), 0)) ∧
  (∀ f : mE → Prop, w_o (mft MX2_tell 27) f = f (.istore 5, 29, 5, 0, 0, 0, 0)) ∧
  (∀ f : mE → Prop, w_o (mft MX2_tell 29) f = f (.iload 5, 31, 5, 0, 0, 0, 0)) ∧
  (∀ f : mE → Prop, w_o (mft MX2_tell 31) f = f (.iload 4, 33, 4, 0, 0, 0, 0)) ∧
  (∀ f : mE → Prop, w_o (mft MX2_tell 33) f = f (.if_icmp .ge 73, 36, 106, 0, 0, 0, 0)) ∧
  (∀ f : mE → Prop, w_o (mft MX2_tell 36) f = f (.iload_n 3, 37, 3, 0, 0, 0, 0)) ∧
  (∀ f : mE → Prop, w_o (mft MX2_tell 37) f = f (.i2l, 38, 0, 0, 0, 0, 0)) ∧
  (∀ f : mE → Prop, w_o (mft MX2_tell 38) f = f (.iconst 2, 39, 0, 0, 0, (2), 0)) ∧
  (∀ f : mE → Prop, w_o (mft MX2_tell 39) f = f (.iload 5, 41, 5, 0, 0, 0, 0)) ∧
  (∀ f : mE → Prop, w_o (mft MX2_tell 41) f = f (.imul, 42, 0, 0, 0, 0, 0)) ∧
  (∀ f : mE → Prop, w_o (mft MX2_tell 42) f = f (.i2l, 43, 0, 0, 0, 0, 0)) ∧
  (∀ f : mE → Prop, w_o (mft MX2_tell 43) f = f (.ladd, 44, 0, 0, 0, 0, 0)) ∧
  (∀ f : mE → Prop, w_o (mft MX2_tell 44) f = f (.lstore 6, 46, 6, 0, 0, 0, 0)) ∧
  (∀ f : mE → Prop, w_o (mft MX2_tell 46) f = f (.lload 6, 48, 6, 0, 0, 0, 0)) ∧
  (∀ f : mE → Prop, w_o (mft MX2_tell 48) f = f (.lconst 0, 49, 0, 0, 0, 0, 0)) ∧
  (∀ f : mE → Prop, w_o (mft MX2_tell 49) f = f (.lcmp, 50, 0, 0, 0, 0, 0)) ∧
  (∀ f : mE → Prop, w_o (mft MX2_tell 50) f = f (.ifCond .lt 16, 53, 66, 0, 0, 0, 0)) ∧
  (∀ f : mE → Prop, w_o (mft MX2_tell 53) f = f (.lload 6, 55, 6, 0, 0, 0, 0)) ∧
  (∀ f : mE → Prop, w_o (mft MX2_tell 55) f = f (.lconst 1, 56, 0, 0, 0, 0, 1)) ∧
  (∀ f : mE → Prop, w_o (mft MX2_tell 56) f = f (.ladd, 57, 0, 0, 0, 0, 0)) ∧
  (∀ f : mE → Prop, w_o (mft MX2_tell 57) f = f (.aload_n 0, 58, 0, 0, 0, 0, 0)) ∧
  (∀ f : mE → Prop, w_o (mft MX2_tell 58) f = f (.getfield 19, 61, 2, 2, 0, 0, 0)) ∧
  (∀ f : mE → Prop, w_o (mft MX2_tell 61) f = f (.i2l, 62, 0, 0, 0, 0, 0)) ∧
  (∀ f : mE → Prop, w_o (mft MX2_tell 62) f = f (.lcmp, 63, 0, 0, 0, 0, 0)) ∧
  (∀ f : mE → Prop, w_o (mft MX2_tell 63) f = f (.ifCond .lt 6, 66, 69, 0, 0, 0, 0)) ∧
  (∀ f : mE → Prop, w_o (mft MX2_tell 66) f = f (.bipush (-12), 68, 0, 0, 0, (-12), 0)) ∧
  (∀ f : mE → Prop, w_o (mft MX2_tell 68) f = f (.ireturn, 69, 0, 0, 0, 0, 0)) ∧
  (∀ f : mE → Prop, w_o (mft MX2_tell 69) f = f (.aload_n 1, 70, 1, 0, 0, 0, 0)) ∧
  (∀ f : mE → Prop, w_o (mft MX2_tell 70) f = f (.aload_n 0, 71, 0, 0, 0, 0, 0)) ∧
  (∀ f : mE → Prop, w_o (mft MX2_tell 71) f = f (.getfield 9, 74, 2, 0, 0, 0, 0)) ∧
  (∀ f : mE → Prop, w_o (mft MX2_tell 74) f = f (.lload 6, 76, 6, 0, 0, 0, 0)) ∧
  (∀ f : mE → Prop, w_o (mft MX2_tell 76) f = f (.l2i, 77, 0, 0, 0, 0, 0)) ∧
  (∀ f : mE → Prop, w_o (mft MX2_tell 77) f = f (.iaload, 78, 0, 0, 0, 0, 0)) ∧
  (∀ f : mE → Prop, w_o (mft MX2_tell 78) f = f (.aload_n 0, 79, 0, 0, 0, 0, 0)) ∧
  (∀ f : mE → Prop, w_o (mft MX2_tell 79) f = f (.getfield 9, 82, 2, 0, 0, 0, 0)) ∧
  (∀ f : mE → Prop, w_o (mft MX2_tell 82) f = f (.lload 6, 84, 6, 0, 0, 0, 0)) ∧
  (∀ f : mE → Prop, w_o (mft MX2_tell 84) f = f (.l2i, 85, 0, 0, 0, 0, 0)) ∧
  (∀ f : mE → Prop, w_o (mft MX2_tell 85) f = f (.iconst 1, 86, 0, 0, 0, (1), 0)) ∧
  (∀ f : mE → Prop, w_o (mft MX2_tell 86) f = f (.iadd, 87, 0, 0, 0, 0, 0)) ∧
  (∀ f : mE → Prop, w_o (mft MX2_tell 87) f = f (.iaload, 88, 0, 0, 0, 0, 0)) ∧
  (∀ f : mE → Prop, w_o (mft MX2_tell 88) f = f (.invokevirtual 31, 91, 6, 2, 0, 0, 0)) ∧
  (∀ f : mE → Prop, w_o (mft MX2_tell 91) f = f (.ifCond .ne 9, 94, 100, 0, 0, 0, 0)) ∧
  (∀ f : mE → Prop, w_o (mft MX2_tell 94) f = f (.bipush (-20), 96, 0, 0, 0, (-20), 0)) ∧
  (∀ f : mE → Prop, w_o (mft MX2_tell 96) f = f (.iload 5, 98, 5, 0, 0, 0, 0)) ∧
  (∀ f : mE → Prop, w_o (mft MX2_tell 98) f = f (.isub, 99, 0, 0, 0, 0, 0)) ∧
  (∀ f : mE → Prop, w_o (mft MX2_tell 99) f = f (.ireturn, 100, 0, 0, 0, 0, 0)) ∧
  (∀ f : mE → Prop, w_o (mft MX2_tell 100) f = f (.iinc 5 1, 103, 5, 0, 0, (1), 0)) ∧
  (∀ f : mE → Prop, w_o (mft MX2_tell 103) f = f (.goto (-74), 106, 29, 0, 0, 0, 0)) ∧
  (∀ f : mE → Prop, w_o (mft MX2_tell 106) f = f (.aload_n 1, 107, 1, 0, 0, 0, 0)) ∧
  (∀ f : mE → Prop, w_o (mft MX2_tell 107) f = f (.invokevirtual 35, 110, 3, 0, 0, 0, 0)) ∧
  (∀ f : mE → Prop, w_o (mft MX2_tell 110) f = f (.ifCond .eq 7, 113, 117, 0, 0, 0, 0)) ∧
  (∀ f : mE → Prop, w_o (mft MX2_tell 113) f = f (.iconst 0, 114, 0, 0, 0, (0), 0)) ∧
  (∀ f : mE → Prop, w_o (mft MX2_tell 114) f = f (.goto 5, 117, 119, 0, 0, 0, 0)) ∧
  (∀ f : mE → Prop, w_o (mft MX2_tell 117) f = f (.bipush (-50), 119, 0, 0, 0, (-50), 0)) ∧
  (∀ f : mE → Prop, w_o (mft MX2_tell 119) f = f (.ireturn, 120, 0, 0, 0, 0, 0)) := ⟨fun _ => rfl, fun _ => rfl, fun _ => rfl, fun _ => rfl, fun _ => rfl, fun _ => rfl, fun _ => rfl, fun _ => rfl, fun _ => rfl, fun _ => rfl, fun _ => rfl, fun _ => rfl, fun _ => rfl, fun _ => rfl, fun _ => rfl, fun _ => rfl, fun _ => rfl, fun _ => rfl, fun _ => rfl, fun _ => rfl, fun _ => rfl, fun _ => rfl, fun _ => rfl, fun _ => rfl, fun _ => rfl, fun _ => rfl, fun _ => rfl, fun _ => rfl, fun _ => rfl, fun _ => rfl, fun _ => rfl, fun _ => rfl, fun _ => rfl, fun _ => rfl, fun _ => rfl, fun _ => rfl, fun _ => rfl, fun _ => rfl, fun _ => rfl, fun _ => rfl, fun _ => rfl, fun _ => rfl, fun _ => rfl, fun _ => rfl, fun _ => rfl, fun _ => rfl, fun _ => rfl, fun _ => rfl, fun _ => rfl, fun _ => rfl, fun _ => rfl, fun _ => rfl, fun _ => rfl, fun _ => rfl, fun _ => rfl, fun _ => rfl, fun _ => rfl, fun _ => rfl, fun _ => rfl, fun _ => rfl, fun _ => rfl, fun _ => rfl, fun _ => rfl, fun _ => rfl, fun _ => rfl, fun _ => rfl, fun _ => rfl, fun _ => rfl, fun _ => rfl⟩
set_option maxRecDepth 100000 in
theorem gd_X2_tell : mGood MX2_tell := ⟨by decide +kernel, by decide +kernel, by decide +kernel⟩
set_option maxRecDepth 100000 in
set_option maxHeartbeats 4000000 in
theorem ft_X3_init : (∀ f : mE → Prop, w_o (mft MX3_init 0) f = f (.aload_n 0, 1, 0, 0, 0, 0, 0)) ∧
  (∀ f : mE → Prop, w_o (mft MX3_init 1) f = f (.invokespecial 3, 4, 1001, 0, 0, 0, 0)) ∧
  (∀ f : mE → Prop, w_o (mft MX3_init 4) f = f (.aload_n 0, 5, 0, 0, 0, 0, 0)) ∧
  (∀ f : mE → Prop, w_o (mft MX3_init 5) f = f (.new 9, 8, 0, 0, 0, 0, 0)) ∧
  (∀ f : mE → Prop, w_o (mft MX3_init 8) f = f (.dup, 9, 0, 0, 0, 0, 0)) ∧
  (∀ f : mE → Prop, w_o (mft MX3_init 9) f = f (.invokespecial 11, 12, 0, 0, 0, 0, 0)) ∧
  (∀ f : mE → Prop, w_o (mft MX3_init 12) f = f (.putfield 12, 15, 3, 0, 2, 0, 0)) ∧
  (∀ f : mE → Prop, w_o (mft MX3_init 15) f = f (.aload_n 0, 16, 0, 0, 0, 0, 0)) ∧
  (∀ f : mE → Prop, w_o (mft MX3_init 16) f = f (.bipush 31, 18, 0, 0, 0, (31), 0)) ∧
  (∀ f : mE → Prop, w_o (mft MX3_init 18) f = f (.bipush 10, 20, 0, 0, 0, (10), 0)) ∧
  (∀ f : mE → Prop, w_o (mft MX3_init 20) f = f (.multianewarray 18 2, 24, 0, 0, 0, 0, 0)) ∧
  (∀ f : mE → Prop, w_o (mft MX3_init 24) f = f (.putfield 20, 27, 3, 1, 2, 0, 0)) ∧
  (∀ f : mE → Prop, w_o (mft MX3_init 27) f = f (.aload_n 0, 28, 0, 0, 0, 0, 0)) ∧
  (∀ f : mE → Prop, w_o (mft MX3_init 28) f = f (.bipush 30, 30, 0, 0, 0, (30), 0)) ∧
  (∀ f : mE → Prop, w_o (mft MX3_init 30) f = f (.newarray .boolean, 32, 0, 0, 0, 0, 0)) ∧
  (∀ f : mE → Prop, w_o (mft MX3_init 32) f = f (.putfield 23, 35, 3, 2, 2, 0, 0)) ∧
  (∀ f : mE → Prop, w_o (mft MX3_init 35) f = f (.aload_n 0, 36, 0, 0, 0, 0, 0)) ∧
  (∀ f : mE → Prop, w_o (mft MX3_init 36) f = f (.bipush 13, 38, 0, 0, 0, (13), 0)) ∧
  (∀ f : mE → Prop, w_o (mft MX3_init 38) f = f (.newarray .int, 40, 0, 0, 0, 0, 0)) ∧
  (∀ f : mE → Prop, w_o (mft MX3_init 40) f = f (.putfield 27, 43, 3, 3, 2, 0, 0)) ∧
  (∀ f : mE → Prop, w_o (mft MX3_init 43) f = f (.aload_n 0, 44, 0, 0, 0, 0, 0)) ∧
  (∀ f : mE → Prop, w_o (mft MX3_init 44) f = f (.iconst 0, 45, 0, 0, 0, (0), 0)) ∧
  (∀ f : mE → Prop, w_o (mft MX3_init 45) f = f (.putfield 31, 48, 3, 4, 1, 0, 0)) ∧
  (∀ f : mE → Prop, w_o (mft MX3_init 48) f = f (.aload_n 0, 49, 0, 0, 0, 0, 0)) ∧
  (∀ f : mE → Prop, w_o (mft MX3_init 49) f = f (.iconst 0, 50, 0, 0, 0, (0), 0)) ∧
  (∀ f : mE → Prop, w_o (mft MX3_init 50) f = f (.putfield 35, 53, 3, 5, 0, 0, 0)) ∧
  (∀ f : mE → Prop, w_o (mft MX3_init 53) f = f (.aload_n 0, 54, 0, 0, 0, 0, 0)) ∧
  (∀ f : mE → Prop, w_o (mft MX3_init 54) f = f (.iconst 0, 55, 0, 0, 0, (0), 0)) ∧
  (∀ f : mE → Prop, w_o (mft MX3_init 55) f = f (.putfield 39, 58, 3, 6, 0, 0, 0)) ∧
  (∀ f : mE → Prop, w_o (mft MX3_init 58) f = f (.return_, 59, 0, 0, 0, 0, 0)) := ⟨fun _ => rfl, fun _ => rfl, fun _ => rfl, fun _ => rfl, fun _ => rfl, fun _ => rfl, fun _ => rfl, fun _ => rfl, fun _ => rfl, fun _ => rfl, fun _ => rfl, fun _ => rfl, fun _ => rfl, fun _ => rfl, fun _ => rfl, fun _ => rfl, fun _ => rfl, fun _ => rfl, fun _ => rfl, fun _ => rfl, fun _ => rfl, fun _ => rfl, fun _ => rfl, fun _ => rfl, fun _ => rfl, fun _ => rfl, fun _ => rfl, fun _ => rfl, fun _ => rfl, fun _ => rfl⟩
set_option maxRecDepth 100000 in
theorem gd_X3_init : mGood MX3_init := ⟨by decide +kernel, by decide +kernel, by decide +kernel⟩
set_option maxRecDepth 100000 in
set_option maxHeartbeats 4000000 in
theorem ft_X3_countAll : (∀ f : mE → Prop, w_o (mft MX3_countAll 0) f = f (.aload_n 0, 1, 0, 0, 0, 0, 0)) ∧
  (∀ f : mE → Prop, w_o (mft MX3_countAll 1) f = f (.aload_n 1, 2, 1, 0, 0, 0, 0)) ∧
  (∀ f : mE → Prop, w_o (mft MX3_countAll 2) f = f (.iload_n 2, 3, 2, 0, 0, 0, 0)) ∧
  (∀ f : mE → Prop, w_o (mft MX3_countAll 3) f = f (.iconst 0, 4, 0, 0, 0, (0), 0)) ∧
  (∀ f : mE → Prop, w_o (mft MX3_countAll 4) f = f (.invokevirtual 42, 7, 37, 3, 3, 0, 0)) ∧
  (∀ f : mE → Prop, w_o (mft MX3_countAll 7) f = f (.aload_n 0, 8, 0, 0, 0, 0, 0)) ∧
  (∀ f : mE → Prop, w_o (mft MX3_countAll 8) f = f (.iconst 0, 9, 0, 0, 0, (0), 0)) ∧
  (∀ f : mE → Prop, w_o (mft MX3_countAll 9) f = f (.iconst 0, 10, 0, 0, 0, (0), 0)) ∧
  (∀ f : mE → Prop, w_o (mft MX3_countAll 10) f = f (.iconst 0, 11, 0, 0, 0, (0), 0)) ∧
  (∀ f : mE → Prop, w_o (mft MX3_countAll 11) f = f (.invokevirtual 46, 14, 39, 3, 3, 0, 0)) ∧
  (∀ f : mE → Prop, w_o (mft MX3_countAll 14) f = f (.return_, 15, 0, 0, 0, 0, 0)) := ⟨fun _ => rfl, fun _ => rfl, fun _ => rfl, fun _ => rfl, fun _ => rfl, fun _ => rfl, fun _ => rfl, fun _ => rfl, fun _ => rfl, fun _ => rfl, fun _ => rfl⟩
set_option maxRecDepth 100000 in
theorem gd_X3_countAll : mGood MX3_countAll := ⟨by decide +kernel, by decide +kernel, by decide +kernel⟩
set_option maxRecDepth 100000 in
set_option maxHeartbeats 4000000 in
theorem ft_X3_findFirst : (∀ f : mE → Prop, w_o (mft MX3_findFirst 0) f = f (.aload_n 0, 1, 0, 0, 0, 0, 0)) ∧
  (∀ f : mE → Prop, w_o (mft MX3_findFirst 1) f = f (.aload_n 1, 2, 1, 0, 0, 0, 0)) ∧
  (∀ f : mE → Prop, w_o (mft MX3_findFirst 2) f = f (.iload_n 2, 3, 2, 0, 0, 0, 0)) ∧
  (∀ f : mE → Prop, w_o (mft MX3_findFirst 3) f = f (.iconst 1, 4, 0, 0, 0, (1), 0)) ∧
  (∀ f : mE → Prop, w_o (mft MX3_findFirst 4) f = f (.invokevirtual 42, 7, 37, 3, 3, 0, 0)) ∧
  (∀ f : mE → Prop, w_o (mft MX3_findFirst 7) f = f (.aload_n 0, 8, 0, 0, 0, 0, 0)) ∧
  (∀ f : mE → Prop, w_o (mft MX3_findFirst 8) f = f (.iconst 0, 9, 0, 0, 0, (0), 0)) ∧
  (∀ f : mE → Prop, w_o (mft MX3_findFirst 9) f = f (.iconst 0, 10, 0, 0, 0, (0), 0)) ∧
  (∀ f : mE → Prop, w_o (mft MX3_findFirst 10) f = f (.iconst 0, 11, 0, 0, 0, (0), 0)) ∧
  (∀ f : mE → Prop, w_o (mft MX3_findFirst 11) f = f (.invokevirtual 46, 14, 39, 3, 3, 0, 0)) ∧
  (∀ f : mE → Prop, w_o (mft MX3_findFirst 14) f = f (.return_, 15, 0, 0, 0, 0, 0)) := ⟨fun _ => rfl, fun _ => rfl, fun _ => rfl, fun _ => rfl, fun _ => rfl, fun _ => rfl, fun _ => rfl, fun _ => rfl, fun _ => rfl, fun _ => rfl, fun _ => rfl⟩
set_option maxRecDepth 100000 in
theorem gd_X3_findFirst : mGood MX3_findFirst := ⟨by decide +kernel, by decide +kernel, by decide +kernel⟩
set_option maxRecDepth 100000 in
set_option maxHeartbeats 4000000 in
theorem ft_X3_foundWith : (∀ f : mE → Prop, w_o (mft MX3_foundWith 0) f = f (.iload_n 1, 1, 1, 0, 0, 0, 0)) ∧
  (∀ f : mE → Prop, w_o (mft MX3_foundWith 1) f = f (.ifCond .lt 18, 4, 19, 0, 0, 0, 0)) ∧
  (∀ f : mE → Prop, w_o (mft MX3_foundWith 4) f = f (.iload_n 1, 5, 1, 0, 0, 0, 0)) ∧
  (∀ f : mE → Prop, w_o (mft MX3_foundWith 5) f = f (.bipush 12, 7, 0, 0, 0, (12), 0)) ∧
  (∀ f : mE → Prop, w_o (mft MX3_foundWith 7) f = f (.if_icmp .gt 12, 10, 19, 0, 0, 0, 0)) ∧
  (∀ f : mE → Prop, w_o (mft MX3_foundWith 10) f = f (.aload_n 0, 11, 0, 0, 0, 0, 0)) ∧
  (∀ f : mE → Prop, w_o (mft MX3_foundWith 11) f = f (.getfield 27, 14, 3, 3, 0, 0, 0)) ∧
  (∀ f : mE → Prop, w_o (mft MX3_foundWith 14) f = f (.iload_n 1, 15, 1, 0, 0, 0, 0)) ∧
  (∀ f : mE → Prop, w_o (mft MX3_foundWith 15) f = f (.iaload, 16, 0, 0, 0, 0, 0)) ∧
  (∀ f : mE → Prop, w_o (mft MX3_foundWith 16) f = f (.goto 4, 19, 20, 0, 0, 0, 0)) ∧
  (∀ f : mE → Prop, w_o (mft MX3_foundWith 19) f = f (.iconst 0, 20, 0, 0, 0, (0), 0)) ∧
  (∀ f : mE → Prop, w_o (mft MX3_foundWith 20) f = f (.ireturn, 21, 0, 0, 0, 0, 0)) := ⟨fun _ => rfl, fun _ => rfl, fun _ => rfl, fun _ => rfl, fun _ => rfl, fun _ => rfl, fun _ => rfl, fun _ => rfl, fun _ => rfl, fun _ => rfl, fun _ => rfl, fun _ => rfl⟩
set_option maxRecDepth 100000 in
theorem gd_X3_foundWith : mGood MX3_foundWith := ⟨by decide +kernel, by decide +kernel, by decide +kernel⟩
set_option maxRecDepth 100000 in
set_option maxHeartbeats 4000000 in
theorem ft_X3_begin : (∀ f : mE → Prop, w_o (mft MX3_begin 0) f = f (.aload_n 0, 1, 0, 0, 0, 0, 0)) ∧
  (∀ f : mE → Prop, w_o (mft MX3_begin 1) f = f (.aload_n 1, 2, 1, 0, 0, 0, 0)) ∧
  (∀ f : mE → Prop, w_o (mft MX3_begin 2) f = f (.getfield 50, 5, 5, 0, 0, 0, 0)) ∧
  (∀ f : mE → Prop, w_o (mft MX3_begin 5) f = f (.putfield 12, 8, 3, 0, 2, 0, 0)) ∧
  (∀ f : mE → Prop, w_o (mft MX3_begin 8) f = f (.aload_n 0, 9, 0, 0, 0, 0, 0)) ∧
  (∀ f : mE → Prop, w_o (mft MX3_begin 9) f = f (.iload_n 3, 10, 3, 0, 0, 0, 0)) ∧
  (∀ f : mE → Prop, w_o (mft MX3_begin 10) f = f (.putfield 31, 13, 3, 4, 1, 0, 0)) ∧
  (∀ f : mE → Prop, w_o (mft MX3_begin 13) f = f (.aload_n 0, 14, 0, 0, 0, 0, 0)) ∧
  (∀ f : mE → Prop, w_o (mft MX3_begin 14) f = f (.iconst 0, 15, 0, 0, 0, (0), 0)) ∧
  (∀ f : mE → Prop, w_o (mft MX3_begin 15) f = f (.putfield 35, 18, 3, 5, 0, 0, 0)) ∧
  (∀ f : mE → Prop, w_o (mft MX3_begin 18) f = f (.aload_n 0, 19, 0, 0, 0, 0, 0)) ∧
  (∀ f : mE → Prop, w_o (mft MX3_begin 19) f = f (.iconst 0, 20, 0, 0, 0, (0), 0)) ∧
  (∀ f : mE → Prop, w_o (mft MX3_begin 20) f = f (.putfield 39, 23, 3, 6, 0, 0, 0)) ∧
  (∀ f : mE → Prop, w_o (mft MX3_begin 23) f = f (.iconst 0, 24, 0, 0, 0, (0), 0)) ∧
  (∀ f : mE → Prop, w_o (mft MX3_begin 24) f = f (.istore 4, 26, 4, 0, 0, 0, 0)) ∧
  (∀ f : mE → Prop, w_o (mft MX3_begin 26) f = f (.iload 4, 28, 4, 0, 0, 0, 0)) ∧
  (∀ f : mE → Prop, w_o (mft MX3_begin 28) f = f (.bipush 12, 30, 0, 0, 0, (12), 0)) ∧
  (∀ f : mE → Prop, w_o (mft MX3_begin 30) f = f (.if_icmp .gt 17, 33, 47, 0, 0, 0, 0)) ∧
  (∀ f : mE → Prop, w_o (mft MX3_begin 33) f = f (.aload_n 0, 34, 0, 0, 0, 0, 0)) ∧
  (∀ f : mE → Prop, w_o (mft MX3_begin 34) f = f (.getfield 27, 37, 3, 3, 0, 0, 0)) ∧
  (∀ f : mE → Prop, w_o (mft MX3_begin 37) f = f (.iload 4, 39, 4, 0, 0, 0, 0)) ∧
  (∀ f : mE → Prop, w_o (mft MX3_begin 39) f = f (.iconst 0, 40, 0, 0, 0, (0), 0)) ∧
  (∀ f : mE → Prop, w_o (mft MX3_begin 40) f = f (.iastore, 41, 0, 0, 0, 0, 0)) ∧
  (∀ f : mE → Prop, w_o (mft MX3_begin 41) f = f (.iinc 4 1, 44, 4, 0, 0, (1), 0)) ∧
  (∀ f : mE → Prop, w_o (mft MX3_begin 44) f = f (.goto (-18), 47, 26, 0, 0, 0, 0)) ∧
  (∀ f : mE → Prop, w_o (mft MX3_begin 47) f = f (.iconst 0, 48, 0, 0, 0, (0), 0)) ∧
  (∀ f : mE → Prop, w_o (mft MX3_begin 48) f = f (.istore 4, 50, 4, 0, 0, 0, 0)) ∧
  (∀ f : mE → Prop, w_o (mft MX3_begin 50) f = f (.iload 4, 52, 4, 0, 0, 0, 0)) ∧
  (∀ f : mE → Prop, w_o (mft MX3_begin 52) f = f (.aload_n 0, 53, 0, 0, 0, 0, 0)) ∧
  (∀ f : mE → Prop, w_o (mft MX3_begin 53) f = f (.getfield 12, 56, 3, 0, 0, 0, 0)) ∧
  (∀ f : mE → Prop, w_o (mft MX3_begin 56) f = f (.getfield 53, 59, 0, 3, 0, 0, 0)) ∧
  (∀ f : mE → Prop, w_o (mft MX3_begin 59) f = f (.if_icmp .ge 45, 62, 104, 0, 0, 0, 0)) ∧
  (∀ f : mE → Prop, w_o (mft MX3_begin 62) f = f (.aload_n 0, 63, 0, 0, 0, 0, 0)) ∧
  (∀ f : mE → Prop, w_o (mft MX3_begin 63) f = f (.getfield 23, 66, 3, 2, 0, 0, 0)) ∧
  (∀ f : mE → Prop, w_o (mft MX3_begin 66) f = f (.iload 4, 68, 4, 0, 0, 0, 0)) ∧
  (∀ f : mE → Prop, w_o (mft MX3_begin 68) f = f (.aload_n 0, 69, 0, 0, 0, 0, 0)) ∧
  (∀ f : mE → Prop, w_o (mft MX3_begin 69) f = f (.getfield 12, 72, 3, 0, 0, 0, 0)) ∧
  (∀ f : mE → Prop, w_o (mft MX3_begin 72) f = f (.getfield 56, 75, 0, 0, 0, 0, 0)) ∧
  (∀ f : mE → Prop, w_o (mft MX3_begin 75) f = f (.iload 4, 77, 4, 0, 0, 0, 0)) ∧
  (∀ f : mE → Prop, w_o (mft MX3_begin 77) f = f (.iaload, 78, 0, 0, 0, 0, 0)) ∧
  (∀ f : mE → Prop, w_o (mft MX3_begin 78) f = f (.iconst 1, 79, 0, 0, 0, (1), 0)) ∧
  (∀ f : mE → Prop, w_o (mft MX3_begin 79) f = f (.if_icmp .ne 17, 82, 96, 0, 0, 0, 0)) ∧
  (∀ f : mE → Prop, w_o (mft MX3_begin 82) f = f (.aload_n 1, 83, 1, 0, 0, 0, 0)) ∧
  (∀ f : mE → Prop, w_o (mft MX3_begin 83) f = f (.iload_n 2, 84, 2, 0, 0, 0, 0)) ∧
  (∀ f : mE → Prop, w_o (mft MX3_begin 84) f = f (.iload 4, 86, 4, 0, 0, 0, 0)) ∧
  (∀ f : mE → Prop, w_o (mft MX3_begin 86) f = f (.invokestatic 59, 89, 38, 3, 3, 0, 0)) ∧
  (∀ f : mE → Prop, w_o (mft MX3_begin 89) f = f (.ifCond .eq 7, 92, 96, 0, 0, 0, 0)) ∧
  (∀ f : mE → Prop, w_o (mft MX3_begin 92) f = f (.iconst 1, 93, 0, 0, 0, (1), 0)) ∧
  (∀ f : mE → Prop, w_o (mft MX3_begin 93) f = f (.goto 4, 96, 97, 0, 0, 0, 0)) ∧
  (∀ f : mE → Prop, w_o (mft MX3_begin 96) f = f (.iconst 0, 97, 0, 0, 0, (0), 0)) ∧
  (∀ f : mE → Prop, w_o (mft MX3_begin 97) f = f (.bastore, 98, 2, 0, 0, 0, 0)) ∧
  (∀ f : mE → Prop, w_o (mft MX3_begin 98) f = f (.iinc 4 1, 101, 4, 0, 0, (1), 0)) ∧
  (∀ f : mE → Prop, w_o (mft MX3_begin 101) f = f (.goto (-51), 104, 50, 0, 0, 0, 0)) ∧
  (∀ f : mE → Prop, w_o (mft MX3_begin 104) f = f (.return_, 105, 0, 0, 0, 0, 0)) := ⟨fun _ => rfl, fun _ => rfl, fun _ => rfl, fun _ => rfl, fun _ => rfl, fun _ => rfl, fun _ => rfl, fun _ => rfl, fun _ => rfl, fun _ => rfl, fun _ => rfl, fun _ => rfl, fun _ => rfl, fun _ => rfl, fun _ => rfl, fun _ => rfl, fun _ => rfl, fun _ => rfl, fun _ => rfl, fun _ => rfl, fun _ => rfl, fun _ => rfl, fun _ => rfl, fun _ => rfl, fun _ => rfl, fun _ => rfl, fun _ => rfl, fun _ => rfl, fun _ => rfl, fun _ => rfl, fun _ => rfl, fun _ => rfl, fun _ => rfl, fun _ => rfl, fun _ => rfl, fun _ => rfl, fun _ => rfl, fun _ => rfl, fun _ => rfl, fun _ => rfl, fun _ => rfl, fun _ => rfl, fun _ => rfl, fun _ => rfl, fun _ => rfl, fun _ => rfl, fun _ => rfl, fun _ => rfl, fun _ => rfl, fun _ => rfl, fun _ => rfl, fun _ => rfl, fun _ => rfl, fun _ => rfl⟩
set_option maxRecDepth 100000 in
theorem gd_X3_begin : mGood MX3_begin := ⟨by decide +kernel, by decide +kernel, by decide +kernel⟩
set_option maxRecDepth 100000 in
set_option maxHeartbeats 4000000 in
theorem ft_X3_isOfSort : (∀ f : mE → Prop, w_o (mft MX3_isOfSort 0) f = f (.iload_n 1, 1, 1, 0, 0, 0, 0)) ∧
  (∀ f : mE → Prop, w_o (mft MX3_isOfSort 1) f = f (.lookupswitch 35 #[(0, 27), (1, 29)], 28, 0, 0, 0, 0, 0)) ∧
  (∀ f : mE → Prop, w_o (mft MX3_isOfSort 28) f = f (.iconst 1, 29, 0, 0, 0, (1), 0)) ∧
  (∀ f : mE → Prop, w_o (mft MX3_isOfSort 29) f = f (.ireturn, 30, 0, 0, 1, 0, 0)) ∧
  (∀ f : mE → Prop, w_o (mft MX3_isOfSort 30) f = f (.aload_n 0, 31, 0, 0, 0, 0, 0)) ∧
  (∀ f : mE → Prop, w_o (mft MX3_isOfSort 31) f = f (.iload_n 2, 32, 2, 0, 0, 0, 0)) ∧
  (∀ f : mE → Prop, w_o (mft MX3_isOfSort 32) f = f (.invokevirtual 63, 35, 68, 1, 5, 0, 0)) ∧
  (∀ f : mE → Prop, w_o (mft MX3_isOfSort 35) f = f (.ireturn, 36, 0, 0, 1, 0, 0)) ∧
  (∀ f : mE → Prop, w_o (mft MX3_isOfSort 36) f = f (.aload_n 0, 37, 0, 0, 0, 0, 0)) ∧
  (∀ f : mE → Prop, w_o (mft MX3_isOfSort 37) f = f (.iload_n 2, 38, 2, 0, 0, 0, 0)) ∧
  (∀ f : mE → Prop, w_o (mft MX3_isOfSort 38) f = f (.invokevirtual 67, 41, 75, 1, 5, 0, 0)) ∧
  (∀ f : mE → Prop, w_o (mft MX3_isOfSort 41) f = f (.ifCond .ne 7, 44, 48, 0, 0, 0, 0)) ∧
  (∀ f : mE → Prop, w_o (mft MX3_isOfSort 44) f = f (.iconst 1, 45, 0, 0, 0, (1), 0)) ∧
  (∀ f : mE → Prop, w_o (mft MX3_isOfSort 45) f = f (.goto 4, 48, 49, 0, 0, 0, 0)) ∧
  (∀ f : mE → Prop, w_o (mft MX3_isOfSort 48) f = f (.iconst 0, 49, 0, 0, 0, (0), 0)) ∧
  (∀ f : mE → Prop, w_o (mft MX3_isOfSort 49) f = f (.ireturn, 50, 0, 0, 1, 0, 0)) := ⟨fun _ => rfl, fun _ => rfl, fun _ => rfl, fun _ => rfl, fun _ => rfl, fun _ => rfl, fun _ => rfl, fun _ => rfl, fun _ => rfl, fun _ => rfl, fun _ => rfl, fun _ => rfl, fun _ => rfl, fun _ => rfl, fun _ => rfl, fun _ => rfl⟩
set_option maxRecDepth 100000 in
theorem gd_X3_isOfSort : mGood MX3_isOfSort := ⟨by decide +kernel, by decide +kernel, by decide +kernel⟩
set_option maxRecDepth 100000 in
set_option maxHeartbeats 4000000 in
theorem ft_X3_search : (∀ f : mE → Prop, w_o (mft MX3_search 0) f = f (.iload_n 1, 1, 1, 0, 0, 0, 0)) ∧
  (∀ f : mE → Prop, w_o (mft MX3_search 1) f = f (.aload_n 0, 2, 0, 0, 0, 0, 0)) ∧
  (∀ f : mE → Prop, w_o (mft MX3_search 2) f = f (.getfield 12, 5, 3, 0, 0, 0, 0)) ∧
  (∀ f : mE → Prop, w_o (mft MX3_search 5) f = f (.getfield 53, 8, 0, 3, 0, 0, 0)) ∧
  (∀ f : mE → Prop, w_o (mft MX3_search 8) f = f (.if_icmp .ge 9, 11, 17, 0, 0, 0, 0)) ∧
  (∀ f : mE → Prop, w_o (mft MX3_search 11) f = f (.iload_n 1, 12, 1, 0, 0, 0, 0)) ∧
  (∀ f : mE → Prop, w_o (mft MX3_search 12) f = f (.bipush 30, 14, 0, 0, 0, (30), 0)) ∧
  (∀ f : mE → Prop, w_o (mft MX3_search 14) f = f (.if_icmp .lt 9, 17, 23, 0, 0, 0, 0)) ∧
  (∀ f : mE → Prop, w_o (mft MX3_search 17) f = f (.aload_n 0, 18, 0, 0, 0, 0, 0)) ∧
  (∀ f : mE → Prop, w_o (mft MX3_search 18) f = f (.iload_n 3, 19, 3, 0, 0, 0, 0)) ∧
  (∀ f : mE → Prop, w_o (mft MX3_search 19) f = f (.invokevirtual 71, 22, 42, 1, 3, 0, 0)) ∧
  (∀ f : mE → Prop, w_o (mft MX3_search 22) f = f (.return_, 23, 0, 0, 0, 0, 0)) ∧
  (∀ f : mE → Prop, w_o (mft MX3_search 23) f = f (.aload_n 0, 24, 0, 0, 0, 0, 0)) ∧
  (∀ f : mE → Prop, w_o (mft MX3_search 24) f = f (.getfield 12, 27, 3, 0, 0, 0, 0)) ∧
  (∀ f : mE → Prop, w_o (mft MX3_search 27) f = f (.getfield 75, 30, 0, 1, 0, 0, 0)) ∧
  (∀ f : mE → Prop, w_o (mft MX3_search 30) f = f (.iload_n 1, 31, 1, 0, 0, 0, 0)) ∧
  (∀ f : mE → Prop, w_o (mft MX3_search 31) f = f (.iaload, 32, 0, 0, 0, 0, 0)) ∧
  (∀ f : mE → Prop, w_o (mft MX3_search 32) f = f (.istore 4, 34, 4, 0, 0, 0, 0)) ∧
  (∀ f : mE → Prop, w_o (mft MX3_search 34) f = f (.aload_n 0, 35, 0, 0, 0, 0, 0)) ∧
  (∀ f : mE → Prop, w_o (mft MX3_search 35) f = f (.getfield 12, 38, 3, 0, 0, 0, 0)) ∧
  (∀ f : mE → Prop, w_o (mft MX3_search 38) f = f (.getfield 56, 41, 0, 0, 0, 0, 0)) ∧
  (∀ f : mE → Prop, w_o (mft MX3_search 41) f = f (.iload_n 1, 42, 1, 0, 0, 0, 0)) ∧
  (∀ f : mE → Prop, w_o (mft MX3_search 42) f = f (.iaload, 43, 0, 0, 0, 0, 0)) ∧
  (∀ f : mE → Prop, w_o (mft MX3_search 43) f = f (.ifCond .ne 22, 46, 65, 0, 0, 0, 0)) ∧
  (∀ f : mE → Prop, w_o (mft MX3_search 46) f = f (.aload_n 0, 47, 0, 0, 0, 0, 0)) ∧
  (∀ f : mE → Prop, w_o (mft MX3_search 47) f = f (.iload_n 1, 48, 1, 0, 0, 0, 0)) ∧
  (∀ f : mE → Prop, w_o (mft MX3_search 48) f = f (.iload 4, 50, 4, 0, 0, 0, 0)) ∧
  (∀ f : mE → Prop, w_o (mft MX3_search 50) f = f (.invokevirtual 78, 53, 43, 2, 3, 0, 0)) ∧
  (∀ f : mE → Prop, w_o (mft MX3_search 53) f = f (.aload_n 0, 54, 0, 0, 0, 0, 0)) ∧
  (∀ f : mE → Prop, w_o (mft MX3_search 54) f = f (.iload_n 1, 55, 1, 0, 0, 0, 0)) ∧
  (∀ f : mE → Prop, w_o (mft MX3_search 55) f = f (.iconst 1, 56, 0, 0, 0, (1), 0)) ∧
  (∀ f : mE → Prop, w_o (mft MX3_search 56) f = f (.iadd, 57, 0, 0, 0, 0, 0)) ∧
  (∀ f : mE → Prop, w_o (mft MX3_search 57) f = f (.iload_n 2, 58, 2, 0, 0, 0, 0)) ∧
  (∀ f : mE → Prop, w_o (mft MX3_search 58) f = f (.iload_n 3, 59, 3, 0, 0, 0, 0)) ∧
  (∀ f : mE → Prop, w_o (mft MX3_search 59) f = f (.invokevirtual 46, 62, 39, 3, 3, 0, 0)) ∧
  (∀ f : mE → Prop, w_o (mft MX3_search 62) f = f (.goto 49, 65, 111, 0, 0, 0, 0)) ∧
  (∀ f : mE → Prop, w_o (mft MX3_search 65) f = f (.aload_n 0, 66, 0, 0, 0, 0, 0)) ∧
  (∀ f : mE → Prop, w_o (mft MX3_search 66) f = f (.getfield 20, 69, 3, 1, 0, 0, 0)) ∧
  (∀ f : mE → Prop, w_o (mft MX3_search 69) f = f (.iload_n 1, 70, 1, 0, 0, 0, 0)) ∧
  (∀ f : mE → Prop, w_o (mft MX3_search 70) f = f (.aaload, 71, 3, 0, 0, 0, 0)) ∧
  (∀ f : mE → Prop, w_o (mft MX3_search 71) f = f (.iload 4, 73, 4, 0, 0, 0, 0)) ∧
  (∀ f : mE → Prop, w_o (mft MX3_search 73) f = f (.iaload, 74, 0, 0, 0, 0, 0)) ∧
  (∀ f : mE → Prop, w_o (mft MX3_search 74) f = f (.iload 4, 76, 4, 0, 0, 0, 0)) ∧
  (∀ f : mE → Prop, w_o (mft MX3_search 76) f = f (.iconst 1, 77, 0, 0, 0, (1), 0)) ∧
  (∀ f : mE → Prop, w_o (mft MX3_search 77) f = f (.iadd, 78, 0, 0, 0, 0, 0)) ∧
  (∀ f : mE → Prop, w_o (mft MX3_search 78) f = f (.if_icmp .ne 13, 81, 91, 0, 0, 0, 0)) ∧
  (∀ f : mE → Prop, w_o (mft MX3_search 81) f = f (.aload_n 0, 82, 0, 0, 0, 0, 0)) ∧
  (∀ f : mE → Prop, w_o (mft MX3_search 82) f = f (.iload_n 1, 83, 1, 0, 0, 0, 0)) ∧
  (∀ f : mE → Prop, w_o (mft MX3_search 83) f = f (.iload_n 2, 84, 2, 0, 0, 0, 0)) ∧
  (∀ f : mE → Prop, w_o (mft MX3_search 84) f = f (.iload_n 3, 85, 3, 0, 0, 0, 0)) ∧
  (∀ f : mE → Prop, w_o (mft MX3_search 85) f = f (.invokevirtual 82, 88, 40, 3, 3, 0, 0)) ∧
  (∀ f : mE → Prop, w_o (mft MX3_search 88) f = f (.goto 23, 91, 111, 0, 0, 0, 0)) ∧
  (∀ f : mE → Prop, w_o (mft MX3_search 91) f = f (.aload_n 0, 92, 0, 0, 0, 0, 0)) ∧
  (∀ f : mE → Prop, w_o (mft MX3_search 92) f = f (.getfield 12, 95, 3, 0, 0, 0, 0)) ∧
  (∀ f : mE → Prop, w_o (mft MX3_search 95) f = f (.getfield 56, 98, 0, 0, 0, 0, 0)) ∧
  (∀ f : mE → Prop, w_o (mft MX3_search 98) f = f (.iload_n 1, 99, 1, 0, 0, 0, 0)) ∧
  (∀ f : mE → Prop, w_o (mft MX3_search 99) f = f (.iaload, 100, 0, 0, 0, 0, 0)) ∧
  (∀ f : mE → Prop, w_o (mft MX3_search 100) f = f (.iconst 1, 101, 0, 0, 0, (1), 0)) ∧
  (∀ f : mE → Prop, w_o (mft MX3_search 101) f = f (.if_icmp .ne 10, 104, 111, 0, 0, 0, 0)) ∧
  (∀ f : mE → Prop, w_o (mft MX3_search 104) f = f (.aload_n 0, 105, 0, 0, 0, 0, 0)) ∧
  (∀ f : mE → Prop, w_o (mft MX3_search 105) f = f (.iload_n 1, 106, 1, 0, 0, 0, 0)) ∧
  (∀ f : mE → Prop, w_o (mft MX3_search 106) f = f (.iload_n 2, 107, 2, 0, 0, 0, 0)) ∧
  (∀ f : mE → Prop, w_o (mft MX3_search 107) f = f (.iload_n 3, 108, 3, 0, 0, 0, 0)) ∧
  (∀ f : mE → Prop, w_o (mft MX3_search 108) f = f (.invokevirtual 85, 111, 41, 3, 3, 0, 0)) ∧
  (∀ f : mE → Prop, w_o (mft MX3_search 111) f = f (.return_, 112, 0, 0, 0, 0, 0)) := ⟨fun _ => rfl, fun _ => rfl, fun _ => rfl, fun _ => rfl, fun _ => rfl, fun _ => rfl, fun _ => rfl, fun _ => rfl, fun _ => rfl, fun _ => rfl, fun _ => rfl, fun _ => rfl, fun _ => rfl, fun _ => rfl, fun _ => rfl, fun _ => rfl, fun _ => rfl, fun _ => rfl, fun _ => rfl, fun _ => rfl, fun _ => rfl, fun _ => rfl, fun _ => rfl, fun _ => rfl, fun _ => rfl, fun _ => rfl, fun _ => rfl, fun _ => rfl, fun _ => rfl, fun _ => rfl, fun _ => rfl, fun _ => rfl, fun _ => rfl, fun _ => rfl, fun _ => rfl, fun _ => rfl, fun _ => rfl, fun _ => rfl, fun _ => rfl, fun _ => rfl, fun _ => rfl, fun _ => rfl, fun _ => rfl, fun _ => rfl, fun _ => rfl, fun _ => rfl, fun _ => rfl, fun _ => rfl, fun _ => rfl, fun _ => rfl, fun _ => rfl, fun _ => rfl, fun _ => rfl, fun _ => rfl, fun _ => rfl, fun _ => rfl, fun _ => rfl, fun _ => rfl, fun _ => rfl, fun _ => rfl, fun _ => rfl, fun _ => rfl, fun _ => rfl, fun _ => rfl, fun _ => rfl⟩
set_option maxRecDepth 100000 in
theorem gd_X3_search : mGood MX3_search := ⟨by decide +kernel, by decide +kernel, by decide +kernel⟩
set_option maxRecDepth 100000 in
set_option maxHeartbeats 4000000 in
theorem ft_X3_searchPaired : (∀ f : mE → Prop, w_o (mft MX3_searchPaired 0) f = f (.aload_n 0, 1, 0, 0, 0, 0, 0)) ∧
  (∀ f : mE → Prop, w_o (mft MX3_searchPaired 1) f = f (.getfield 12, 4, 3, 0, 0, 0, 0)) ∧
  (∀ f : mE → Prop, w_o (mft MX3_searchPaired 4) f = f (.getfield 56, 7, 0, 0, 0, 0, 0)) ∧
  (∀ f : mE → Prop, w_o (mft MX3_searchPaired 7) f = f (.iload_n 1, 8, 1, 0, 0, 0, 0)) ∧
  (∀ f : mE → Prop, w_o (mft MX3_searchPaired 8) f = f (.iaload, 9, 0, 0, 0, 0, 0)) ∧
  (∀ f : mE → Prop, w_o (mft MX3_searchPaired 9) f = f (.iconst 2, 10, 0, 0, 0, (2), 0)) ∧
  (∀ f : mE → Prop, w_o (mft MX3_searchPaired 10) f = f (.if_icmp .ne 26, 13, 36, 0, 0, 0, 0)) ∧
  (∀ f : mE → Prop, w_o (mft MX3_searchPaired 13) f = f (.aload_n 0, 14, 0, 0, 0, 0, 0)) ∧
  (∀ f : mE → Prop, w_o (mft MX3_searchPaired 14) f = f (.iload_n 1, 15, 1, 0, 0, 0, 0)) ∧
  (∀ f : mE → Prop, w_o (mft MX3_searchPaired 15) f = f (.aload_n 0, 16, 0, 0, 0, 0, 0)) ∧
  (∀ f : mE → Prop, w_o (mft MX3_searchPaired 16) f = f (.getfield 12, 19, 3, 0, 0, 0, 0)) ∧
  (∀ f : mE → Prop, w_o (mft MX3_searchPaired 19) f = f (.getfield 75, 22, 0, 1, 0, 0, 0)) ∧
  (∀ f : mE → Prop, w_o (mft MX3_searchPaired 22) f = f (.iload_n 1, 23, 1, 0, 0, 0, 0)) ∧
  (∀ f : mE → Prop, w_o (mft MX3_searchPaired 23) f = f (.iaload, 24, 0, 0, 0, 0, 0)) ∧
  (∀ f : mE → Prop, w_o (mft MX3_searchPaired 24) f = f (.invokevirtual 88, 27, 44, 2, 3, 0, 0)) ∧
  (∀ f : mE → Prop, w_o (mft MX3_searchPaired 27) f = f (.aload_n 0, 28, 0, 0, 0, 0, 0)) ∧
  (∀ f : mE → Prop, w_o (mft MX3_searchPaired 28) f = f (.iload_n 1, 29, 1, 0, 0, 0, 0)) ∧
  (∀ f : mE → Prop, w_o (mft MX3_searchPaired 29) f = f (.iconst 1, 30, 0, 0, 0, (1), 0)) ∧
  (∀ f : mE → Prop, w_o (mft MX3_searchPaired 30) f = f (.iadd, 31, 0, 0, 0, 0, 0)) ∧
  (∀ f : mE → Prop, w_o (mft MX3_searchPaired 31) f = f (.iload_n 2, 32, 2, 0, 0, 0, 0)) ∧
  (∀ f : mE → Prop, w_o (mft MX3_searchPaired 32) f = f (.iload_n 3, 33, 3, 0, 0, 0, 0)) ∧
  (∀ f : mE → Prop, w_o (mft MX3_searchPaired 33) f = f (.invokevirtual 46, 36, 39, 3, 3, 0, 0)) ∧
  (∀ f : mE → Prop, w_o (mft MX3_searchPaired 36) f = f (.return_, 37, 0, 0, 0, 0, 0)) := ⟨fun _ => rfl, fun _ => rfl, fun _ => rfl, fun _ => rfl, fun _ => rfl, fun _ => rfl, fun _ => rfl, fun _ => rfl, fun _ => rfl, fun _ => rfl, fun _ => rfl, fun _ => rfl, fun _ => rfl, fun _ => rfl, fun _ => rfl, fun _ => rfl, fun _ => rfl, fun _ => rfl, fun _ => rfl, fun _ => rfl, fun _ => rfl, fun _ => rfl, fun _ => rfl⟩
set_option maxRecDepth 100000 in
theorem gd_X3_searchPaired : mGood MX3_searchPaired := ⟨by decide +kernel, by decide +kernel, by decide +kernel⟩
set_option maxRecDepth 100000 in
set_option maxHeartbeats 4000000 in
theorem ft_X3_searchCross : (∀ f : mE → Prop, w_o (mft MX3_searchCross 0) f = f (.aload_n 0, 1, 0, 0, 0, 0, 0)) ∧
  (∀ f : mE → Prop, w_o (mft MX3_searchCross 1) f = f (.getfield 12, 4, 3, 0, 0, 0, 0)) ∧
  (∀ f : mE → Prop, w_o (mft MX3_searchCross 4) f = f (.getfield 75, 7, 0, 1, 0, 0, 0)) ∧
  (∀ f : mE → Prop, w_o (mft MX3_searchCross 7) f = f (.iload_n 1, 8, 1, 0, 0, 0, 0)) ∧
  (∀ f : mE → Prop, w_o (mft MX3_searchCross 8) f = f (.iaload, 9, 0, 0, 0, 0, 0)) ∧
  (∀ f : mE → Prop, w_o (mft MX3_searchCross 9) f = f (.istore 4, 11, 4, 0, 0, 0, 0)) ∧
  (∀ f : mE → Prop, w_o (mft MX3_searchCross 11) f = f (.aload_n 0, 12, 0, 0, 0, 0, 0)) ∧
  (∀ f : mE → Prop, w_o (mft MX3_searchCross 12) f = f (.iload_n 1, 13, 1, 0, 0, 0, 0)) ∧
  (∀ f : mE → Prop, w_o (mft MX3_searchCross 13) f = f (.iload 4, 15, 4, 0, 0, 0, 0)) ∧
  (∀ f : mE → Prop, w_o (mft MX3_searchCross 15) f = f (.invokevirtual 91, 18, 45, 2, 3, 0, 0)) ∧
  (∀ f : mE → Prop, w_o (mft MX3_searchCross 18) f = f (.aload_n 0, 19, 0, 0, 0, 0, 0)) ∧
  (∀ f : mE → Prop, w_o (mft MX3_searchCross 19) f = f (.iload_n 1, 20, 1, 0, 0, 0, 0)) ∧
  (∀ f : mE → Prop, w_o (mft MX3_searchCross 20) f = f (.iconst 1, 21, 0, 0, 0, (1), 0)) ∧
  (∀ f : mE → Prop, w_o (mft MX3_searchCross 21) f = f (.iadd, 22, 0, 0, 0, 0, 0)) ∧
  (∀ f : mE → Prop, w_o (mft MX3_searchCross 22) f = f (.iload_n 2, 23, 2, 0, 0, 0, 0)) ∧
  (∀ f : mE → Prop, w_o (mft MX3_searchCross 23) f = f (.iconst 1, 24, 0, 0, 0, (1), 0)) ∧
  (∀ f : mE → Prop, w_o (mft MX3_searchCross 24) f = f (.iadd, 25, 0, 0, 0, 0, 0)) ∧
  (∀ f : mE → Prop, w_o (mft MX3_searchCross 25) f = f (.iload_n 3, 26, 3, 0, 0, 0, 0)) ∧
  (∀ f : mE → Prop, w_o (mft MX3_searchCross 26) f = f (.invokevirtual 46, 29, 39, 3, 3, 0, 0)) ∧
  (∀ f : mE → Prop, w_o (mft MX3_searchCross 29) f = f (.aload_n 0, 30, 0, 0, 0, 0, 0)) ∧
  (∀ f : mE → Prop, w_o (mft MX3_searchCross 30) f = f (.getfield 31, 33, 3, 4, 0, 0, 0)) ∧
  (∀ f : mE → Prop, w_o (mft MX3_searchCross 33) f = f (.ifCond .eq 11, 36, 44, 0, 0, 0, 0)) ∧
  (∀ f : mE → Prop, w_o (mft MX3_searchCross 36) f = f (.aload_n 0, 37, 0, 0, 0, 0, 0)) ∧
  (∀ f : mE → Prop, w_o (mft MX3_searchCross 37) f = f (.getfield 35, 40, 3, 5, 0, 0, 0)) ∧
  (∀ f : mE → Prop, w_o (mft MX3_searchCross 40) f = f (.ifCond .le 4, 43, 44, 0, 0, 0, 0)) ∧
  (∀ f : mE → Prop, w_o (mft MX3_searchCross 43) f = f (.return_, 44, 0, 0, 0, 0, 0)) ∧
  (∀ f : mE → Prop, w_o (mft MX3_searchCross 44) f = f (.aload_n 0, 45, 0, 0, 0, 0, 0)) ∧
  (∀ f : mE → Prop, w_o (mft MX3_searchCross 45) f = f (.getfield 23, 48, 3, 2, 0, 0, 0)) ∧
  (∀ f : mE → Prop, w_o (mft MX3_searchCross 48) f = f (.iload_n 1, 49, 1, 0, 0, 0, 0)) ∧
  (∀ f : mE → Prop, w_o (mft MX3_searchCross 49) f = f (.baload, 50, 2, 0, 0, 0, 0)) ∧
  (∀ f : mE → Prop, w_o (mft MX3_searchCross 50) f = f (.ifCond .eq 49, 53, 99, 0, 0, 0, 0)) ∧
  (∀ f : mE → Prop, w_o (mft MX3_searchCross 53) f = f (.aload_n 0, 54, 0, 0, 0, 0, 0)) ∧
  (∀ f : mE → Prop, w_o (mft MX3_searchCross 54) f = f (.iload_n 1, 55, 1, 0, 0, 0, 0)) ∧
  (∀ f : mE → Prop, w_o (mft MX3_searchCross 55) f = f (.iload 4, 57, 4, 0, 0, 0, 0)) ∧
  (∀ f : mE → Prop, w_o (mft MX3_searchCross 57) f = f (.invokevirtual 94, 60, 46, 2, 3, 0, 0)) ∧
  (∀ f : mE → Prop, w_o (mft MX3_searchCross 60) f = f (.ifCond .ne 39, 63, 99, 0, 0, 0, 0)) ∧
  (∀ f : mE → Prop, w_o (mft MX3_searchCross 63) f = f (.aload_n 0, 64, 0, 0, 0, 0, 0)) ∧
  (∀ f : mE → Prop, w_o (mft MX3_searchCross 64) f = f (.getfield 20, 67, 3, 1, 0, 0, 0)) ∧
  (∀ f : mE → Prop, w_o (mft MX3_searchCross 67) f = f (.iload_n 1, 68, 1, 0, 0, 0, 0)) ∧
  (∀ f : mE → Prop, w_o (mft MX3_searchCross 68) f = f (.aaload, 69, 3, 0, 0, 0, 0)) ∧
  (∀ f : mE → Prop, w_o (mft MX3_searchCross 69) f = f (.iconst 0, 70, 0, 0, 0, (0), 0)) ∧
  (∀ f : mE → Prop, w_o (mft MX3_searchCross 70) f = f (.aload_n 0, 71, 0, 0, 0, 0, 0)) ∧
  (∀ f : mE → Prop, w_o (mft MX3_searchCross 71) f = f (.getfield 20, 74, 3, 1, 0, 0, 0)) ∧
  (∀ f : mE → Prop, w_o (mft MX3_searchCross 74) f = f (.iload_n 1, 75, 1, 0, 0, 0, 0)) ∧
  (∀ f : mE → Prop, w_o (mft MX3_searchCross 75) f = f (.iconst 1, 76, 0, 0, 0, (1), 0)) ∧
  (∀ f : mE → Prop, w_o (mft MX3_searchCross 76) f = f (.iadd, 77, 0, 0, 0, 0, 0)) ∧
  (∀ f : mE → Prop, w_o (mft MX3_searchCross 77) f = f (.aaload, 78, 3, 0, 0, 0, 0)) ∧
  (∀ f : mE → Prop, w_o (mft MX3_searchCross 78) f = f (.iconst 0, 79, 0, 0, 0, (0), 0)) ∧
  (∀ f : mE → Prop, w_o (mft MX3_searchCross 79) f = f (.bipush 10, 81, 0, 0, 0, (10), 0)) ∧
  (∀ f : mE → Prop, w_o (mft MX3_searchCross 81) f = f (.invokestatic 98, 84, 1000, 0, 0, 0, 0)) ∧
  (∀ f : mE → Prop, w_o (mft MX3_searchCross 84) f = f (.aload_n 0, 85, 0, 0, 0, 0, 0)) ∧
  (∀ f : mE → Prop, w_o (mft MX3_searchCross 85) f = f (.iload_n 1, 86, 1, 0, 0, 0, 0)) ∧
  (∀ f : mE → Prop, w_o (mft MX3_searchCross 86) f = f (.iconst 1, 87, 0, 0, 0, (1), 0)) ∧
  (∀ f : mE → Prop, w_o (mft MX3_searchCross 87) f = f (.iadd, 88, 0, 0, 0, 0, 0)) ∧
  (∀ f : mE → Prop, w_o (mft MX3_searchCross 88) f = f (.iload_n 2, 89, 2, 0, 0, 0, 0)) ∧
  (∀ f : mE → Prop, w_o (mft MX3_searchCross 89) f = f (.iconst 1, 90, 0, 0, 0, (1), 0)) ∧
  (∀ f : mE → Prop, w_o (mft MX3_searchCross 90) f = f (.iadd, 91, 0, 0, 0, 0, 0)) ∧
  (∀ f : mE → Prop, w_o (mft MX3_searchCross 91) f = f (.iload_n 3, 92, 3, 0, 0, 0, 0)) ∧
  (∀ f : mE → Prop, w_o (mft MX3_searchCross 92) f = f (.iconst 1, 93, 0, 0, 0, (1), 0)) ∧
  (∀ f : mE → Prop, w_o (mft MX3_searchCross 93) f = f (.iload_n 2, 94, 2, 0, 0, 0, 0)) ∧
  (∀ f : mE → Prop, w_o (mft MX3_searchCross 94) f = f (.ishl, 95, 0, 0, 0, 0, 0)) ∧
  (∀ f : mE → Prop, w_o (mft MX3_searchCross 95) f = f (.ior, 96, 0, 0, 0, 0, 0)) ∧
  (∀ f : mE → Prop, w_o (mft MX3_searchCross 96) f = f (.invokevirtual 46, 99, 39, 3, 3, 0, 0)) ∧
  (∀ f : mE → Prop, w_o (mft MX3_searchCross 99) f = f (.return_, 100, 0, 0, 0, 0, 0)) := ⟨fun _ => rfl, fun _ => rfl, fun _ => rfl, fun _ => rfl, fun _ => rfl, fun _ => rfl, fun _ => rfl, fun _ => rfl, fun _ => rfl, fun _ => rfl, fun _ => rfl, fun _ => rfl, fun _ => rfl, fun _ => rfl, fun _ => rfl, fun _ => rfl, fun _ => rfl, fun _ => rfl, fun _ => rfl, fun _ => rfl, fun _ => rfl, fun _ => rfl, fun _ => rfl, fun _ => rfl, fun _ => rfl, fun _ => rfl, fun _ => rfl, fun _ => rfl, fun _ => rfl, fun _ => rfl, fun _ => rfl, fun _ => rfl, fun _ => rfl, fun _ => rfl, fun _ => rfl, fun _ => rfl, fun _ => rfl, fun _ => rfl, fun _ => rfl, fun _ => rfl, fun _ => rfl, fun _ => rfl, fun _ => rfl, fun _ => rfl, fun _ => rfl, fun _ => rfl, fun _ => rfl, fun _ => rfl, fun _ => rfl, fun _ => rfl, fun _ => rfl, fun _ => rfl, fun _ => rfl, fun _ => rfl, fun _ => rfl, fun _ => rfl, fun _ => rfl, fun _ => rfl, fun _ => rfl, fun _ => rfl, fun _ => rfl, fun _ => rfl, fun _ => rfl, fun _ => rfl⟩
set_option maxRecDepth 100000 in
theorem gd_X3_searchCross : mGood MX3_searchCross := ⟨by decide +kernel, by decide +kernel, by decide +kernel⟩
set_option maxRecDepth 100000 in
set_option maxHeartbeats 4000000 in
theorem ft_X3_note : (∀ f : mE → Prop, w_o (mft MX3_note 0) f = f (.aload_n 0, 1, 0, 0, 0, 0, 0)) ∧
  (∀ f : mE → Prop, w_o (mft MX3_note 1) f = f (.getfield 35, 4, 3, 5, 0, 0, 0)) ∧
  (∀ f : mE → Prop, w_o (mft MX3_note 4) f = f (.ifCond .ne 8, 7, 12, 0, 0, 0, 0)) ∧
  (∀ f : mE → Prop, w_o (mft MX3_note 7) f = f (.aload_n 0, 8, 0, 0, 0, 0, 0)) ∧
  (∀ f : mE → Prop, w_o (mft MX3_note 8) f = f (.iload_n 1, 9, 1, 0, 0, 0, 0)) ∧
  (∀ f : mE → Prop, w_o (mft MX3_note 9) f = f (.putfield 39, 12, 3, 6, 0, 0, 0)) ∧
  (∀ f : mE → Prop, w_o (mft MX3_note 12) f = f (.aload_n 0, 13, 0, 0, 0, 0, 0)) ∧
  (∀ f : mE → Prop, w_o (mft MX3_note 13) f = f (.dup, 14, 0, 0, 0, 0, 0)) ∧
  (∀ f : mE → Prop, w_o (mft MX3_note 14) f = f (.getfield 35, 17, 3, 5, 0, 0, 0)) ∧
  (∀ f : mE → Prop, w_o (mft MX3_note 17) f = f (.iconst 1, 18, 0, 0, 0, (1), 0)) ∧
  (∀ f : mE → Prop, w_o (mft MX3_note 18) f = f (.iadd, 19, 0, 0, 0, 0, 0)) ∧
  (∀ f : mE → Prop, w_o (mft MX3_note 19) f = f (.putfield 35, 22, 3, 5, 0, 0, 0)) ∧
  (∀ f : mE → Prop, w_o (mft MX3_note 22) f = f (.iload_n 1, 23, 1, 0, 0, 0, 0)) ∧
  (∀ f : mE → Prop, w_o (mft MX3_note 23) f = f (.invokestatic 104, 26, 175, 1, 9, 0, 0)) ∧
  (∀ f : mE → Prop, w_o (mft MX3_note 26) f = f (.istore_n 2, 27, 2, 0, 0, 0, 0)) ∧
  (∀ f : mE → Prop, w_o (mft MX3_note 27) f = f (.iload_n 2, 28, 2, 0, 0, 0, 0)) ∧
  (∀ f : mE → Prop, w_o (mft MX3_note 28) f = f (.bipush 12, 30, 0, 0, 0, (12), 0)) ∧
  (∀ f : mE → Prop, w_o (mft MX3_note 30) f = f (.if_icmp .gt 13, 33, 43, 0, 0, 0, 0)) ∧
  (∀ f : mE → Prop, w_o (mft MX3_note 33) f = f (.aload_n 0, 34, 0, 0, 0, 0, 0)) ∧
  (∀ f : mE → Prop, w_o (mft MX3_note 34) f = f (.getfield 27, 37, 3, 3, 0, 0, 0)) ∧
  (∀ f : mE → Prop, w_o (mft MX3_note 37) f = f (.iload_n 2, 38, 2, 0, 0, 0, 0)) ∧
  (∀ f : mE → Prop, w_o (mft MX3_note 38) f = f (.dup2, 39, 0, 0, 0, 0, 0)) ∧
  (∀ f : mE → Prop, w_o (mft MX3_note 39) f = f (.iaload, 40, 0, 0, 0, 0, 0)) ∧
  (∀ f : mE → Prop, w_o (mft MX3_note 40) f = f (.iconst 1, 41, 0, 0, 0, (1), 0)) ∧
  (∀ f : mE → Prop, w_o (mft MX3_note 41) f = f (.iadd, 42, 0, 0, 0, 0, 0)) ∧
  (∀ f : mE → Prop, w_o (mft MX3_note 42) f = f (.iastore, 43, 0, 0, 0, 0, 0)) ∧
  (∀ f : mE → Prop, w_o (mft MX3_note 43) f = f (.return_, 44, 0, 0, 0, 0, 0)) := ⟨fun _ => rfl, fun _ => rfl, fun _ => rfl, fun _ => rfl, fun _ => rfl, fun _ => rfl, fun _ => rfl, fun _ => rfl, fun _ => rfl, fun _ => rfl, fun _ => rfl, fun _ => rfl, fun _ => rfl, fun _ => rfl, fun _ => rfl, fun _ => rfl, fun _ => rfl, fun _ => rfl, fun _ => rfl, fun _ => rfl, fun _ => rfl, fun _ => rfl, fun _ => rfl, fun _ => rfl, fun _ => rfl, fun _ => rfl, fun _ => rfl⟩
set_option maxRecDepth 100000 in
theorem gd_X3_note : mGood MX3_note := ⟨by decide +kernel, by decide +kernel, by decide +kernel⟩
set_option maxRecDepth 100000 in
set_option maxHeartbeats 4000000 in
theorem ft_X3_pairNew : (∀ f : mE → Prop, w_o (mft MX3_pairNew 0) f = f (.aload_n 0, 1, 0, 0, 0, 0, 0)) ∧
  (∀ f : mE → Prop, w_o (mft MX3_pairNew 1) f = f (.getfield 20, 4, 3, 1, 0, 0, 0)) ∧
  (∀ f : mE → Prop, w_o (mft MX3_pairNew 4) f = f (.iload_n 1, 5, 1, 0, 0, 0, 0)) ∧
  (∀ f : mE → Prop, w_o (mft MX3_pairNew 5) f = f (.aaload, 6, 3, 0, 0, 0, 0)) ∧
  (∀ f : mE → Prop, w_o (mft MX3_pairNew 6) f = f (.astore_n 3, 7, 3, 0, 0, 0, 0)) ∧
  (∀ f : mE → Prop, w_o (mft MX3_pairNew 7) f = f (.aload_n 0, 8, 0, 0, 0, 0, 0)) ∧
  (∀ f : mE → Prop, w_o (mft MX3_pairNew 8) f = f (.getfield 20, 11, 3, 1, 0, 0, 0)) ∧
  (∀ f : mE → Prop, w_o (mft MX3_pairNew 11) f = f (.iload_n 1, 12, 1, 0, 0, 0, 0)) ∧
  (∀ f : mE → Prop, w_o (mft MX3_pairNew 12) f = f (.iconst 1, 13, 0, 0, 0, (1), 0)) ∧
  (∀ f : mE → Prop, w_o (mft MX3_pairNew 13) f = f (.iadd, 14, 0, 0, 0, 0, 0)) ∧
  (∀ f : mE → Prop, w_o (mft MX3_pairNew 14) f = f (.aaload, 15, 3, 0, 0, 0, 0)) ∧
  (∀ f : mE → Prop, w_o (mft MX3_pairNew 15) f = f (.astore 4, 17, 4, 0, 0, 0, 0)) ∧
  (∀ f : mE → Prop, w_o (mft MX3_pairNew 17) f = f (.iconst 0, 18, 0, 0, 0, (0), 0)) ∧
  (∀ f : mE → Prop, w_o (mft MX3_pairNew 18) f = f (.istore 5, 20, 5, 0, 0, 0, 0)) ∧
  (∀ f : mE → Prop, w_o (mft MX3_pairNew 20) f = f (.iload 5, 22, 5, 0, 0, 0, 0)) ∧
  (∀ f : mE → Prop, w_o (mft MX3_pairNew 22) f = f (.aload_n 0, 23, 0, 0, 0, 0, 0)) ∧
  (∀ f : mE → Prop, w_o (mft MX3_pairNew 23) f = f (.getfield 12, 26, 3, 0, 0, 0, 0)) ∧
  (∀ f : mE → Prop, w_o (mft MX3_pairNew 26) f = f (.getfield 109, 29, 0, 2, 0, 0, 0)) ∧
  (∀ f : mE → Prop, w_o (mft MX3_pairNew 29) f = f (.iload_n 1, 30, 1, 0, 0, 0, 0)) ∧
  (∀ f : mE → Prop, w_o (mft MX3_pairNew 30) f = f (.iaload, 31, 0, 0, 0, 0, 0)) ∧
  (∀ f : mE → Prop, w_o (mft MX3_pairNew 31) f = f (.if_icmp .ge 48, 34, 79, 0, 0, 0, 0)) ∧
  (∀ f : mE → Prop, w_o (mft MX3_pairNew 34) f = f (.aload_n 3, 35, 3, 0, 0, 0, 0)) ∧
  (∀ f : mE → Prop, w_o (mft MX3_pairNew 35) f = f (.iload 5, 37, 5, 0, 0, 0, 0)) ∧
  (∀ f : mE → Prop, w_o (mft MX3_pairNew 37) f = f (.iaload, 38, 0, 0, 0, 0, 0)) ∧
  (∀ f : mE → Prop, w_o (mft MX3_pairNew 38) f = f (.istore 6, 40, 6, 0, 0, 0, 0)) ∧
  (∀ f : mE → Prop, w_o (mft MX3_pairNew 40) f = f (.aload 4, 42, 4, 0, 0, 0, 0)) ∧
  (∀ f : mE → Prop, w_o (mft MX3_pairNew 42) f = f (.iload 5, 44, 5, 0, 0, 0, 0)) ∧
  (∀ f : mE → Prop, w_o (mft MX3_pairNew 44) f = f (.iload_n 2, 45, 2, 0, 0, 0, 0)) ∧
  (∀ f : mE → Prop, w_o (mft MX3_pairNew 45) f = f (.if_icmp .ge 8, 48, 53, 0, 0, 0, 0)) ∧
  (∀ f : mE → Prop, w_o (mft MX3_pairNew 48) f = f (.iload 5, 50, 5, 0, 0, 0, 0)) ∧
  (∀ f : mE → Prop, w_o (mft MX3_pairNew 50) f = f (.goto 7, 53, 57, 0, 0, 0, 0)) ∧
  (∀ f : mE → Prop, w_o (mft MX3_pairNew 53) f = f (.iload 5, 55, 5, 0, 0, 0, 0)) ∧
  (∀ f : mE → Prop, w_o (mft MX3_pairNew 55) f = f (.iconst 2, 56, 0, 0, 0, (2), 0)) ∧
  (∀ f : mE → Prop, w_o (mft MX3_pairNew 56) f = f (.iadd, 57, 0, 0, 0, 0, 0)) ∧
  (∀ f : mE → Prop, w_o (mft MX3_pairNew 57) f = f (.iload 6, 59, 6, 0, 0, 0, 0)) ∧
  (∀ f : mE → Prop, w_o (mft MX3_pairNew 59) f = f (.iload_n 2, 60, 2, 0, 0, 0, 0)) ∧
  (∀ f : mE → Prop, w_o (mft MX3_pairNew 60) f = f (.if_icmp .ge 8, 63, 68, 0, 0, 0, 0)) ∧
  (∀ f : mE → Prop, w_o (mft MX3_pairNew 63) f = f (.iload 6, 65, 6, 0, 0, 0, 0)) ∧
  (∀ f : mE → Prop, w_o (mft MX3_pairNew 65) f = f (.goto 7, 68, 72, 0, 0, 0, 0)) ∧
  (∀ f : mE → Prop, w_o (mft MX3_pairNew 68) f = f (.iload 6, 70, 6, 0, 0, 0, 0)) ∧
  (∀ f : mE → Prop, w_o (mft MX3_pairNew 70) f = f (.iconst 2, 71, 0, 0, 0, (2), 0)) ∧
  (∀ f : mE → Prop, w_o (mft MX3_pairNew 71) f = f (.iadd, 72, 0, 0, 0, 0, 0)) ∧
  (∀ f : mE → Prop, w_o (mft MX3_pairNew 72) f = f (.iastore, 73, 0, 0, 0, 0, 0)) ∧
  (∀ f : mE → Prop, w_o (mft MX3_pairNew 73) f = f (.iinc 5 1, 76, 5, 0, 0, (1), 0)) ∧
  (∀ f : mE → Prop, w_o (mft MX3_pairNew 76) f = f (.goto (-56), 79, 20, 0, 0, 0, 0)) ∧
  (∀ f : mE → Prop, w_o (mft MX3_pairNew 79) f = f (.aload 4, 81, 4, 0, 0, 0, 0)) ∧
  (∀ f : mE → Prop, w_o (mft MX3_pairNew 81) f = f (.iload_n 2, 82, 2, 0, 0, 0, 0)) ∧
  (∀ f : mE → Prop, w_o (mft MX3_pairNew 82) f = f (.iload_n 2, 83, 2, 0, 0, 0, 0)) ∧
  (∀ f : mE → Prop, w_o (mft MX3_pairNew 83) f = f (.iconst 1, 84, 0, 0, 0, (1), 0)) ∧
  (∀ f : mE → Prop, w_o (mft MX3_pairNew 84) f = f (.iadd, 85, 0, 0, 0, 0, 0)) ∧
  (∀ f : mE → Prop, w_o (mft MX3_pairNew 85) f = f (.iastore, 86, 0, 0, 0, 0, 0)) ∧
  (∀ f : mE → Prop, w_o (mft MX3_pairNew 86) f = f (.aload 4, 88, 4, 0, 0, 0, 0)) ∧
  (∀ f : mE → Prop, w_o (mft MX3_pairNew 88) f = f (.iload_n 2, 89, 2, 0, 0, 0, 0)) ∧
  (∀ f : mE → Prop, w_o (mft MX3_pairNew 89) f = f (.iconst 1, 90, 0, 0, 0, (1), 0)) ∧
  (∀ f : mE → Prop, w_o (mft MX3_pairNew 90) f = f (.iadd, 91, 0, 0, 0, 0, 0)) ∧
  (∀ f : mE → Prop, w_o (mft MX3_pairNew 91) f = f (.iload_n 2, 92, 2, 0, 0, 0, 0)) ∧
  (∀ f : mE → Prop, w_o (mft MX3_pairNew 92) f = f (.iastore, 93, 0, 0, 0, 0, 0)) ∧
  (∀ f : mE → Prop, w_o (mft MX3_pairNew 93) f = f (.return_, 94, 0, 0, 0, 0, 0)) := ⟨fun _ => rfl, fun _ => rfl, fun _ => rfl, fun _ => rfl, fun _ => rfl, fun _ => rfl, fun _ => rfl, fun _ => rfl, fun _ => rfl, fun _ => rfl, fun _ => rfl, fun _ => rfl, fun _ => rfl, fun _ => rfl, fun _ => rfl, fun _ => rfl, fun _ => rfl, fun _ => rfl, fun _ => rfl, fun _ => rfl, fun _ => rfl, fun _ => rfl, fun _ => rfl, fun _ => rfl, fun _ => rfl, fun _ => rfl, fun _ => rfl, fun _ => rfl, fun _ => rfl, fun _ => rfl, fun _ => rfl, fun _ => rfl, fun _ => rfl, fun _ => rfl, fun _ => rfl, fun _ => rfl, fun _ => rfl, fun _ => rfl, fun _ => rfl, fun _ => rfl, fun _ => rfl, fun _ => rfl, fun _ => rfl, fun _ => rfl, fun _ => rfl, fun _ => rfl, fun _ => rfl, fun _ => rfl, fun _ => rfl, fun _ => rfl, fun _ => rfl, fun _ => rfl, fun _ => rfl, fun _ => rfl, fun _ => rfl, fun _ => rfl, fun _ => rfl, fun _ => rfl⟩
set_option maxRecDepth 100000 in
theorem gd_X3_pairNew : mGood MX3_pairNew := ⟨by decide +kernel, by decide +kernel, by decide +kernel⟩
set_option maxRecDepth 100000 in
set_option maxHeartbeats 4000000 in
theorem ft_X3_dropPair : (∀ f : mE → Prop, w_o (mft MX3_dropPair 0) f = f (.aload_n 0, 1, 0, 0, 0, 0, 0)) ∧
  (∀ f : mE → Prop, w_o (mft MX3_dropPair 1) f = f (.getfield 20, 4, 3, 1, 0, 0, 0)) ∧
  (∀ f : mE → Prop, w_o (mft MX3_dropPair 4) f = f (.iload_n 1, 5, 1, 0, 0, 0, 0)) ∧
  (∀ f : mE → Prop, w_o (mft MX3_dropPair 5) f = f (.aaload, 6, 3, 0, 0, 0, 0)) ∧
  (∀ f : mE → Prop, w_o (mft MX3_dropPair 6) f = f (.astore_n 3, 7, 3, 0, 0, 0, 0)) ∧
  (∀ f : mE → Prop, w_o (mft MX3_dropPair 7) f = f (.aload_n 0, 8, 0, 0, 0, 0, 0)) ∧
  (∀ f : mE → Prop, w_o (mft MX3_dropPair 8) f = f (.getfield 20, 11, 3, 1, 0, 0, 0)) ∧
  (∀ f : mE → Prop, w_o (mft MX3_dropPair 11) f = f (.iload_n 1, 12, 1, 0, 0, 0, 0)) ∧
  (∀ f : mE → Prop, w_o (mft MX3_dropPair 12) f = f (.iconst 1, 13, 0, 0, 0, (1), 0)) ∧
  (∀ f : mE → Prop, w_o (mft MX3_dropPair 13) f = f (.iadd, 14, 0, 0, 0, 0, 0)) ∧
  (∀ f : mE → Prop, w_o (mft MX3_dropPair 14) f = f (.aaload, 15, 3, 0, 0, 0, 0)) ∧
  (∀ f : mE → Prop, w_o (mft MX3_dropPair 15) f = f (.astore 4, 17, 4, 0, 0, 0, 0)) ∧
  (∀ f : mE → Prop, w_o (mft MX3_dropPair 17) f = f (.iconst 0, 18, 0, 0, 0, (0), 0)) ∧
  (∀ f : mE → Prop, w_o (mft MX3_dropPair 18) f = f (.istore 5, 20, 5, 0, 0, 0, 0)) ∧
  (∀ f : mE → Prop, w_o (mft MX3_dropPair 20) f = f (.iload 5, 22, 5, 0, 0, 0, 0)) ∧
  (∀ f : mE → Prop, w_o (mft MX3_dropPair 22) f = f (.aload_n 0, 23, 0, 0, 0, 0, 0)) ∧
  (∀ f : mE → Prop, w_o (mft MX3_dropPair 23) f = f (.getfield 12, 26, 3, 0, 0, 0, 0)) ∧
  (∀ f : mE → Prop, w_o (mft MX3_dropPair 26) f = f (.getfield 109, 29, 0, 2, 0, 0, 0)) ∧
  (∀ f : mE → Prop, w_o (mft MX3_dropPair 29) f = f (.iload_n 1, 30, 1, 0, 0, 0, 0)) ∧
  (∀ f : mE → Prop, w_o (mft MX3_dropPair 30) f = f (.iaload, 31, 0, 0, 0, 0, 0)) ∧
  (∀ f : mE → Prop, w_o (mft MX3_dropPair 31) f = f (.if_icmp .ge 62, 34, 93, 0, 0, 0, 0)) ∧
  (∀ f : mE → Prop, w_o (mft MX3_dropPair 34) f = f (.aload_n 3, 35, 3, 0, 0, 0, 0)) ∧
  (∀ f : mE → Prop, w_o (mft MX3_dropPair 35) f = f (.iload 5, 37, 5, 0, 0, 0, 0)) ∧
  (∀ f : mE → Prop, w_o (mft MX3_dropPair 37) f = f (.iaload, 38, 0, 0, 0, 0, 0)) ∧
  (∀ f : mE → Prop, w_o (mft MX3_dropPair 38) f = f (.istore 6, 40, 6, 0, 0, 0, 0)) ∧
  (∀ f : mE → Prop, w_o (mft MX3_dropPair 40) f = f (.iload 5, 42, 5, 0, 0, 0, 0)) ∧
  (∀ f : mE → Prop, w_o (mft MX3_dropPair 42) f = f (.iload_n 2, 43, 2, 0, 0, 0, 0)) ∧
  (∀ f : mE → Prop, w_o (mft MX3_dropPair 43) f = f (.if_icmp .lt 11, 46, 54, 0, 0, 0, 0)) ∧
  (∀ f : mE → Prop, w_o (mft MX3_dropPair 46) f = f (.iload 5, 48, 5, 0, 0, 0, 0)) ∧
  (∀ f : mE → Prop, w_o (mft MX3_dropPair 48) f = f (.iload_n 2, 49, 2, 0, 0, 0, 0)) ∧
  (∀ f : mE → Prop, w_o (mft MX3_dropPair 49) f = f (.iconst 1, 50, 0, 0, 0, (1), 0)) ∧
  (∀ f : mE → Prop, w_o (mft MX3_dropPair 50) f = f (.iadd, 51, 0, 0, 0, 0, 0)) ∧
  (∀ f : mE → Prop, w_o (mft MX3_dropPair 51) f = f (.if_icmp .le 36, 54, 87, 0, 0, 0, 0)) ∧
  (∀ f : mE → Prop, w_o (mft MX3_dropPair 54) f = f (.aload 4, 56, 4, 0, 0, 0, 0)) ∧
  (∀ f : mE → Prop, w_o (mft MX3_dropPair 56) f = f (.iload 5, 58, 5, 0, 0, 0, 0)) ∧
  (∀ f : mE → Prop, w_o (mft MX3_dropPair 58) f = f (.iload_n 2, 59, 2, 0, 0, 0, 0)) ∧
  (∀ f : mE → Prop, w_o (mft MX3_dropPair 59) f = f (.if_icmp .ge 8, 62, 67, 0, 0, 0, 0)) ∧
  (∀ f : mE → Prop, w_o (mft MX3_dropPair 62) f = f (.iload 5, 64, 5, 0, 0, 0, 0)) ∧
  (∀ f : mE → Prop, w_o (mft MX3_dropPair 64) f = f (.goto 7, 67, 71, 0, 0, 0, 0)) ∧
  (∀ f : mE → Prop, w_o (mft MX3_dropPair 67) f = f (.iload 5, 69, 5, 0, 0, 0, 0)) ∧
  (∀ f : mE → Prop, w_o (mft MX3_dropPair 69) f = f (.iconst 2, 70, 0, 0, 0, (2), 0)) ∧
  (∀ f : mE → Prop, w_o (mft MX3_dropPair 70) f = f (.isub, 71, 0, 0, 0, 0, 0)) ∧
  (∀ f : mE → Prop, w_o (mft MX3_dropPair 71) f = f (.iload 6, 73, 6, 0, 0, 0, 0)) ∧
  (∀ f : mE → Prop, w_o (mft MX3_dropPair 73) f = f (.iload_n 2, 74, 2, 0, 0, 0, 0)) ∧
  (∀ f : mE → Prop, w_o (mft MX3_dropPair 74) f = f (.if_icmp .ge 8, 77, 82, 0, 0, 0, 0)) ∧
  (∀ f : mE → Prop, w_o (mft MX3_dropPair 77) f = f (.iload 6, 79, 6, 0, 0, 0, 0)) ∧
  (∀ f : mE → Prop, w_o (mft MX3_dropPair 79) f = f (.goto 7, 82, 86, 0, 0, 0, 0)) ∧
  (∀ f : mE → Prop, w_o (mft MX3_dropPair 82) f = f (.iload 6, 84, 6, 0, 0, 0, 0)) ∧
  (∀ f : mE → Prop, w_o (mft MX3_dropPair 84) f = f (.iconst 2, 85, 0, 0, 0, (2), 0)) ∧
  (∀ f : mE → Prop, w_o (mft MX3_dropPair 85) f = f (.isub, 86, 0, 0, 0, 0, 0)) ∧
  (∀ f : mE → Prop, w_o (mft MX3_dropPair 86) f = f (.iastore, 87, 0, 0, 0, 0, 0)) ∧
  (∀ f : mE → Prop, w_o (mft MX3_dropPair 87) f = f (.iinc 5 1, 90, 5, 0, 0, (1), 0)) ∧
  (∀ f : mE → Prop, w_o (mft MX3_dropPair 90) f = f (.goto (-70), 93, 20, 0, 0, 0, 0)) ∧
  (∀ f : mE → Prop, w_o (mft MX3_dropPair 93) f = f (.return_, 94, 0, 0, 0, 0, 0)) := ⟨fun _ => rfl, fun _ => rfl, fun _ => rfl, fun _ => rfl, fun _ => rfl, fun _ => rfl, fun _ => rfl, fun _ => rfl, fun _ => rfl, fun _ => rfl, fun _ => rfl, fun _ => rfl, fun _ => rfl, fun _ => rfl, fun _ => rfl, fun _ => rfl, fun _ => rfl, fun _ => rfl, fun _ => rfl, fun _ => rfl, fun _ => rfl, fun _ => rfl, fun _ => rfl, fun _ => rfl, fun _ => rfl, fun _ => rfl, fun _ => rfl, fun _ => rfl, fun _ => rfl, fun _ => rfl, fun _ => rfl, fun _ => rfl, fun _ => rfl, fun _ => rfl, fun _ => rfl, fun _ => rfl, fun _ => rfl, fun _ => rfl, fun _ => rfl, fun _ => rfl, fun _ => rfl, fun _ => rfl, fun _ => rfl, fun _ => rfl, fun _ => rfl, fun _ => rfl, fun _ => rfl, fun _ => rfl, fun _ => rfl, fun _ => rfl, fun _ => rfl, fun _ => rfl, fun _ => rfl, fun _ => rfl⟩
set_option maxRecDepth 100000 in
theorem gd_X3_dropPair : mGood MX3_dropPair := ⟨by decide +kernel, by decide +kernel, by decide +kernel⟩
set_option maxRecDepth 100000 in
set_option maxHeartbeats 4000000 in
theorem ft_X3_changePlaces : (∀ f : mE → Prop, w_o (mft MX3_changePlaces 0) f = f (.aload_n 0, 1, 0, 0, 0, 0, 0)) ∧
  (∀ f : mE → Prop, w_o (mft MX3_changePlaces 1) f = f (.getfield 20, 4, 3, 1, 0, 0, 0)) ∧
  (∀ f : mE → Prop, w_o (mft MX3_changePlaces 4) f = f (.iload_n 1, 5, 1, 0, 0, 0, 0)) ∧
  (∀ f : mE → Prop, w_o (mft MX3_changePlaces 5) f = f (.iconst 1, 6, 0, 0, 0, (1), 0)) ∧
  (∀ f : mE → Prop, w_o (mft MX3_changePlaces 6) f = f (.iadd, 7, 0, 0, 0, 0, 0)) ∧
  (∀ f : mE → Prop, w_o (mft MX3_changePlaces 7) f = f (.aaload, 8, 3, 0, 0, 0, 0)) ∧
  (∀ f : mE → Prop, w_o (mft MX3_changePlaces 8) f = f (.astore_n 3, 9, 3, 0, 0, 0, 0)) ∧
  (∀ f : mE → Prop, w_o (mft MX3_changePlaces 9) f = f (.aload_n 0, 10, 0, 0, 0, 0, 0)) ∧
  (∀ f : mE → Prop, w_o (mft MX3_changePlaces 10) f = f (.getfield 20, 13, 3, 1, 0, 0, 0)) ∧
  (∀ f : mE → Prop, w_o (mft MX3_changePlaces 13) f = f (.iload_n 1, 14, 1, 0, 0, 0, 0)) ∧
  (∀ f : mE → Prop, w_o (mft MX3_changePlaces 14) f = f (.aaload, 15, 3, 0, 0, 0, 0)) ∧
  (∀ f : mE → Prop, w_o (mft MX3_changePlaces 15) f = f (.iconst 0, 16, 0, 0, 0, (0), 0)) ∧
  (∀ f : mE → Prop, w_o (mft MX3_changePlaces 16) f = f (.aload_n 3, 17, 3, 0, 0, 0, 0)) ∧
  (∀ f : mE → Prop, w_o (mft MX3_changePlaces 17) f = f (.iconst 0, 18, 0, 0, 0, (0), 0)) ∧
  (∀ f : mE → Prop, w_o (mft MX3_changePlaces 18) f = f (.bipush 10, 20, 0, 0, 0, (10), 0)) ∧
  (∀ f : mE → Prop, w_o (mft MX3_changePlaces 20) f = f (.invokestatic 98, 23, 1000, 0, 0, 0, 0)) ∧
  (∀ f : mE → Prop, w_o (mft MX3_changePlaces 23) f = f (.aload_n 0, 24, 0, 0, 0, 0, 0)) ∧
  (∀ f : mE → Prop, w_o (mft MX3_changePlaces 24) f = f (.getfield 20, 27, 3, 1, 0, 0, 0)) ∧
  (∀ f : mE → Prop, w_o (mft MX3_changePlaces 27) f = f (.iload_n 1, 28, 1, 0, 0, 0, 0)) ∧
  (∀ f : mE → Prop, w_o (mft MX3_changePlaces 28) f = f (.aaload, 29, 3, 0, 0, 0, 0)) ∧
  (∀ f : mE → Prop, w_o (mft MX3_changePlaces 29) f = f (.iload_n 2, 30, 2, 0, 0, 0, 0)) ∧
  (∀ f : mE → Prop, w_o (mft MX3_changePlaces 30) f = f (.iaload, 31, 0, 0, 0, 0, 0)) ∧
  (∀ f : mE → Prop, w_o (mft MX3_changePlaces 31) f = f (.istore 4, 33, 4, 0, 0, 0, 0)) ∧
  (∀ f : mE → Prop, w_o (mft MX3_changePlaces 33) f = f (.aload_n 0, 34, 0, 0, 0, 0, 0)) ∧
  (∀ f : mE → Prop, w_o (mft MX3_changePlaces 34) f = f (.getfield 20, 37, 3, 1, 0, 0, 0)) ∧
  (∀ f : mE → Prop, w_o (mft MX3_changePlaces 37) f = f (.iload_n 1, 38, 1, 0, 0, 0, 0)) ∧
  (∀ f : mE → Prop, w_o (mft MX3_changePlaces 38) f = f (.aaload, 39, 3, 0, 0, 0, 0)) ∧
  (∀ f : mE → Prop, w_o (mft MX3_changePlaces 39) f = f (.iload_n 2, 40, 2, 0, 0, 0, 0)) ∧
  (∀ f : mE → Prop, w_o (mft MX3_changePlaces 40) f = f (.iconst 1, 41, 0, 0, 0, (1), 0)) ∧
  (∀ f : mE → Prop, w_o (mft MX3_changePlaces 41) f = f (.iadd, 42, 0, 0, 0, 0, 0)) ∧
  (∀ f : mE → Prop, w_o (mft MX3_changePlaces 42) f = f (.iaload, 43, 0, 0, 0, 0, 0)) ∧
  (∀ f : mE → Prop, w_o (mft MX3_changePlaces 43) f = f (.istore 5, 45, 5, 0, 0, 0, 0)) ∧
  (∀ f : mE → Prop, w_o (mft MX3_changePlaces 45) f = f (.aload_n 3, 46, 3, 0, 0, 0, 0)) ∧
  (∀ f : mE → Prop, w_o (mft MX3_changePlaces 46) f = f (.iload_n 2, 47, 2, 0, 0, 0, 0)) ∧
  (∀ f : mE → Prop, w_o (mft MX3_changePlaces 47) f = f (.iload 5, 49, 5, 0, 0, 0, 0)) ∧
  (∀ f : mE → Prop, w_o (mft MX3_changePlaces 49) f = f (.iastore, 50, 0, 0, 0, 0, 0)) ∧
  (∀ f : mE → Prop, w_o (mft MX3_changePlaces 50) f = f (.aload_n 3, 51, 3, 0, 0, 0, 0)) ∧
  (∀ f : mE → Prop, w_o (mft MX3_changePlaces 51) f = f (.iload 5, 53, 5, 0, 0, 0, 0)) ∧
  (∀ f : mE → Prop, w_o (mft MX3_changePlaces 53) f = f (.iload_n 2, 54, 2, 0, 0, 0, 0)) ∧
  (∀ f : mE → Prop, w_o (mft MX3_changePlaces 54) f = f (.iastore, 55, 0, 0, 0, 0, 0)) ∧
  (∀ f : mE → Prop, w_o (mft MX3_changePlaces 55) f = f (.aload_n 3, 56, 3, 0, 0, 0, 0)) ∧
  (∀ f : mE → Prop, w_o (mft MX3_changePlaces 56) f = f (.iload_n 2, 57, 2, 0, 0, 0, 0)) ∧
  (∀ f : mE → Prop, w_o (mft MX3_changePlaces 57) f = f (.iconst 1, 58, 0, 0, 0, (1), 0)) ∧
  (∀ f : mE → Prop, w_o (mft MX3_changePlaces 58) f = f (.iadd, 59, 0, 0, 0, 0, 0)) ∧
  (∀ f : mE → Prop, w_o (mft MX3_changePlaces 59) f = f (.iload 4, 61, 4, 0, 0, 0, 0)) ∧
  (∀ f : mE → Prop, w_o (mft MX3_changePlaces 61) f = f (.iastore, 62, 0, 0, 0, 0, 0)) ∧
  (∀ f : mE → Prop, w_o (mft MX3_changePlaces 62) f = f (.aload_n 3, 63, 3, 0, 0, 0, 0)) ∧
  (∀ f : mE → Prop, w_o (mft MX3_changePlaces 63) f = f (.iload 4, 65, 4, 0, 0, 0, 0)) ∧
  (∀ f : mE → Prop, w_o (mft MX3_changePlaces 65) f = f (.iload_n 2, 66, 2, 0, 0, 0, 0)) ∧
  (∀ f : mE → Prop, w_o (mft MX3_changePlaces 66) f = f (.iconst 1, 67, 0, 0, 0, (1), 0)) ∧
  (∀ f : mE → Prop, w_o (mft MX3_changePlaces 67) f = f (.iadd, 68, 0, 0, 0, 0, 0)) ∧
  (∀ f : mE → Prop, w_o (mft MX3_changePlaces 68) f = f (.iastore, 69, 0, 0, 0, 0, 0)) ∧
  (∀ f : mE → Prop, w_o (mft MX3_changePlaces 69) f = f (.return_, 70, 0, 0, 0, 0, 0)) := ⟨fun _ => rfl, fun _ => rfl, fun _ => rfl, fun _ => rfl, fun _ => rfl, fun _ => rfl, fun _ => rfl, fun _ => rfl, fun _ => rfl, fun _ => rfl, fun _ => rfl, fun _ => rfl, fun _ => rfl, fun _ => rfl, fun _ => rfl, fun _ => rfl, fun _ => rfl, fun _ => rfl, fun _ => rfl, fun _ => rfl, fun _ => rfl, fun _ => rfl, fun _ => rfl, fun _ => rfl, fun _ => rfl, fun _ => rfl, fun _ => rfl, fun _ => rfl, fun _ => rfl, fun _ => rfl, fun _ => rfl, fun _ => rfl, fun _ => rfl, fun _ => rfl, fun _ => rfl, fun _ => rfl, fun _ => rfl, fun _ => rfl, fun _ => rfl, fun _ => rfl, fun _ => rfl, fun _ => rfl, fun _ => rfl, fun _ => rfl, fun _ => rfl, fun _ => rfl, fun _ => rfl, fun _ => rfl, fun _ => rfl, fun _ => rfl, fun _ => rfl, fun _ => rfl, fun _ => rfl⟩
set_option maxRecDepth 100000 in
theorem gd_X3_changePlaces : mGood MX3_changePlaces := ⟨by decide +kernel, by decide +kernel, by decide +kernel⟩
set_option maxRecDepth 100000 in
set_option maxHeartbeats 4000000 in
theorem ft_X3_interlocked : (∀ f : mE → Prop, w_o (mft MX3_interlocked 0) f = f (.aload_n 0, 1, 0, 0, 0, 0, 0)) ∧
  (∀ f : mE → Prop, w_o (mft MX3_interlocked 1) f = f (.getfield 20, 4, 3, 1, 0, 0, 0)) ∧
  (∀ f : mE → Prop, w_o (mft MX3_interlocked 4) f = f (.iload_n 1, 5, 1, 0, 0, 0, 0)) ∧
  (∀ f : mE → Prop, w_o (mft MX3_interlocked 5) f = f (.aaload, 6, 3, 0, 0, 0, 0)) ∧
  (∀ f : mE → Prop, w_o (mft MX3_interlocked 6) f = f (.iload_n 2, 7, 2, 0, 0, 0, 0)) ∧
  (∀ f : mE → Prop, w_o (mft MX3_interlocked 7) f = f (.iaload, 8, 0, 0, 0, 0, 0)) ∧
  (∀ f : mE → Prop, w_o (mft MX3_interlocked 8) f = f (.istore_n 3, 9, 3, 0, 0, 0, 0)) ∧
  (∀ f : mE → Prop, w_o (mft MX3_interlocked 9) f = f (.iload_n 2, 10, 2, 0, 0, 0, 0)) ∧
  (∀ f : mE → Prop, w_o (mft MX3_interlocked 10) f = f (.iload_n 3, 11, 3, 0, 0, 0, 0)) ∧
  (∀ f : mE → Prop, w_o (mft MX3_interlocked 11) f = f (.invokestatic 112, 14, 1011, 0, 0, 0, 0)) ∧
  (∀ f : mE → Prop, w_o (mft MX3_interlocked 14) f = f (.istore 4, 16, 4, 0, 0, 0, 0)) ∧
  (∀ f : mE → Prop, w_o (mft MX3_interlocked 16) f = f (.iload_n 2, 17, 2, 0, 0, 0, 0)) ∧
  (∀ f : mE → Prop, w_o (mft MX3_interlocked 17) f = f (.iload_n 3, 18, 3, 0, 0, 0, 0)) ∧
  (∀ f : mE → Prop, w_o (mft MX3_interlocked 18) f = f (.invokestatic 118, 21, 1010, 0, 0, 0, 0)) ∧
  (∀ f : mE → Prop, w_o (mft MX3_interlocked 21) f = f (.istore 5, 23, 5, 0, 0, 0, 0)) ∧
  (∀ f : mE → Prop, w_o (mft MX3_interlocked 23) f = f (.aload_n 0, 24, 0, 0, 0, 0, 0)) ∧
  (∀ f : mE → Prop, w_o (mft MX3_interlocked 24) f = f (.getfield 20, 27, 3, 1, 0, 0, 0)) ∧
  (∀ f : mE → Prop, w_o (mft MX3_interlocked 27) f = f (.iload_n 1, 28, 1, 0, 0, 0, 0)) ∧
  (∀ f : mE → Prop, w_o (mft MX3_interlocked 28) f = f (.aaload, 29, 3, 0, 0, 0, 0)) ∧
  (∀ f : mE → Prop, w_o (mft MX3_interlocked 29) f = f (.iload_n 2, 30, 2, 0, 0, 0, 0)) ∧
  (∀ f : mE → Prop, w_o (mft MX3_interlocked 30) f = f (.iconst 1, 31, 0, 0, 0, (1), 0)) ∧
  (∀ f : mE → Prop, w_o (mft MX3_interlocked 31) f = f (.iadd, 32, 0, 0, 0, 0, 0)) ∧
  (∀ f : mE → Prop, w_o (mft MX3_interlocked 32) f = f (.iaload, 33, 0, 0, 0, 0, 0)) ∧
  (∀ f : mE → Prop, w_o (mft MX3_interlocked 33) f = f (.istore 6, 35, 6, 0, 0, 0, 0)) ∧
  (∀ f : mE → Prop, w_o (mft MX3_interlocked 35) f = f (.iload 4, 37, 4, 0, 0, 0, 0)) ∧
  (∀ f : mE → Prop, w_o (mft MX3_interlocked 37) f = f (.iload_n 2, 38, 2, 0, 0, 0, 0)) ∧
  (∀ f : mE → Prop, w_o (mft MX3_interlocked 38) f = f (.iconst 1, 39, 0, 0, 0, (1), 0)) ∧
  (∀ f : mE → Prop, w_o (mft MX3_interlocked 39) f = f (.iadd, 40, 0, 0, 0, 0, 0)) ∧
  (∀ f : mE → Prop, w_o (mft MX3_interlocked 40) f = f (.if_icmp .ge 15, 43, 55, 0, 0, 0, 0)) ∧
  (∀ f : mE → Prop, w_o (mft MX3_interlocked 43) f = f (.iload_n 2, 44, 2, 0, 0, 0, 0)) ∧
  (∀ f : mE → Prop, w_o (mft MX3_interlocked 44) f = f (.iconst 1, 45, 0, 0, 0, (1), 0)) ∧
  (∀ f : mE → Prop, w_o (mft MX3_interlocked 45) f = f (.iadd, 46, 0, 0, 0, 0, 0)) ∧
  (∀ f : mE → Prop, w_o (mft MX3_interlocked 46) f = f (.iload 5, 48, 5, 0, 0, 0, 0)) ∧
  (∀ f : mE → Prop, w_o (mft MX3_interlocked 48) f = f (.if_icmp .ge 7, 51, 55, 0, 0, 0, 0)) ∧
  (∀ f : mE → Prop, w_o (mft MX3_interlocked 51) f = f (.iconst 1, 52, 0, 0, 0, (1), 0)) ∧
  (∀ f : mE → Prop, w_o (mft MX3_interlocked 52) f = f (.goto 4, 55, 56, 0, 0, 0, 0)) ∧
  (∀ f : mE → Prop, w_o (mft MX3_interlocked 55) f = f (.iconst 0, 56, 0, 0, 0, (0), 0)) ∧
  (∀ f : mE → Prop, w_o (mft MX3_interlocked 56) f = f (.istore 7, 58, 7, 0, 0, 0, 0)) ∧
  (∀ f : mE → Prop, w_o (mft MX3_interlocked 58) f = f (.iload 4, 60, 4, 0, 0, 0, 0)) ∧
  (∀ f : mE → Prop, w_o (mft MX3_interlocked 60) f = f (.iload 6, 62, 6, 0, 0, 0, 0)) ∧
  (∀ f : mE → Prop, w_o (mft MX3_interlocked 62) f = f (.if_icmp .ge 14, 65, 76, 0, 0, 0, 0)) ∧
  (∀ f : mE → Prop, w_o (mft MX3_interlocked 65) f = f (.iload 6, 67, 6, 0, 0, 0, 0)) ∧
  (∀ f : mE → Prop, w_o (mft MX3_interlocked 67) f = f (.iload 5, 69, 5, 0, 0, 0, 0)) ∧
  (∀ f : mE → Prop, w_o (mft MX3_interlocked 69) f = f (.if_icmp .ge 7, 72, 76, 0, 0, 0, 0)) ∧
  (∀ f : mE → Prop, w_o (mft MX3_interlocked 72) f = f (.iconst 1, 73, 0, 0, 0, (1), 0)) ∧
  (∀ f : mE → Prop, w_o (mft MX3_interlocked 73) f = f (.goto 4, 76, 77, 0, 0, 0, 0)) ∧
  (∀ f : mE → Prop, w_o (mft MX3_interlocked 76) f = f (.iconst 0, 77, 0, 0, 0, (0), 0)) ∧
  (∀ f : mE → Prop, w_o (mft MX3_interlocked 77) f = f (.istore 8, 79, 8, 0, 0, 0, 0)) ∧
  (∀ f : mE → Prop, w_o (mft MX3_interlocked 79) f = f (.iload 7, 81, 7, 0, 0, 0, 0)) ∧
  (∀ f : mE → Prop, w_o (mft MX3_interlocked 81) f = f (.iload 8, 83, 8, 0, 0, 0, 0)) ∧
  (∀ f : mE → Prop, w_o (mft MX3_interlocked 83) f = f (.if_icmp .eq 7, 86, 90, 0, 0, 0, 0)) ∧
  (∀ f : mE → Prop, w_o (mft MX3_interlocked 86) f = f (.iconst 1, 87, 0, 0, 0, (1), 0)) ∧
  (∀ f : mE → Prop, w_o (mft MX3_interlocked 87) f = f (.goto 4, 90, 91, 0, 0, 0, 0)) ∧
  (∀ f : mE → Prop, w_o (mft MX3_interlocked 90) f = f (.iconst 0, 91, 0, 0, 0, (0), 0)) ∧
  (∀ f : mE → Prop, w_o (mft MX3_interlocked 91) f = f (.ireturn, 92, 0, 0, 1, 0, 0)) := ⟨fun _ => rfl, fun _ => rfl, fun _ => rfl, fun _ => rfl, fun _ => rfl, fun _ => rfl, fun _ => rfl, fun _ => rfl, fun _ => rfl, fun _ => rfl, fun _ => rfl, fun _ => rfl, fun _ => rfl, fun _ => rfl, fun _ => rfl, fun _ => rfl, fun _ => rfl, fun _ => rfl, fun _ => rfl, fun _ => rfl, fun _ => rfl, fun _ => rfl, fun _ => rfl, fun _ => rfl, fun _ => rfl, fun _ => rfl, fun _ => rfl, fun _ => rfl, fun _ => rfl, fun _ => rfl, fun _ => rfl, fun _ => rfl, fun _ => rfl, fun _ => rfl, fun _ => rfl, fun _ => rfl, fun _ => rfl, fun _ => rfl, fun _ => rfl, fun _ => rfl, fun _ => rfl, fun _ => rfl, fun _ => rfl, fun _ => rfl, fun _ => rfl, fun _ => rfl, fun _ => rfl, fun _ => rfl, fun _ => rfl, fun _ => rfl, fun _ => rfl, fun _ => rfl, fun _ => rfl, fun _ => rfl, fun _ => rfl⟩
set_option maxRecDepth 100000 in
theorem gd_X3_interlocked : mGood MX3_interlocked := ⟨by decide +kernel, by decide +kernel, by decide +kernel⟩
set_option maxRecDepth 100000 in
set_option maxHeartbeats 4000000 in
theorem ft_X4_init : (∀ f : mE → Prop, w_o (mft MX4_init 0) f = f (.aload_n 0, 1, 0, 0, 0, 0, 0)) ∧
  (∀ f : mE → Prop, w_o (mft MX4_init 1) f = f (.invokespecial 3, 4, 1001, 0, 0, 0, 0)) ∧
  (∀ f : mE → Prop, w_o (mft MX4_init 4) f = f (.aload_n 0, 5, 0, 0, 0, 0, 0)) ∧
  (∀ f : mE → Prop, w_o (mft MX4_init 5) f = f (.bipush 120, 7, 0, 0, 0, (120), 0)) ∧
  (∀ f : mE → Prop, w_o (mft MX4_init 7) f = f (.newarray .byte, 9, 0, 0, 0, 0, 0)) ∧
  (∀ f : mE → Prop, w_o (mft MX4_init 9) f = f (.putfield 9, 12, 4, 0, 2, 0, 0)) ∧
  (∀ f : mE → Prop, w_o (mft MX4_init 12) f = f (.aload_n 0, 13, 0, 0, 0, 0, 0)) ∧
  (∀ f : mE → Prop, w_o (mft MX4_init 13) f = f (.iconst 0, 14, 0, 0, 0, (0), 0)) ∧
  (∀ f : mE → Prop, w_o (mft MX4_init 14) f = f (.putfield 15, 17, 4, 1, 0, 0, 0)) ∧
  (∀ f : mE → Prop, w_o (mft MX4_init 17) f = f (.aload_n 0, 18, 0, 0, 0, 0, 0)) ∧
  (∀ f : mE → Prop, w_o (mft MX4_init 18) f = f (.iconst 0, 19, 0, 0, 0, (0), 0)) ∧
  (∀ f : mE → Prop, w_o (mft MX4_init 19) f = f (.putfield 19, 22, 4, 2, 0, 0, 0)) ∧
  (∀ f : mE → Prop, w_o (mft MX4_init 22) f = f (.aload_n 0, 23, 0, 0, 0, 0, 0)) ∧
  (∀ f : mE → Prop, w_o (mft MX4_init 23) f = f (.iconst 0, 24, 0, 0, 0, (0), 0)) ∧
  (∀ f : mE → Prop, w_o (mft MX4_init 24) f = f (.putfield 22, 27, 4, 3, 0, 0, 0)) ∧
  (∀ f : mE → Prop, w_o (mft MX4_init 27) f = f (.aload_n 0, 28, 0, 0, 0, 0, 0)) ∧
  (∀ f : mE → Prop, w_o (mft MX4_init 28) f = f (.iconst 0, 29, 0, 0, 0, (0), 0)) ∧
  (∀ f : mE → Prop, w_o (mft MX4_init 29) f = f (.putfield 25, 32, 4, 4, 0, 0, 0)) ∧
  (∀ f : mE → Prop, w_o (mft MX4_init 32) f = f (.aload_n 0, 33, 0, 0, 0, 0, 0)) ∧
  (∀ f : mE → Prop, w_o (mft MX4_init 33) f = f (.iconst 0, 34, 0, 0, 0, (0), 0)) ∧
  (∀ f : mE → Prop, w_o (mft MX4_init 34) f = f (.putfield 28, 37, 4, 5, 0, 0, 0)) ∧
  (∀ f : mE → Prop, w_o (mft MX4_init 37) f = f (.return_, 38, 0, 0, 0, 0, 0)) := ⟨fun _ => rfl, fun _ => rfl, fun _ => rfl, fun _ => rfl, fun _ => rfl, fun _ => rfl, fun _ => rfl, fun _ => rfl, fun _ => rfl, fun _ => rfl, fun _ => rfl, fun _ => rfl, fun _ => rfl, fun _ => rfl, fun _ => rfl, fun _ => rfl, fun _ => rfl, fun _ => rfl, fun _ => rfl, fun _ => rfl, fun _ => rfl, fun _ => rfl⟩
set_option maxRecDepth 100000 in
theorem gd_X4_init : mGood MX4_init := ⟨by decide +kernel, by decide +kernel, by decide +kernel⟩
set_option maxRecDepth 100000 in
set_option maxHeartbeats 4000000 in
theorem ft_X4_take : (∀ f : mE → Prop, w_o (mft MX4_take 0) f = f (.iconst 0, 1, 0, 0, 0, (0), 0)) ∧
  (∀ f : mE → Prop, w_o (mft MX4_take 1) f = f (.istore_n 3, 2, 3, 0, 0, 0, 0)) ∧
  (∀ f : mE → Prop, w_o (mft MX4_take 2) f = f (.iload_n 3, 3, 3, 0, 0, 0, 0)) ∧
  (∀ f : mE → Prop, w_o (mft MX4_take 3) f = f (.bipush 8, 5, 0, 0, 0, (8), 0)) ∧
  (∀ f : mE → Prop, w_o (mft MX4_take 5) f = f (.if_icmp .ge 48, 8, 53, 0, 0, 0, 0)) ∧
  (∀ f : mE → Prop, w_o (mft MX4_take 8) f = f (.aload_n 0, 9, 0, 0, 0, 0, 0)) ∧
  (∀ f : mE → Prop, w_o (mft MX4_take 9) f = f (.getfield 15, 12, 4, 1, 0, 0, 0)) ∧
  (∀ f : mE → Prop, w_o (mft MX4_take 12) f = f (.bipush 120, 14, 0, 0, 0, (120), 0)) ∧
  (∀ f : mE → Prop, w_o (mft MX4_take 14) f = f (.if_icmp .ge 39, 17, 53, 0, 0, 0, 0)) ∧
  (∀ f : mE → Prop, w_o (mft MX4_take 17) f = f (.aload_n 0, 18, 0, 0, 0, 0, 0)) ∧
  (∀ f : mE → Prop, w_o (mft MX4_take 18) f = f (.getfield 9, 21, 4, 0, 0, 0, 0)) ∧
  (∀ f : mE → Prop, w_o (mft MX4_take 21) f = f (.aload_n 0, 22, 0, 0, 0, 0, 0)) ∧
  (∀ f : mE → Prop, w_o (mft MX4_take 22) f = f (.getfield 15, 25, 4, 1, 0, 0, 0)) ∧
  (∀ f : mE → Prop, w_o (mft MX4_take 25) f = f (.lload_n 1, 26, 1, 0, 0, 0, 0)) ∧
  (∀ f : mE → Prop, w_o (mft MX4_take 26) f = f (.bipush 56, 28, 0, 0, 0, (56), 0)) ∧
  (∀ f : mE → Prop, w_o (mft MX4_take 28) f = f (.bipush 8, 30, 0, 0, 0, (8), 0)) ∧
  (∀ f : mE → Prop, w_o (mft MX4_take 30) f = f (.iload_n 3, 31, 3, 0, 0, 0, 0)) ∧
  (∀ f : mE → Prop, w_o (mft MX4_take 31) f = f (.imul, 32, 0, 0, 0, 0, 0)) ∧
  (∀ f : mE → Prop, w_o (mft MX4_take 32) f = f (.isub, 33, 0, 0, 0, 0, 0)) ∧
  (∀ f : mE → Prop, w_o (mft MX4_take 33) f = f (.lshr, 34, 0, 0, 0, 0, 0)) ∧
  (∀ f : mE → Prop, w_o (mft MX4_take 34) f = f (.l2i, 35, 0, 0, 0, 0, 0)) ∧
  (∀ f : mE → Prop, w_o (mft MX4_take 35) f = f (.i2b, 36, 0, 0, 0, 0, 0)) ∧
  (∀ f : mE → Prop, w_o (mft MX4_take 36) f = f (.bastore, 37, 1, 0, 0, 0, 0)) ∧
  (∀ f : mE → Prop, w_o (mft MX4_take 37) f = f (.aload_n 0, 38, 0, 0, 0, 0, 0)) ∧
  (∀ f : mE → Prop, w_o (mft MX4_take 38) f = f (.dup, 39, 0, 0, 0, 0, 0)) ∧
  (∀ f : mE → Prop, w_o (mft MX4_take 39) f = f (.getfield 15, 42, 4, 1, 0, 0, 0)) ∧
  (∀ f : mE → Prop, w_o (mft MX4_take 42) f = f (.iconst 1, 43, 0, 0, 0, (1), 0)) ∧
  (∀ f : mE → Prop, w_o (mft MX4_take 43) f = f (.iadd, 44, 0, 0, 0, 0, 0)) ∧
  (∀ f : mE → Prop, w_o (mft MX4_take 44) f = f (.putfield 15, 47, 4, 1, 0, 0, 0)) ∧
  (∀ f : mE → Prop, w_o (mft MX4_take 47) f = f (.iinc 3 1, 50, 3, 0, 0, (1), 0)) ∧
  (∀ f : mE → Prop, w_o (mft MX4_take 50) f = f (.goto (-48), 53, 2, 0, 0, 0, 0)) ∧
  (∀ f : mE → Prop, w_o (mft MX4_take 53) f = f (.return_, 54, 0, 0, 0, 0, 0)) := ⟨fun _ => rfl, fun _ => rfl, fun _ => rfl, fun _ => rfl, fun _ => rfl, fun _ => rfl, fun _ => rfl, fun _ => rfl, fun _ => rfl, fun _ => rfl, fun _ => rfl, fun _ => rfl, fun _ => rfl, fun _ => rfl, fun _ => rfl, fun _ => rfl, fun _ => rfl, fun _ => rfl, fun _ => rfl, fun _ => rfl, fun _ => rfl, fun _ => rfl, fun _ => rfl, fun _ => rfl, fun _ => rfl, fun _ => rfl, fun _ => rfl, fun _ => rfl, fun _ => rfl, fun _ => rfl, fun _ => rfl, fun _ => rfl⟩
set_option maxRecDepth 100000 in
theorem gd_X4_take : mGood MX4_take := ⟨by decide +kernel, by decide +kernel, by decide +kernel⟩
set_option maxRecDepth 100000 in
set_option maxHeartbeats 4000000 in
theorem ft_X4_tell : (∀ f : mE → Prop, w_o (mft MX4_tell 0) f = f (.aload_n 1, 1, 1, 0, 0, 0, 0)) ∧
  (∀ f : mE → Prop, w_o (mft MX4_tell 1) f = f (.invokevirtual 31, 4, 1, 0, 0, 0, 0)) ∧
  (∀ f : mE → Prop, w_o (mft MX4_tell 4) f = f (.aload_n 0, 5, 0, 0, 0, 0, 0)) ∧
  (∀ f : mE → Prop, w_o (mft MX4_tell 5) f = f (.iconst 0, 6, 0, 0, 0, (0), 0)) ∧
  (∀ f : mE → Prop, w_o (mft MX4_tell 6) f = f (.putfield 19, 9, 4, 2, 0, 0, 0)) ∧
  (∀ f : mE → Prop, w_o (mft MX4_tell 9) f = f (.iconst 0, 10, 0, 0, 0, (0), 0)) ∧
  (∀ f : mE → Prop, w_o (mft MX4_tell 10) f = f (.istore_n 2, 11, 2, 0, 0, 0, 0)) ∧
  (∀ f : mE → Prop, w_o (mft MX4_tell 11) f = f (.iload_n 2, 12, 2, 0, 0, 0, 0)) ∧
  (∀ f : mE → Prop, w_o (mft MX4_tell 12) f = f (.bipush 30, 14, 0, 0, 0, (30), 0)) ∧
  (∀ f : mE → Prop, w_o (mft MX4_tell 14) f = f (.if_icmp .gt 46, 17, 60, 0, 0, 0, 0)) ∧
  (∀ f : mE → Prop, w_o (mft MX4_tell 17) f = f (.aload_n 0, 18, 0, 0, 0, 0, 0)) ∧
  (∀ f : mE → Prop, w_o (mft MX4_tell 18) f = f (.invokevirtual 36, 21, 52, 0, 4, 0, 0)) ∧
  (∀ f : mE → Prop, w_o (mft MX4_tell 21) f = f (.aload_n 0, 22, 0, 0, 0, 0, 0)) ∧
  (∀ f : mE → Prop, w_o (mft MX4_tell 22) f = f (.getfield 22, 25, 4, 3, 0, 0, 0)) ∧
  (∀ f : mE → Prop, w_o (mft MX4_tell 25) f = f (.iconst 3, 26, 0, 0, 0, (3), 0)) ∧
  (∀ f : mE → Prop, w_o (mft MX4_tell 26) f = f (.if_icmp .ne 16, 29, 42, 0, 0, 0, 0)) ∧
  (∀ f : mE → Prop, w_o (mft MX4_tell 29) f = f (.aload_n 1, 30, 1, 0, 0, 0, 0)) ∧
  (∀ f : mE → Prop, w_o (mft MX4_tell 30) f = f (.invokevirtual 39, 33, 3, 0, 0, 0, 0)) ∧
  (∀ f : mE → Prop, w_o (mft MX4_tell 33) f = f (.ifCond .eq 7, 36, 40, 0, 0, 0, 0)) ∧
  (∀ f : mE → Prop, w_o (mft MX4_tell 36) f = f (.iconst 0, 37, 0, 0, 0, (0), 0)) ∧
  (∀ f : mE → Prop, w_o (mft MX4_tell 37) f = f (.goto 4, 40, 41, 0, 0, 0, 0)) ∧
  (∀ f : mE → Prop, w_o (mft MX4_tell 40) f = f (.iconst 2, 41, 0, 0, 0, (2), 0)) ∧
  (∀ f : mE → Prop, w_o (mft MX4_tell 41) f = f (.ireturn, 42, 0, 0, 0, 0, 0)) ∧
  (∀ f : mE → Prop, w_o (mft MX4_tell 42) f = f (.aload_n 0, 43, 0, 0, 0, 0, 0)) ∧
  (∀ f : mE → Prop, w_o (mft MX4_tell 43) f = f (.aload_n 1, 44, 1, 0, 0, 0, 0)) ∧
  (∀ f : mE → Prop, w_o (mft MX4_tell 44) f = f (.invokevirtual 43, 47, 50, 1, 4, 0, 0)) ∧
  (∀ f : mE → Prop, w_o (mft MX4_tell 47) f = f (.istore_n 3, 48, 3, 0, 0, 0, 0)) ∧
  (∀ f : mE → Prop, w_o (mft MX4_tell 48) f = f (.iload_n 3, 49, 3, 0, 0, 0, 0)) ∧
  (∀ f : mE → Prop, w_o (mft MX4_tell 49) f = f (.ifCond .eq 5, 52, 54, 0, 0, 0, 0)) ∧
  (∀ f : mE → Prop, w_o (mft MX4_tell 52) f = f (.iload_n 3, 53, 3, 0, 0, 0, 0)) ∧
  (∀ f : mE → Prop, w_o (mft MX4_tell 53) f = f (.ireturn, 54, 0, 0, 0, 0, 0)) ∧
  (∀ f : mE → Prop, w_o (mft MX4_tell 54) f = f (.iinc 2 1, 57, 2, 0, 0, (1), 0)) ∧
  (∀ f : mE → Prop, w_o (mft MX4_tell 57) f = f (.goto (-46), 60, 11, 0, 0, 0, 0)) ∧
  (∀ f : mE → Prop, w_o (mft MX4_tell 60) f = f (.iconst 4, 61, 0, 0, 0, (4), 0)) ∧
  (∀ f : mE → Prop, w_o (mft MX4_tell 61) f = f (.ireturn, 62, 0, 0, 0, 0, 0)) := ⟨fun _ => rfl, fun _ => rfl, fun _ => rfl, fun _ => rfl, fun _ => rfl, fun _ => rfl, fun _ => rfl, fun _ => rfl, fun _ => rfl, fun _ => rfl, fun _ => rfl, fun _ => rfl, fun _ => rfl, fun _ => rfl, fun _ => rfl, fun _ => rfl, fun _ => rfl, fun _ => rfl, fun _ => rfl, fun _ => rfl, fun _ => rfl, fun _ => rfl, fun _ => rfl, fun _ => rfl, fun _ => rfl, fun _ => rfl, fun _ => rfl, fun _ => rfl, fun _ => rfl, fun _ => rfl, fun _ => rfl, fun _ => rfl, fun _ => rfl, fun _ => rfl, fun _ => rfl⟩
set_option maxRecDepth 100000 in
theorem gd_X4_tell : mGood MX4_tell := ⟨by decide +kernel, by decide +kernel, by decide +kernel⟩
set_option maxRecDepth 100000 in
set_option maxHeartbeats 4000000 in
theorem ft_X4_tellEvent : (∀ f : mE → Prop, w_o (mft MX4_tellEvent 0) f = f (.aload_n 0, 1, 0, 0, 0, 0, 0)) ∧
  (∀ f : mE → Prop, w_o (mft MX4_tellEvent 1) f = f (.getfield 22, 4, 4, 3, 0, 0, 0)) ∧
  (∀ f : mE → Prop, w_o (mft MX4_tellEvent 4) f = f (.iconst 1, 5, 0, 0, 0, (1), 0)) ∧
  (∀ f : mE → Prop, w_o (mft MX4_tellEvent 5) f = f (.if_icmp .eq 8, 8, 13, 0, 0, 0, 0)) ∧
  (∀ f : mE → Prop, w_o (mft MX4_tellEvent 8) f = f (.aload_n 0, 9, 0, 0, 0, 0, 0)) ∧
  (∀ f : mE → Prop, w_o (mft MX4_tellEvent 9) f = f (.invokevirtual 47, 12, 51, 0, 4, 0, 0)) ∧
  (∀ f : mE → Prop, w_o (mft MX4_tellEvent 12) f = f (.ireturn, 13, 0, 0, 0, 0, 0)) ∧
  (∀ f : mE → Prop, w_o (mft MX4_tellEvent 13) f = f (.aload_n 0, 14, 0, 0, 0, 0, 0)) ∧
  (∀ f : mE → Prop, w_o (mft MX4_tellEvent 14) f = f (.getfield 28, 17, 4, 5, 0, 0, 0)) ∧
  (∀ f : mE → Prop, w_o (mft MX4_tellEvent 17) f = f (.istore_n 2, 18, 2, 0, 0, 0, 0)) ∧
  (∀ f : mE → Prop, w_o (mft MX4_tellEvent 18) f = f (.aload_n 1, 19, 1, 0, 0, 0, 0)) ∧
  (∀ f : mE → Prop, w_o (mft MX4_tellEvent 19) f = f (.iload_n 2, 20, 2, 0, 0, 0, 0)) ∧
  (∀ f : mE → Prop, w_o (mft MX4_tellEvent 20) f = f (.invokevirtual 51, 23, 4, 1, 0, 0, 0)) ∧
  (∀ f : mE → Prop, w_o (mft MX4_tellEvent 23) f = f (.ifCond .ne 5, 26, 28, 0, 0, 0, 0)) ∧
  (∀ f : mE → Prop, w_o (mft MX4_tellEvent 26) f = f (.iconst 4, 27, 0, 0, 0, (4), 0)) ∧
  (∀ f : mE → Prop, w_o (mft MX4_tellEvent 27) f = f (.ireturn, 28, 0, 0, 0, 0, 0)) ∧
  (∀ f : mE → Prop, w_o (mft MX4_tellEvent 28) f = f (.aload_n 0, 29, 0, 0, 0, 0, 0)) ∧
  (∀ f : mE → Prop, w_o (mft MX4_tellEvent 29) f = f (.invokevirtual 36, 32, 52, 0, 4, 0, 0)) ∧
  (∀ f : mE → Prop, w_o (mft MX4_tellEvent 32) f = f (.aload_n 0, 33, 0, 0, 0, 0, 0)) ∧
  (∀ f : mE → Prop, w_o (mft MX4_tellEvent 33) f = f (.getfield 22, 36, 4, 3, 0, 0, 0)) ∧
  (∀ f : mE → Prop, w_o (mft MX4_tellEvent 36) f = f (.iconst 2, 37, 0, 0, 0, (2), 0)) ∧
  (∀ f : mE → Prop, w_o (mft MX4_tellEvent 37) f = f (.if_icmp .eq 8, 40, 45, 0, 0, 0, 0)) ∧
  (∀ f : mE → Prop, w_o (mft MX4_tellEvent 40) f = f (.aload_n 0, 41, 0, 0, 0, 0, 0)) ∧
  (∀ f : mE → Prop, w_o (mft MX4_tellEvent 41) f = f (.invokevirtual 47, 44, 51, 0, 4, 0, 0)) ∧
  (∀ f : mE → Prop, w_o (mft MX4_tellEvent 44) f = f (.ireturn, 45, 0, 0, 0, 0, 0)) ∧
  (∀ f : mE → Prop, w_o (mft MX4_tellEvent 45) f = f (.aload_n 1, 46, 1, 0, 0, 0, 0)) ∧
  (∀ f : mE → Prop, w_o (mft MX4_tellEvent 46) f = f (.iload_n 2, 47, 2, 0, 0, 0, 0)) ∧
  (∀ f : mE → Prop, w_o (mft MX4_tellEvent 47) f = f (.aload_n 0, 48, 0, 0, 0, 0, 0)) ∧
  (∀ f : mE → Prop, w_o (mft MX4_tellEvent 48) f = f (.getfield 28, 51, 4, 5, 0, 0, 0)) ∧
  (∀ f : mE → Prop, w_o (mft MX4_tellEvent 51) f = f (.invokevirtual 55, 54, 6, 2, 0, 0, 0)) ∧
  (∀ f : mE → Prop, w_o (mft MX4_tellEvent 54) f = f (.ifCond .eq 7, 57, 61, 0, 0, 0, 0)) ∧
  (∀ f : mE → Prop, w_o (mft MX4_tellEvent 57) f = f (.iconst 0, 58, 0, 0, 0, (0), 0)) ∧
  (∀ f : mE → Prop, w_o (mft MX4_tellEvent 58) f = f (.goto 4, 61, 62, 0, 0, 0, 0)) ∧
  (∀ f : mE → Prop, w_o (mft MX4_tellEvent 61) f = f (.iconst 3, 62, 0, 0, 0, (3), 0)) ∧
  (∀ f : mE → Prop, w_o (mft MX4_tellEvent 62) f = f (.ireturn, 63, 0, 0, 0, 0, 0)) := ⟨fun _ => rfl, fun _ => rfl, fun _ => rfl, fun _ => rfl, fun _ => rfl, fun _ => rfl, fun _ => rfl, fun _ => rfl, fun _ => rfl, fun _ => rfl, fun _ => rfl, fun _ => rfl, fun _ => rfl, fun _ => rfl, fun _ => rfl, fun _ => rfl, fun _ => rfl, fun _ => rfl, fun _ => rfl, fun _ => rfl, fun _ => rfl, fun _ => rfl, fun _ => rfl, fun _ => rfl, fun _ => rfl, fun _ => rfl, fun _ => rfl, fun _ => rfl, fun _ => rfl, fun _ => rfl, fun _ => rfl, fun _ => rfl, fun _ => rfl, fun _ => rfl, fun _ => rfl⟩
set_option maxRecDepth 100000 in
theorem gd_X4_tellEvent : mGood MX4_tellEvent := ⟨by decide +kernel, by decide +kernel, by decide +kernel⟩
set_option maxRecDepth 100000 in
set_option maxHeartbeats 4000000 in
theorem ft_X4_misplaced : (∀ f : mE → Prop, w_o (mft MX4_misplaced 0) f = f (.aload_n 0, 1, 0, 0, 0, 0, 0)) ∧
  (∀ f : mE → Prop, w_o (mft MX4_misplaced 1) f = f (.getfield 22, 4, 4, 3, 0, 0, 0)) ∧
  (∀ f : mE → Prop, w_o (mft MX4_misplaced 4) f = f (.ifCond .ne 7, 7, 11, 0, 0, 0, 0)) ∧
  (∀ f : mE → Prop, w_o (mft MX4_misplaced 7) f = f (.iconst 1, 8, 0, 0, 0, (1), 0)) ∧
  (∀ f : mE → Prop, w_o (mft MX4_misplaced 8) f = f (.goto 4, 11, 12, 0, 0, 0, 0)) ∧
  (∀ f : mE → Prop, w_o (mft MX4_misplaced 11) f = f (.iconst 2, 12, 0, 0, 0, (2), 0)) ∧
  (∀ f : mE → Prop, w_o (mft MX4_misplaced 12) f = f (.ireturn, 13, 0, 0, 0, 0, 0)) := ⟨fun _ => rfl, fun _ => rfl, fun _ => rfl, fun _ => rfl, fun _ => rfl, fun _ => rfl, fun _ => rfl⟩
set_option maxRecDepth 100000 in
theorem gd_X4_misplaced : mGood MX4_misplaced := ⟨by decide +kernel, by decide +kernel, by decide +kernel⟩
set_option maxRecDepth 100000 in
set_option maxHeartbeats 4000000 in
theorem ft_X4_readToken : (∀ f : mE → Prop, w_o (mft MX4_readToken 0) f = f (.aload_n 0, 1, 0, 0, 0, 0, 0)) ∧
  (∀ f : mE → Prop, w_o (mft MX4_readToken 1) f = f (.getfield 19, 4, 4, 2, 0, 0, 0)) ∧
  (∀ f : mE → Prop, w_o (mft MX4_readToken 4) f = f (.aload_n 0, 5, 0, 0, 0, 0, 0)) ∧
  (∀ f : mE → Prop, w_o (mft MX4_readToken 5) f = f (.getfield 15, 8, 4, 1, 0, 0, 0)) ∧
  (∀ f : mE → Prop, w_o (mft MX4_readToken 8) f = f (.if_icmp .ge 30, 11, 38, 0, 0, 0, 0)) ∧
  (∀ f : mE → Prop, w_o (mft MX4_readToken 11) f = f (.aload_n 0, 12, 0, 0, 0, 0, 0)) ∧
  (∀ f : mE → Prop, w_o (mft MX4_readToken 12) f = f (.getfield 9, 15, 4, 0, 0, 0, 0)) ∧
  (∀ f : mE → Prop, w_o (mft MX4_readToken 15) f = f (.aload_n 0, 16, 0, 0, 0, 0, 0)) ∧
  (∀ f : mE → Prop, w_o (mft MX4_readToken 16) f = f (.getfield 19, 19, 4, 2, 0, 0, 0)) ∧
  (∀ f : mE → Prop, w_o (mft MX4_readToken 19) f = f (.baload, 20, 1, 0, 0, 0, 0)) ∧
  (∀ f : mE → Prop, w_o (mft MX4_readToken 20) f = f (.bipush 32, 22, 0, 0, 0, (32), 0)) ∧
  (∀ f : mE → Prop, w_o (mft MX4_readToken 22) f = f (.if_icmp .ne 16, 25, 38, 0, 0, 0, 0)) ∧
  (∀ f : mE → Prop, w_o (mft MX4_readToken 25) f = f (.aload_n 0, 26, 0, 0, 0, 0, 0)) ∧
  (∀ f : mE → Prop, w_o (mft MX4_readToken 26) f = f (.dup, 27, 0, 0, 0, 0, 0)) ∧
  (∀ f : mE → Prop, w_o (mft MX4_readToken 27) f = f (.getfield 19, 30, 4, 2, 0, 0, 0)) ∧
  (∀ f : mE → Prop, w_o (mft MX4_readToken 30) f = f (.iconst 1, 31, 0, 0, 0, (1), 0)) ∧
  (∀ f : mE → Prop, w_o (mft MX4_readToken 31) f = f (.iadd, 32, 0, 0, 0, 0, 0)) ∧
  (∀ f : mE → Prop, w_o (mft MX4_readToken 32) f = f (.putfield 19, 35, 4, 2, 0, 0, 0)) ∧
  (∀ f : mE → Prop, w_o (mft MX4_readToken 35) f = f (.goto (-35), 38, 0, 0, 0, 0, 0)) ∧
  (∀ f : mE → Prop, w_o (mft MX4_readToken 38) f = f (.aload_n 0, 39, 0, 0, 0, 0, 0)) ∧
  (∀ f : mE → Prop, w_o (mft MX4_readToken 39) f = f (.aload_n 0, 40, 0, 0, 0, 0, 0)) ∧
  (∀ f : mE → Prop, w_o (mft MX4_readToken 40) f = f (.getfield 19, 43, 4, 2, 0, 0, 0)) ∧
  (∀ f : mE → Prop, w_o (mft MX4_readToken 43) f = f (.putfield 25, 46, 4, 4, 0, 0, 0)) ∧
  (∀ f : mE → Prop, w_o (mft MX4_readToken 46) f = f (.aload_n 0, 47, 0, 0, 0, 0, 0)) ∧
  (∀ f : mE → Prop, w_o (mft MX4_readToken 47) f = f (.getfield 19, 50, 4, 2, 0, 0, 0)) ∧
  (∀ f : mE → Prop, w_o (mft MX4_readToken 50) f = f (.aload_n 0, 51, 0, 0, 0, 0, 0)) ∧
  (∀ f : mE → Prop, w_o (mft MX4_readToken 51) f = f (.getfield 15, 54, 4, 1, 0, 0, 0)) ∧
  (∀ f : mE → Prop, w_o (mft MX4_readToken 54) f = f (.if_icmp .lt 11, 57, 65, 0, 0, 0, 0)) ∧
  (∀ f : mE → Prop, w_o (mft MX4_readToken 57) f = f (.aload_n 0, 58, 0, 0, 0, 0, 0)) ∧
  (∀ f : mE → Prop, w_o (mft MX4_readToken 58) f = f (.iconst 3, 59, 0, 0, 0, (3), 0)) ∧
  (∀ f : mE → Prop, w_o (mft MX4_readToken 59) f = f (.putfield 22, 62, 4, 3, 0, 0, 0)) ∧
  (∀ f : mE → Prop, w_o (mft MX4_readToken 62) f = f (.goto 25, 65, 87, 0, 0, 0, 0)) ∧
  (∀ f : mE → Prop, w_o (mft MX4_readToken 65) f = f (.aload_n 0, 66, 0, 0, 0, 0, 0)) ∧
  (∀ f : mE → Prop, w_o (mft MX4_readToken 66) f = f (.aload_n 0, 67, 0, 0, 0, 0, 0)) ∧
  (∀ f : mE → Prop, w_o (mft MX4_readToken 67) f = f (.getfield 19, 70, 4, 2, 0, 0, 0)) ∧
  (∀ f : mE → Prop, w_o (mft MX4_readToken 70) f = f (.invokevirtual 59, 73, 55, 1, 4, 0, 0)) ∧
  (∀ f : mE → Prop, w_o (mft MX4_readToken 73) f = f (.ifCond .eq 10, 76, 83, 0, 0, 0, 0)) ∧
  (∀ f : mE → Prop, w_o (mft MX4_readToken 76) f = f (.aload_n 0, 77, 0, 0, 0, 0, 0)) ∧
  (∀ f : mE → Prop, w_o (mft MX4_readToken 77) f = f (.invokevirtual 62, 80, 54, 0, 4, 0, 0)) ∧
  (∀ f : mE → Prop, w_o (mft MX4_readToken 80) f = f (.goto 7, 83, 87, 0, 0, 0, 0)) ∧
  (∀ f : mE → Prop, w_o (mft MX4_readToken 83) f = f (.aload_n 0, 84, 0, 0, 0, 0, 0)) ∧
  (∀ f : mE → Prop, w_o (mft MX4_readToken 84) f = f (.invokevirtual 65, 87, 53, 0, 4, 0, 0)) ∧
  (∀ f : mE → Prop, w_o (mft MX4_readToken 87) f = f (.return_, 88, 0, 0, 0, 0, 0)) := ⟨fun _ => rfl, fun _ => rfl, fun _ => rfl, fun _ => rfl, fun _ => rfl, fun _ => rfl, fun _ => rfl, fun _ => rfl, fun _ => rfl, fun _ => rfl, fun _ => rfl, fun _ => rfl, fun _ => rfl, fun _ => rfl, fun _ => rfl, fun _ => rfl, fun _ => rfl, fun _ => rfl, fun _ => rfl, fun _ => rfl, fun _ => rfl, fun _ => rfl, fun _ => rfl, fun _ => rfl, fun _ => rfl, fun _ => rfl, fun _ => rfl, fun _ => rfl, fun _ => rfl, fun _ => rfl, fun _ => rfl, fun _ => rfl, fun _ => rfl, fun _ => rfl, fun _ => rfl, fun _ => rfl, fun _ => rfl, fun _ => rfl, fun _ => rfl, fun _ => rfl, fun _ => rfl, fun _ => rfl, fun _ => rfl⟩
set_option maxRecDepth 100000 in
theorem gd_X4_readToken : mGood MX4_readToken := ⟨by decide +kernel, by decide +kernel, by decide +kernel⟩
set_option maxRecDepth 100000 in
set_option maxHeartbeats 4000000 in
theorem ft_X4_readLetter : (∀ f : mE → Prop, w_o (mft MX4_readLetter 0) f = f (.aload_n 0, 1, 0, 0, 0, 0, 0)) ∧
  (∀ f : mE → Prop, w_o (mft MX4_readLetter 1) f = f (.ldc 68, 3, 0, 0, 0, 0, 0)) ∧
  (∀ f : mE → Prop, w_o (mft MX4_readLetter 3) f = f (.aload_n 0, 4, 0, 0, 0, 0, 0)) ∧
  (∀ f : mE → Prop, w_o (mft MX4_readLetter 4) f = f (.getfield 9, 7, 4, 0, 0, 0, 0)) ∧
  (∀ f : mE → Prop, w_o (mft MX4_readLetter 7) f = f (.aload_n 0, 8, 0, 0, 0, 0, 0)) ∧
  (∀ f : mE → Prop, w_o (mft MX4_readLetter 8) f = f (.getfield 19, 11, 4, 2, 0, 0, 0)) ∧
  (∀ f : mE → Prop, w_o (mft MX4_readLetter 11) f = f (.baload, 12, 1, 0, 0, 0, 0)) ∧
  (∀ f : mE → Prop, w_o (mft MX4_readLetter 12) f = f (.sipush 255, 15, 0, 0, 0, (255), 0)) ∧
  (∀ f : mE → Prop, w_o (mft MX4_readLetter 15) f = f (.iand, 16, 0, 0, 0, 0, 0)) ∧
  (∀ f : mE → Prop, w_o (mft MX4_readLetter 16) f = f (.i2c, 17, 0, 0, 0, 0, 0)) ∧
  (∀ f : mE → Prop, w_o (mft MX4_readLetter 17) f = f (.invokevirtual 70, 20, 999, 0, 0, 0, 0)) ∧
  (∀ f : mE → Prop, w_o (mft MX4_readLetter 20) f = f (.putfield 28, 23, 4, 5, 0, 0, 0)) ∧
  (∀ f : mE → Prop, w_o (mft MX4_readLetter 23) f = f (.aload_n 0, 24, 0, 0, 0, 0, 0)) ∧
  (∀ f : mE → Prop, w_o (mft MX4_readLetter 24) f = f (.aload_n 0, 25, 0, 0, 0, 0, 0)) ∧
  (∀ f : mE → Prop, w_o (mft MX4_readLetter 25) f = f (.getfield 28, 28, 4, 5, 0, 0, 0)) ∧
  (∀ f : mE → Prop, w_o (mft MX4_readLetter 28) f = f (.ifCond .ge 7, 31, 35, 0, 0, 0, 0)) ∧
  (∀ f : mE → Prop, w_o (mft MX4_readLetter 31) f = f (.iconst 0, 32, 0, 0, 0, (0), 0)) ∧
  (∀ f : mE → Prop, w_o (mft MX4_readLetter 32) f = f (.goto 4, 35, 36, 0, 0, 0, 0)) ∧
  (∀ f : mE → Prop, w_o (mft MX4_readLetter 35) f = f (.iconst 1, 36, 0, 0, 0, (1), 0)) ∧
  (∀ f : mE → Prop, w_o (mft MX4_readLetter 36) f = f (.putfield 22, 39, 4, 3, 0, 0, 0)) ∧
  (∀ f : mE → Prop, w_o (mft MX4_readLetter 39) f = f (.aload_n 0, 40, 0, 0, 0, 0, 0)) ∧
  (∀ f : mE → Prop, w_o (mft MX4_readLetter 40) f = f (.dup, 41, 0, 0, 0, 0, 0)) ∧
  (∀ f : mE → Prop, w_o (mft MX4_readLetter 41) f = f (.getfield 19, 44, 4, 2, 0, 0, 0)) ∧
  (∀ f : mE → Prop, w_o (mft MX4_readLetter 44) f = f (.iconst 1, 45, 0, 0, 0, (1), 0)) ∧
  (∀ f : mE → Prop, w_o (mft MX4_readLetter 45) f = f (.iadd, 46, 0, 0, 0, 0, 0)) ∧
  (∀ f : mE → Prop, w_o (mft MX4_readLetter 46) f = f (.putfield 19, 49, 4, 2, 0, 0, 0)) ∧
  (∀ f : mE → Prop, w_o (mft MX4_readLetter 49) f = f (.return_, 50, 0, 0, 0, 0, 0)) := ⟨fun _ => rfl, fun _ => rfl, fun _ => rfl, fun _ => rfl, fun _ => rfl, fun _ => rfl, fun _ => rfl, fun _ => rfl, fun _ => rfl, fun _ => rfl, fun _ => rfl, fun _ => rfl, fun _ => rfl, fun _ => rfl, fun _ => rfl, fun _ => rfl, fun _ => rfl, fun _ => rfl, fun _ => rfl, fun _ => rfl, fun _ => rfl, fun _ => rfl, fun _ => rfl, fun _ => rfl, fun _ => rfl, fun _ => rfl, fun _ => rfl⟩
set_option maxRecDepth 100000 in
theorem gd_X4_readLetter : mGood MX4_readLetter := ⟨by decide +kernel, by decide +kernel, by decide +kernel⟩
set_option maxRecDepth 100000 in
set_option maxHeartbeats 4000000 in
theorem ft_X4_readNumber : (∀ f : mE → Prop, w_o (mft MX4_readNumber 0) f = f (.aload_n 0, 1, 0, 0, 0, 0, 0)) ∧
  (∀ f : mE → Prop, w_o (mft MX4_readNumber 1) f = f (.iconst 0, 2, 0, 0, 0, (0), 0)) ∧
  (∀ f : mE → Prop, w_o (mft MX4_readNumber 2) f = f (.putfield 28, 5, 4, 5, 0, 0, 0)) ∧
  (∀ f : mE → Prop, w_o (mft MX4_readNumber 5) f = f (.iconst 0, 6, 0, 0, 0, (0), 0)) ∧
  (∀ f : mE → Prop, w_o (mft MX4_readNumber 6) f = f (.istore_n 1, 7, 1, 0, 0, 0, 0)) ∧
  (∀ f : mE → Prop, w_o (mft MX4_readNumber 7) f = f (.aload_n 0, 8, 0, 0, 0, 0, 0)) ∧
  (∀ f : mE → Prop, w_o (mft MX4_readNumber 8) f = f (.getfield 19, 11, 4, 2, 0, 0, 0)) ∧
  (∀ f : mE → Prop, w_o (mft MX4_readNumber 11) f = f (.aload_n 0, 12, 0, 0, 0, 0, 0)) ∧
  (∀ f : mE → Prop, w_o (mft MX4_readNumber 12) f = f (.getfield 15, 15, 4, 1, 0, 0, 0)) ∧
  (∀ f : mE → Prop, w_o (mft MX4_readNumber 15) f = f (.if_icmp .ge 59, 18, 74, 0, 0, 0, 0)) ∧
  (∀ f : mE → Prop, w_o (mft MX4_readNumber 18) f = f (.aload_n 0, 19, 0, 0, 0, 0, 0)) ∧
  (∀ f : mE → Prop, w_o (mft MX4_readNumber 19) f = f (.aload_n 0, 20, 0, 0, 0, 0, 0)) ∧
  (∀ f : mE → Prop, w_o (mft MX4_readNumber 20) f = f (.getfield 19, 23, 4, 2, 0, 0, 0)) ∧
  (∀ f : mE → Prop, w_o (mft MX4_readNumber 23) f = f (.invokevirtual 59, 26, 55, 1, 4, 0, 0)) ∧
  (∀ f : mE → Prop, w_o (mft MX4_readNumber 26) f = f (.ifCond .eq 48, 29, 74, 0, 0, 0, 0)) ∧
  (∀ f : mE → Prop, w_o (mft MX4_readNumber 29) f = f (.iload_n 1, 30, 1, 0, 0, 0, 0)) ∧
  (∀ f : mE → Prop, w_o (mft MX4_readNumber 30) f = f (.iconst 2, 31, 0, 0, 0, (2), 0)) ∧
  (∀ f : mE → Prop, w_o (mft MX4_readNumber 31) f = f (.if_icmp .gt 43, 34, 74, 0, 0, 0, 0)) ∧
  (∀ f : mE → Prop, w_o (mft MX4_readNumber 34) f = f (.aload_n 0, 35, 0, 0, 0, 0, 0)) ∧
  (∀ f : mE → Prop, w_o (mft MX4_readNumber 35) f = f (.bipush 10, 37, 0, 0, 0, (10), 0)) ∧
  (∀ f : mE → Prop, w_o (mft MX4_readNumber 37) f = f (.aload_n 0, 38, 0, 0, 0, 0, 0)) ∧
  (∀ f : mE → Prop, w_o (mft MX4_readNumber 38) f = f (.getfield 28, 41, 4, 5, 0, 0, 0)) ∧
  (∀ f : mE → Prop, w_o (mft MX4_readNumber 41) f = f (.imul, 42, 0, 0, 0, 0, 0)) ∧
  (∀ f : mE → Prop, w_o (mft MX4_readNumber 42) f = f (.aload_n 0, 43, 0, 0, 0, 0, 0)) ∧
  (∀ f : mE → Prop, w_o (mft MX4_readNumber 43) f = f (.getfield 9, 46, 4, 0, 0, 0, 0)) ∧
  (∀ f : mE → Prop, w_o (mft MX4_readNumber 46) f = f (.aload_n 0, 47, 0, 0, 0, 0, 0)) ∧
  (∀ f : mE → Prop, w_o (mft MX4_readNumber 47) f = f (.getfield 19, 50, 4, 2, 0, 0, 0)) ∧
  (∀ f : mE → Prop, w_o (mft MX4_readNumber 50) f = f (.baload, 51, 1, 0, 0, 0, 0)) ∧
  (∀ f : mE → Prop, w_o (mft MX4_readNumber 51) f = f (.iadd, 52, 0, 0, 0, 0, 0)) ∧
  (∀ f : mE → Prop, w_o (mft MX4_readNumber 52) f = f (.bipush 48, 54, 0, 0, 0, (48), 0)) ∧
  (∀ f : mE → Prop, w_o (mft MX4_readNumber 54) f = f (.isub, 55, 0, 0, 0, 0, 0)) ∧
  (∀ f : mE → Prop, w_o (mft MX4_readNumber 55) f = f (.putfield 28, 58, 4, 5, 0, 0, 0)) ∧
  (∀ f : mE → Prop, w_o (mft MX4_readNumber 58) f = f (.aload_n 0, 59, 0, 0, 0, 0, 0)) ∧
  (∀ f : mE → Prop, w_o (mft MX4_readNumber 59) f = f (.dup, 60, 0, 0, 0, 0, 0)) ∧
  (∀ f : mE → Prop, w_o (mft MX4_readNumber 60) f = f (.getfield 19, 63, 4, 2, 0, 0, 0)) ∧
  (∀ f : mE → Prop, w_o (mft MX4_readNumber 63) f = f (.iconst 1, 64, 0, 0, 0, (1), 0)) ∧
  (∀ f : mE → Prop, w_o (mft MX4_readNumber 64) f = f (.iadd, 65, 0, 0, 0, 0, 0)) ∧
  (∀ f : mE → Prop, w_o (mft MX4_readNumber 65) f = f (.putfield 19, 68, 4, 2, 0, 0, 0)) ∧
  (∀ f : mE → Prop, w_o (mft MX4_readNumber 68) f = f (.iinc 1 1, 71, 1, 0, 0, (1), 0)) ∧
  (∀ f : mE → Prop, w_o (mft MX4_readNumber 71) f = f (.goto (-64), 74, 7, 0, 0, 0, 0)) ∧
  (∀ f : mE → Prop, w_o (mft MX4_readNumber 74) f = f (.aload_n 0, 75, 0, 0, 0, 0, 0)) ∧
  (∀ f : mE → Prop, w_o (mft MX4_readNumber 75) f = f (.iload_n 1, 76, 1, 0, 0, 0, 0)) ∧
  (∀ f : mE → Prop, w_o (mft MX4_readNumber 76) f = f (.iconst 2, 77, 0, 0, 0, (2), 0)) ∧
  (∀ f : mE → Prop, w_o (mft MX4_readNumber 77) f = f (.if_icmp .le 7, 80, 84, 0, 0, 0, 0)) ∧
  (∀ f : mE → Prop, w_o (mft MX4_readNumber 80) f = f (.iconst 0, 81, 0, 0, 0, (0), 0)) ∧
  (∀ f : mE → Prop, w_o (mft MX4_readNumber 81) f = f (.goto 4, 84, 85, 0, 0, 0, 0)) ∧
  (∀ f : mE → Prop, w_o (mft MX4_readNumber 84) f = f (.iconst 2, 85, 0, 0, 0, (2), 0)) ∧
  (∀ f : mE → Prop, w_o (mft MX4_readNumber 85) f = f (.putfield 22, 88, 4, 3, 0, 0, 0)) ∧
  (∀ f : mE → Prop, w_o (mft MX4_readNumber 88) f = f (.return_, 89, 0, 0, 0, 0, 0)) := ⟨fun _ => rfl, fun _ => rfl, fun _ => rfl, fun _ => rfl, fun _ => rfl, fun _ => rfl, fun _ => rfl, fun _ => rfl, fun _ => rfl, fun _ => rfl, fun _ => rfl, fun _ => rfl, fun _ => rfl, fun _ => rfl, fun _ => rfl, fun _ => rfl, fun _ => rfl, fun _ => rfl, fun _ => rfl, fun _ => rfl, fun _ => rfl, fun _ => rfl, fun _ => rfl, fun _ => rfl, fun _ => rfl, fun _ => rfl, fun _ => rfl, fun _ => rfl, fun _ => rfl, fun _ => rfl, fun _ => rfl, fun _ => rfl, fun _ => rfl, fun _ => rfl, fun _ => rfl, fun _ => rfl, fun _ => rfl, fun _ => rfl, fun _ => rfl, fun _ => rfl, fun _ => rfl, fun _ => rfl, fun _ => rfl, fun _ => rfl, fun _ => rfl, fun _ => rfl, fun _ => rfl, fun _ => rfl, fun _ => rfl⟩
set_option maxRecDepth 100000 in
theorem gd_X4_readNumber : mGood MX4_readNumber := ⟨by decide +kernel, by decide +kernel, by decide +kernel⟩
set_option maxRecDepth 100000 in
set_option maxHeartbeats 4000000 in
theorem ft_X4_isFigure : (∀ f : mE → Prop, w_o (mft MX4_isFigure 0) f = f (.aload_n 0, 1, 0, 0, 0, 0, 0)) ∧
  (∀ f : mE → Prop, w_o (mft MX4_isFigure 1) f = f (.getfield 9, 4, 4, 0, 0, 0, 0)) ∧
  (∀ f : mE → Prop, w_o (mft MX4_isFigure 4) f = f (.iload_n 1, 5, 1, 0, 0, 0, 0)) ∧
  (∀ f : mE → Prop, w_o (mft MX4_isFigure 5) f = f (.baload, 6, 1, 0, 0, 0, 0)) ∧
  (∀ f : mE → Prop, w_o (mft MX4_isFigure 6) f = f (.bipush 48, 8, 0, 0, 0, (48), 0)) ∧
  (∀ f : mE → Prop, w_o (mft MX4_isFigure 8) f = f (.if_icmp .lt 18, 11, 26, 0, 0, 0, 0)) ∧
  (∀ f : mE → Prop, w_o (mft MX4_isFigure 11) f = f (.aload_n 0, 12, 0, 0, 0, 0, 0)) ∧
  (∀ f : mE → Prop, w_o (mft MX4_isFigure 12) f = f (.getfield 9, 15, 4, 0, 0, 0, 0)) ∧
  (∀ f : mE → Prop, w_o (mft MX4_isFigure 15) f = f (.iload_n 1, 16, 1, 0, 0, 0, 0)) ∧
  (∀ f : mE → Prop, w_o (mft MX4_isFigure 16) f = f (.baload, 17, 1, 0, 0, 0, 0)) ∧
  (∀ f : mE → Prop, w_o (mft MX4_isFigure 17) f = f (.bipush 57, 19, 0, 0, 0, (57), 0)) ∧
  (∀ f : mE → Prop, w_o (mft MX4_isFigure 19) f = f (.if_icmp .gt 7, 22, 26, 0, 0, 0, 0)) ∧
  (∀ f : mE → Prop, w_o (mft MX4_isFigure 22) f = f (.iconst 1, 23, 0, 0, 0, (1), 0)) ∧
  (∀ f : mE → Prop, w_o (mft MX4_isFigure 23) f = f (.goto 4, 26, 27, 0, 0, 0, 0)) ∧
  (∀ f : mE → Prop, w_o (mft MX4_isFigure 26) f = f (.iconst 0, 27, 0, 0, 0, (0), 0)) ∧
  (∀ f : mE → Prop, w_o (mft MX4_isFigure 27) f = f (.ireturn, 28, 0, 0, 1, 0, 0)) := ⟨fun _ => rfl, fun _ => rfl, fun _ => rfl, fun _ => rfl, fun _ => rfl, fun _ => rfl, fun _ => rfl, fun _ => rfl, fun _ => rfl, fun _ => rfl, fun _ => rfl, fun _ => rfl, fun _ => rfl, fun _ => rfl, fun _ => rfl, fun _ => rfl⟩
set_option maxRecDepth 100000 in
theorem gd_X4_isFigure : mGood MX4_isFigure := ⟨by decide +kernel, by decide +kernel, by decide +kernel⟩
end
section
/-! methods of Front -/
def FrontC (h : mH) (G : mG) (F : Nat) (K P A : Nat → Int32) (n x : Int32) : Prop := h F = some (.inr (0, [.ref (F + 1), .ref (F + 2), .ref (F + 3), .int n, .int x])) ∧ h (F + 1) = some (.inl (gC G 0, 30, .inl K)) ∧ h (F + 2) = some (.inl (gC G 0, 30, .inl P)) ∧ h (F + 3) = some (.inl (gC G 0, 31, .inl A))
theorem t_strandsAdded {G : mG} {d N : Nat} {k : Int32} {h : mH} {post : Option Value → mH → Prop} (hp : post (some (.int (if k = 0 then 2 else if k = 2 then -2 else 0))) h) : MC G MX0_strandsAdded d 0 0 [.int k] h N post := by
  refine MC.of (L0 := [some (.int k)]) gd_X0_strandsAdded (Nat.le_of_ble_eq_true rfl) rfl (MW.run gd_X0_strandsAdded [] 20 ?_)
  simp only [↓EVi, ↓EVc, ↓ft_X0_strandsAdded, ↓reduceIte, mRun, List.not_mem_nil]
  by_cases c0 : k = 0
  · simp_all
  · by_cases c2 : k = 2
    · simp_all
    · simp_all
set_option maxRecDepth 10000 in
theorem t_append {G : mG} {d N : Nat} {F : Nat} {K P A : Nat → Int32} {n x k p : Int32} {h : mH} {post : Option Value → mH → Prop} (hF : FrontC h G F K P A n x) : MC G MX0_append d 0 0 [.ref F, .int k, .int p] h N post := by
  obtain ⟨h0, h1, h2, h3⟩ := hF
  refine MC.of (L0 := [some (.ref F), some (.int k), some (.int p)]) gd_X0_append (Nat.le_of_ble_eq_true rfl) rfl (MW.run gd_X0_append [] 80 ?_)
  simp only [↓EVi, ↓EVc, ↓ft_X0_append, ↓reduceIte, ↓EV_ob h0, ↓EV_ai h1, ↓EV_ai h2, ↓EV_ai h3, mRun, List.not_mem_nil, mtab_eq]
  done
end
