section
-- ===== PART A: goes FIRST, ahead of the names: the tables' words, and 'selects' of the private methods out of them =====
/-- a private method of a class that the tables say can be made, by its rows of tables_1 -/
def lw_okq (q : MethodName × Nat) : Prop := (q.1.cls ≠ "java/lang/invoke/MethodHandle" ∧ q.1.cls ≠ "java/lang/invoke/VarHandle") ∧ Cond.instantiable q.1.cls q.2 ∈ tables_1 ∧ Cond.privateMethod q.1 ∈ tables_1 ∧ Cond.instanceMethod q.1 ∈ tables_1
theorem lw_p0 : lw_okq (⟨"OneLongRow", "failWith", "(I)I"⟩, 17) := ⟨⟨by decide +kernel, by decide +kernel⟩, List.mem_of_getElem? (i := 15) (by decide +kernel), List.mem_of_getElem? (i := 283) (by decide +kernel), List.mem_of_getElem? (i := 284) (by decide +kernel)⟩
theorem lw_p1 : lw_okq (⟨"OneLongRow$Text", "stateAfter", "(II)I"⟩, 2) := ⟨⟨by decide +kernel, by decide +kernel⟩, List.mem_of_getElem? (i := 25) (by decide +kernel), List.mem_of_getElem? (i := 292) (by decide +kernel), List.mem_of_getElem? (i := 293) (by decide +kernel)⟩
theorem lw_p2 : lw_okq (⟨"OneLongRow$Text", "beginWord", "()I"⟩, 2) := ⟨⟨by decide +kernel, by decide +kernel⟩, List.mem_of_getElem? (i := 25) (by decide +kernel), List.mem_of_getElem? (i := 296) (by decide +kernel), List.mem_of_getElem? (i := 297) (by decide +kernel)⟩
theorem lw_p3 : lw_okq (⟨"OneLongRow$Text", "takeKind", "(I)I"⟩, 2) := ⟨⟨by decide +kernel, by decide +kernel⟩, List.mem_of_getElem? (i := 25) (by decide +kernel), List.mem_of_getElem? (i := 300) (by decide +kernel), List.mem_of_getElem? (i := 301) (by decide +kernel)⟩
theorem lw_p4 : lw_okq (⟨"OneLongRow$Text", "takeLetter", "(I)I"⟩, 2) := ⟨⟨by decide +kernel, by decide +kernel⟩, List.mem_of_getElem? (i := 25) (by decide +kernel), List.mem_of_getElem? (i := 304) (by decide +kernel), List.mem_of_getElem? (i := 305) (by decide +kernel)⟩
theorem lw_p5 : lw_okq (⟨"OneLongRow", "takeText", "()V"⟩, 17) := ⟨⟨by decide +kernel, by decide +kernel⟩, List.mem_of_getElem? (i := 15) (by decide +kernel), List.mem_of_getElem? (i := 308) (by decide +kernel), List.mem_of_getElem? (i := 309) (by decide +kernel)⟩
theorem lw_p6 : lw_okq (⟨"OneLongRow", "isWord", "(I)Z"⟩, 17) := ⟨⟨by decide +kernel, by decide +kernel⟩, List.mem_of_getElem? (i := 15) (by decide +kernel), List.mem_of_getElem? (i := 316) (by decide +kernel), List.mem_of_getElem? (i := 317) (by decide +kernel)⟩
theorem lw_p7 : lw_okq (⟨"OneLongRow", "heardInTold", "(II)I"⟩, 17) := ⟨⟨by decide +kernel, by decide +kernel⟩, List.mem_of_getElem? (i := 15) (by decide +kernel), List.mem_of_getElem? (i := 368) (by decide +kernel), List.mem_of_getElem? (i := 369) (by decide +kernel)⟩
theorem lw_p8 : lw_okq (⟨"OneLongRow$Word", "liesOver", "(LOneLongRow$Word;I)Z"⟩, 3) := ⟨⟨by decide +kernel, by decide +kernel⟩, List.mem_of_getElem? (i := 35) (by decide +kernel), List.mem_of_getElem? (i := 389) (by decide +kernel), List.mem_of_getElem? (i := 390) (by decide +kernel)⟩
theorem lw_p9 : lw_okq (⟨"OneLongRow", "renewNet", "()V"⟩, 17) := ⟨⟨by decide +kernel, by decide +kernel⟩, List.mem_of_getElem? (i := 15) (by decide +kernel), List.mem_of_getElem? (i := 397) (by decide +kernel), List.mem_of_getElem? (i := 398) (by decide +kernel)⟩
theorem lw_p10 : lw_okq (⟨"OneLongRow$Net", "markStays", "([LOneLongRow$Word;I)V"⟩, 6) := ⟨⟨by decide +kernel, by decide +kernel⟩, List.mem_of_getElem? (i := 71) (by decide +kernel), List.mem_of_getElem? (i := 405) (by decide +kernel), List.mem_of_getElem? (i := 406) (by decide +kernel)⟩
theorem lw_p11 : lw_okq (⟨"OneLongRow$Net", "markBeginnings", "(LOneLongRow$Word;I)V"⟩, 6) := ⟨⟨by decide +kernel, by decide +kernel⟩, List.mem_of_getElem? (i := 71) (by decide +kernel), List.mem_of_getElem? (i := 409) (by decide +kernel), List.mem_of_getElem? (i := 410) (by decide +kernel)⟩
theorem lw_p12 : lw_okq (⟨"OneLongRow$Net", "layTrail", "(I)I"⟩, 6) := ⟨⟨by decide +kernel, by decide +kernel⟩, List.mem_of_getElem? (i := 71) (by decide +kernel), List.mem_of_getElem? (i := 414) (by decide +kernel), List.mem_of_getElem? (i := 415) (by decide +kernel)⟩
theorem lw_p13 : lw_okq (⟨"OneLongRow$Net", "stayAt", "(I)I"⟩, 6) := ⟨⟨by decide +kernel, by decide +kernel⟩, List.mem_of_getElem? (i := 71) (by decide +kernel), List.mem_of_getElem? (i := 419) (by decide +kernel), List.mem_of_getElem? (i := 420) (by decide +kernel)⟩
theorem lw_p14 : lw_okq (⟨"OneLongRow$Points", "find", "(II)I"⟩, 8) := ⟨⟨by decide +kernel, by decide +kernel⟩, List.mem_of_getElem? (i := 103) (by decide +kernel), List.mem_of_getElem? (i := 430) (by decide +kernel), List.mem_of_getElem? (i := 431) (by decide +kernel)⟩
theorem lw_p15 : lw_okq (⟨"OneLongRow$Points", "pointAfter", "(LOneLongRow$Net;II)I"⟩, 8) := ⟨⟨by decide +kernel, by decide +kernel⟩, List.mem_of_getElem? (i := 103) (by decide +kernel), List.mem_of_getElem? (i := 437) (by decide +kernel), List.mem_of_getElem? (i := 438) (by decide +kernel)⟩
def lw_privs_1 : List (MethodName × Nat) := [(⟨"OneLongRow", "failWith", "(I)I"⟩, 17), (⟨"OneLongRow$Text", "stateAfter", "(II)I"⟩, 2), (⟨"OneLongRow$Text", "beginWord", "()I"⟩, 2), (⟨"OneLongRow$Text", "takeKind", "(I)I"⟩, 2), (⟨"OneLongRow$Text", "takeLetter", "(I)I"⟩, 2), (⟨"OneLongRow", "takeText", "()V"⟩, 17), (⟨"OneLongRow", "isWord", "(I)Z"⟩, 17), (⟨"OneLongRow", "heardInTold", "(II)I"⟩, 17), (⟨"OneLongRow$Word", "liesOver", "(LOneLongRow$Word;I)Z"⟩, 3), (⟨"OneLongRow", "renewNet", "()V"⟩, 17), (⟨"OneLongRow$Net", "markStays", "([LOneLongRow$Word;I)V"⟩, 6), (⟨"OneLongRow$Net", "markBeginnings", "(LOneLongRow$Word;I)V"⟩, 6), (⟨"OneLongRow$Net", "layTrail", "(I)I"⟩, 6), (⟨"OneLongRow$Net", "stayAt", "(I)I"⟩, 6), (⟨"OneLongRow$Points", "find", "(II)I"⟩, 8), (⟨"OneLongRow$Points", "pointAfter", "(LOneLongRow$Net;II)I"⟩, 8)]
theorem lw_r1 : ∀ q ∈ lw_privs_1, lw_okq q := List.forall_mem_cons.mpr ⟨lw_p0, List.forall_mem_cons.mpr ⟨lw_p1, List.forall_mem_cons.mpr ⟨lw_p2, List.forall_mem_cons.mpr ⟨lw_p3, List.forall_mem_cons.mpr ⟨lw_p4, List.forall_mem_cons.mpr ⟨lw_p5, List.forall_mem_cons.mpr ⟨lw_p6, List.forall_mem_cons.mpr ⟨lw_p7, List.forall_mem_cons.mpr ⟨lw_p8, List.forall_mem_cons.mpr ⟨lw_p9, List.forall_mem_cons.mpr ⟨lw_p10, List.forall_mem_cons.mpr ⟨lw_p11, List.forall_mem_cons.mpr ⟨lw_p12, List.forall_mem_cons.mpr ⟨lw_p13, List.forall_mem_cons.mpr ⟨lw_p14, List.forall_mem_cons.mpr ⟨lw_p15, fun _ h => absurd h List.not_mem_nil⟩⟩⟩⟩⟩⟩⟩⟩⟩⟩⟩⟩⟩⟩⟩⟩
theorem lw_p16 : lw_okq (⟨"OneLongRow$Points", "layShortestRow", "()V"⟩, 8) := ⟨⟨by decide +kernel, by decide +kernel⟩, List.mem_of_getElem? (i := 103) (by decide +kernel), List.mem_of_getElem? (i := 442) (by decide +kernel), List.mem_of_getElem? (i := 443) (by decide +kernel)⟩
theorem lw_p17 : lw_okq (⟨"OneLongRow$Counts", "addUp", "(LOneLongRow$Points;)V"⟩, 5) := ⟨⟨by decide +kernel, by decide +kernel⟩, List.mem_of_getElem? (i := 139) (by decide +kernel), List.mem_of_getElem? (i := 453) (by decide +kernel), List.mem_of_getElem? (i := 454) (by decide +kernel)⟩
theorem lw_p18 : lw_okq (⟨"OneLongRow$Counts", "addLetter", "(LOneLongRow$Points;)V"⟩, 5) := ⟨⟨by decide +kernel, by decide +kernel⟩, List.mem_of_getElem? (i := 139) (by decide +kernel), List.mem_of_getElem? (i := 473) (by decide +kernel), List.mem_of_getElem? (i := 474) (by decide +kernel)⟩
theorem lw_p19 : lw_okq (⟨"OneLongRow$Net", "silentlyReachedFrom", "(J)J"⟩, 6) := ⟨⟨by decide +kernel, by decide +kernel⟩, List.mem_of_getElem? (i := 71) (by decide +kernel), List.mem_of_getElem? (i := 489) (by decide +kernel), List.mem_of_getElem? (i := 490) (by decide +kernel)⟩
theorem lw_p20 : lw_okq (⟨"OneLongRow", "standsInEachForm", "(LOneLongRow$Word;LOneLongRow$Word;)Z"⟩, 17) := ⟨⟨by decide +kernel, by decide +kernel⟩, List.mem_of_getElem? (i := 15) (by decide +kernel), List.mem_of_getElem? (i := 497) (by decide +kernel), List.mem_of_getElem? (i := 498) (by decide +kernel)⟩
theorem lw_p21 : lw_okq (⟨"OneLongRow", "readingsAreSo", "(I)Z"⟩, 17) := ⟨⟨by decide +kernel, by decide +kernel⟩, List.mem_of_getElem? (i := 15) (by decide +kernel), List.mem_of_getElem? (i := 530) (by decide +kernel), List.mem_of_getElem? (i := 531) (by decide +kernel)⟩
theorem lw_p22 : lw_okq (⟨"OneLongRow", "tellTurned", "(LOneLongRow$Word;)I"⟩, 17) := ⟨⟨by decide +kernel, by decide +kernel⟩, List.mem_of_getElem? (i := 15) (by decide +kernel), List.mem_of_getElem? (i := 583) (by decide +kernel), List.mem_of_getElem? (i := 584) (by decide +kernel)⟩
theorem lw_p23 : lw_okq (⟨"OneLongRow", "leaveTrace", "(I)V"⟩, 17) := ⟨⟨by decide +kernel, by decide +kernel⟩, List.mem_of_getElem? (i := 15) (by decide +kernel), List.mem_of_getElem? (i := 587) (by decide +kernel), List.mem_of_getElem? (i := 588) (by decide +kernel)⟩
theorem lw_p24 : lw_okq (⟨"OneLongRow", "tellBoth", "(LOneLongRow$Word;)I"⟩, 17) := ⟨⟨by decide +kernel, by decide +kernel⟩, List.mem_of_getElem? (i := 15) (by decide +kernel), List.mem_of_getElem? (i := 591) (by decide +kernel), List.mem_of_getElem? (i := 592) (by decide +kernel)⟩
theorem lw_p25 : lw_okq (⟨"OneLongRow", "tellPlain", "(LOneLongRow$Word;)I"⟩, 17) := ⟨⟨by decide +kernel, by decide +kernel⟩, List.mem_of_getElem? (i := 15) (by decide +kernel), List.mem_of_getElem? (i := 595) (by decide +kernel), List.mem_of_getElem? (i := 596) (by decide +kernel)⟩
theorem lw_p26 : lw_okq (⟨"OneLongRow", "standIn", "([II)I"⟩, 17) := ⟨⟨by decide +kernel, by decide +kernel⟩, List.mem_of_getElem? (i := 15) (by decide +kernel), List.mem_of_getElem? (i := 619) (by decide +kernel), List.mem_of_getElem? (i := 620) (by decide +kernel)⟩
theorem lw_p27 : lw_okq (⟨"OneLongRowModel", "against", "(IIII)I"⟩, 30) := ⟨⟨by decide +kernel, by decide +kernel⟩, List.mem_of_getElem? (i := 623) (by decide +kernel), List.mem_of_getElem? (i := 733) (by decide +kernel), List.mem_of_getElem? (i := 734) (by decide +kernel)⟩
theorem lw_p28 : lw_okq (⟨"OneLongRowModel", "fails", "(I)I"⟩, 30) := ⟨⟨by decide +kernel, by decide +kernel⟩, List.mem_of_getElem? (i := 623) (by decide +kernel), List.mem_of_getElem? (i := 737) (by decide +kernel), List.mem_of_getElem? (i := 738) (by decide +kernel)⟩
theorem lw_p29 : lw_okq (⟨"OneLongRowModel", "readAll", "(I)Z"⟩, 30) := ⟨⟨by decide +kernel, by decide +kernel⟩, List.mem_of_getElem? (i := 623) (by decide +kernel), List.mem_of_getElem? (i := 741) (by decide +kernel), List.mem_of_getElem? (i := 742) (by decide +kernel)⟩
theorem lw_p30 : lw_okq (⟨"OneLongRowModel", "isSign", "(II)Z"⟩, 30) := ⟨⟨by decide +kernel, by decide +kernel⟩, List.mem_of_getElem? (i := 623) (by decide +kernel), List.mem_of_getElem? (i := 745) (by decide +kernel), List.mem_of_getElem? (i := 746) (by decide +kernel)⟩
theorem lw_p31 : lw_okq (⟨"OneLongRowModel", "readWord", "(II)Z"⟩, 30) := ⟨⟨by decide +kernel, by decide +kernel⟩, List.mem_of_getElem? (i := 623) (by decide +kernel), List.mem_of_getElem? (i := 749) (by decide +kernel), List.mem_of_getElem? (i := 750) (by decide +kernel)⟩
def lw_privs_2 : List (MethodName × Nat) := [(⟨"OneLongRow$Points", "layShortestRow", "()V"⟩, 8), (⟨"OneLongRow$Counts", "addUp", "(LOneLongRow$Points;)V"⟩, 5), (⟨"OneLongRow$Counts", "addLetter", "(LOneLongRow$Points;)V"⟩, 5), (⟨"OneLongRow$Net", "silentlyReachedFrom", "(J)J"⟩, 6), (⟨"OneLongRow", "standsInEachForm", "(LOneLongRow$Word;LOneLongRow$Word;)Z"⟩, 17), (⟨"OneLongRow", "readingsAreSo", "(I)Z"⟩, 17), (⟨"OneLongRow", "tellTurned", "(LOneLongRow$Word;)I"⟩, 17), (⟨"OneLongRow", "leaveTrace", "(I)V"⟩, 17), (⟨"OneLongRow", "tellBoth", "(LOneLongRow$Word;)I"⟩, 17), (⟨"OneLongRow", "tellPlain", "(LOneLongRow$Word;)I"⟩, 17), (⟨"OneLongRow", "standIn", "([II)I"⟩, 17), (⟨"OneLongRowModel", "against", "(IIII)I"⟩, 30), (⟨"OneLongRowModel", "fails", "(I)I"⟩, 30), (⟨"OneLongRowModel", "readAll", "(I)Z"⟩, 30), (⟨"OneLongRowModel", "isSign", "(II)Z"⟩, 30), (⟨"OneLongRowModel", "readWord", "(II)Z"⟩, 30)]
theorem lw_r2 : ∀ q ∈ lw_privs_2, lw_okq q := List.forall_mem_cons.mpr ⟨lw_p16, List.forall_mem_cons.mpr ⟨lw_p17, List.forall_mem_cons.mpr ⟨lw_p18, List.forall_mem_cons.mpr ⟨lw_p19, List.forall_mem_cons.mpr ⟨lw_p20, List.forall_mem_cons.mpr ⟨lw_p21, List.forall_mem_cons.mpr ⟨lw_p22, List.forall_mem_cons.mpr ⟨lw_p23, List.forall_mem_cons.mpr ⟨lw_p24, List.forall_mem_cons.mpr ⟨lw_p25, List.forall_mem_cons.mpr ⟨lw_p26, List.forall_mem_cons.mpr ⟨lw_p27, List.forall_mem_cons.mpr ⟨lw_p28, List.forall_mem_cons.mpr ⟨lw_p29, List.forall_mem_cons.mpr ⟨lw_p30, List.forall_mem_cons.mpr ⟨lw_p31, fun _ h => absurd h List.not_mem_nil⟩⟩⟩⟩⟩⟩⟩⟩⟩⟩⟩⟩⟩⟩⟩⟩
theorem lw_p32 : lw_okq (⟨"OneLongRowModel", "isWord", "(I)Z"⟩, 30) := ⟨⟨by decide +kernel, by decide +kernel⟩, List.mem_of_getElem? (i := 623) (by decide +kernel), List.mem_of_getElem? (i := 757) (by decide +kernel), List.mem_of_getElem? (i := 758) (by decide +kernel)⟩
theorem lw_p33 : lw_okq (⟨"OneLongRowModel", "areForms", "(I)Z"⟩, 30) := ⟨⟨by decide +kernel, by decide +kernel⟩, List.mem_of_getElem? (i := 623) (by decide +kernel), List.mem_of_getElem? (i := 761) (by decide +kernel), List.mem_of_getElem? (i := 762) (by decide +kernel)⟩
theorem lw_p34 : lw_okq (⟨"OneLongRowModel", "letterOf", "(III)I"⟩, 30) := ⟨⟨by decide +kernel, by decide +kernel⟩, List.mem_of_getElem? (i := 623) (by decide +kernel), List.mem_of_getElem? (i := 765) (by decide +kernel), List.mem_of_getElem? (i := 766) (by decide +kernel)⟩
theorem lw_p35 : lw_okq (⟨"OneLongRowModel", "lookAtSaid", "()V"⟩, 30) := ⟨⟨by decide +kernel, by decide +kernel⟩, List.mem_of_getElem? (i := 623) (by decide +kernel), List.mem_of_getElem? (i := 769) (by decide +kernel), List.mem_of_getElem? (i := 770) (by decide +kernel)⟩
theorem lw_p36 : lw_okq (⟨"OneLongRowModel", "timesHeard", "(I)I"⟩, 30) := ⟨⟨by decide +kernel, by decide +kernel⟩, List.mem_of_getElem? (i := 623) (by decide +kernel), List.mem_of_getElem? (i := 773) (by decide +kernel), List.mem_of_getElem? (i := 774) (by decide +kernel)⟩
theorem lw_p37 : lw_okq (⟨"OneLongRowModel", "isHeard", "(II)Z"⟩, 30) := ⟨⟨by decide +kernel, by decide +kernel⟩, List.mem_of_getElem? (i := 623) (by decide +kernel), List.mem_of_getElem? (i := 777) (by decide +kernel), List.mem_of_getElem? (i := 778) (by decide +kernel)⟩
theorem lw_p38 : lw_okq (⟨"OneLongRowModel", "heardBehind", "(I)I"⟩, 30) := ⟨⟨by decide +kernel, by decide +kernel⟩, List.mem_of_getElem? (i := 623) (by decide +kernel), List.mem_of_getElem? (i := 789) (by decide +kernel), List.mem_of_getElem? (i := 790) (by decide +kernel)⟩
theorem lw_p39 : lw_okq (⟨"OneLongRowModel", "areLetters", "(II)Z"⟩, 30) := ⟨⟨by decide +kernel, by decide +kernel⟩, List.mem_of_getElem? (i := 623) (by decide +kernel), List.mem_of_getElem? (i := 801) (by decide +kernel), List.mem_of_getElem? (i := 802) (by decide +kernel)⟩
theorem lw_p40 : lw_okq (⟨"OneLongRowModel", "lookAtCells", "(II)V"⟩, 30) := ⟨⟨by decide +kernel, by decide +kernel⟩, List.mem_of_getElem? (i := 623) (by decide +kernel), List.mem_of_getElem? (i := 805) (by decide +kernel), List.mem_of_getElem? (i := 806) (by decide +kernel)⟩
theorem lw_p41 : lw_okq (⟨"OneLongRowModel", "standing", "()I"⟩, 30) := ⟨⟨by decide +kernel, by decide +kernel⟩, List.mem_of_getElem? (i := 623) (by decide +kernel), List.mem_of_getElem? (i := 809) (by decide +kernel), List.mem_of_getElem? (i := 810) (by decide +kernel)⟩
theorem lw_p42 : lw_okq (⟨"OneLongRowModel", "allHeard", "()I"⟩, 30) := ⟨⟨by decide +kernel, by decide +kernel⟩, List.mem_of_getElem? (i := 623) (by decide +kernel), List.mem_of_getElem? (i := 813) (by decide +kernel), List.mem_of_getElem? (i := 814) (by decide +kernel)⟩
theorem lw_p43 : lw_okq (⟨"OneLongRowModel", "heardBy", "(Z)I"⟩, 30) := ⟨⟨by decide +kernel, by decide +kernel⟩, List.mem_of_getElem? (i := 623) (by decide +kernel), List.mem_of_getElem? (i := 817) (by decide +kernel), List.mem_of_getElem? (i := 818) (by decide +kernel)⟩
theorem lw_p44 : lw_okq (⟨"OneLongRowModel", "findFar", "()V"⟩, 30) := ⟨⟨by decide +kernel, by decide +kernel⟩, List.mem_of_getElem? (i := 623) (by decide +kernel), List.mem_of_getElem? (i := 829) (by decide +kernel), List.mem_of_getElem? (i := 830) (by decide +kernel)⟩
theorem lw_p45 : lw_okq (⟨"OneLongRowModel", "findNext", "()V"⟩, 30) := ⟨⟨by decide +kernel, by decide +kernel⟩, List.mem_of_getElem? (i := 623) (by decide +kernel), List.mem_of_getElem? (i := 833) (by decide +kernel), List.mem_of_getElem? (i := 834) (by decide +kernel)⟩
theorem lw_p46 : lw_okq (⟨"OneLongRowModel", "endOf", "(I)I"⟩, 30) := ⟨⟨by decide +kernel, by decide +kernel⟩, List.mem_of_getElem? (i := 623) (by decide +kernel), List.mem_of_getElem? (i := 837) (by decide +kernel), List.mem_of_getElem? (i := 838) (by decide +kernel)⟩
theorem lw_p47 : lw_okq (⟨"OneLongRowModel", "allWords", "()I"⟩, 30) := ⟨⟨by decide +kernel, by decide +kernel⟩, List.mem_of_getElem? (i := 623) (by decide +kernel), List.mem_of_getElem? (i := 841) (by decide +kernel), List.mem_of_getElem? (i := 842) (by decide +kernel)⟩
def lw_privs_3 : List (MethodName × Nat) := [(⟨"OneLongRowModel", "isWord", "(I)Z"⟩, 30), (⟨"OneLongRowModel", "areForms", "(I)Z"⟩, 30), (⟨"OneLongRowModel", "letterOf", "(III)I"⟩, 30), (⟨"OneLongRowModel", "lookAtSaid", "()V"⟩, 30), (⟨"OneLongRowModel", "timesHeard", "(I)I"⟩, 30), (⟨"OneLongRowModel", "isHeard", "(II)Z"⟩, 30), (⟨"OneLongRowModel", "heardBehind", "(I)I"⟩, 30), (⟨"OneLongRowModel", "areLetters", "(II)Z"⟩, 30), (⟨"OneLongRowModel", "lookAtCells", "(II)V"⟩, 30), (⟨"OneLongRowModel", "standing", "()I"⟩, 30), (⟨"OneLongRowModel", "allHeard", "()I"⟩, 30), (⟨"OneLongRowModel", "heardBy", "(Z)I"⟩, 30), (⟨"OneLongRowModel", "findFar", "()V"⟩, 30), (⟨"OneLongRowModel", "findNext", "()V"⟩, 30), (⟨"OneLongRowModel", "endOf", "(I)I"⟩, 30), (⟨"OneLongRowModel", "allWords", "()I"⟩, 30)]
theorem lw_r3 : ∀ q ∈ lw_privs_3, lw_okq q := List.forall_mem_cons.mpr ⟨lw_p32, List.forall_mem_cons.mpr ⟨lw_p33, List.forall_mem_cons.mpr ⟨lw_p34, List.forall_mem_cons.mpr ⟨lw_p35, List.forall_mem_cons.mpr ⟨lw_p36, List.forall_mem_cons.mpr ⟨lw_p37, List.forall_mem_cons.mpr ⟨lw_p38, List.forall_mem_cons.mpr ⟨lw_p39, List.forall_mem_cons.mpr ⟨lw_p40, List.forall_mem_cons.mpr ⟨lw_p41, List.forall_mem_cons.mpr ⟨lw_p42, List.forall_mem_cons.mpr ⟨lw_p43, List.forall_mem_cons.mpr ⟨lw_p44, List.forall_mem_cons.mpr ⟨lw_p45, List.forall_mem_cons.mpr ⟨lw_p46, List.forall_mem_cons.mpr ⟨lw_p47, fun _ h => absurd h List.not_mem_nil⟩⟩⟩⟩⟩⟩⟩⟩⟩⟩⟩⟩⟩⟩⟩⟩
theorem lw_p48 : lw_okq (⟨"OneLongRowModel", "behindLetter", "(II)I"⟩, 30) := ⟨⟨by decide +kernel, by decide +kernel⟩, List.mem_of_getElem? (i := 623) (by decide +kernel), List.mem_of_getElem? (i := 845) (by decide +kernel), List.mem_of_getElem? (i := 846) (by decide +kernel)⟩
theorem lw_p49 : lw_okq (⟨"OneLongRowModel", "findWays", "(I)V"⟩, 30) := ⟨⟨by decide +kernel, by decide +kernel⟩, List.mem_of_getElem? (i := 623) (by decide +kernel), List.mem_of_getElem? (i := 854) (by decide +kernel), List.mem_of_getElem? (i := 855) (by decide +kernel)⟩
theorem lw_p50 : lw_okq (⟨"OneLongRowModel", "waysWith", "(I)J"⟩, 30) := ⟨⟨by decide +kernel, by decide +kernel⟩, List.mem_of_getElem? (i := 623) (by decide +kernel), List.mem_of_getElem? (i := 858) (by decide +kernel), List.mem_of_getElem? (i := 859) (by decide +kernel)⟩
theorem lw_p51 : lw_okq (⟨"OneLongRowModel", "goesFree", "()Z"⟩, 30) := ⟨⟨by decide +kernel, by decide +kernel⟩, List.mem_of_getElem? (i := 623) (by decide +kernel), List.mem_of_getElem? (i := 870) (by decide +kernel), List.mem_of_getElem? (i := 871) (by decide +kernel)⟩
theorem lw_p52 : lw_okq (⟨"OneLongRowModel", "isIn", "(II)Z"⟩, 30) := ⟨⟨by decide +kernel, by decide +kernel⟩, List.mem_of_getElem? (i := 623) (by decide +kernel), List.mem_of_getElem? (i := 878) (by decide +kernel), List.mem_of_getElem? (i := 879) (by decide +kernel)⟩
theorem lw_p53 : lw_okq (⟨"OneLongRowModel", "areSo", "()Z"⟩, 30) := ⟨⟨by decide +kernel, by decide +kernel⟩, List.mem_of_getElem? (i := 623) (by decide +kernel), List.mem_of_getElem? (i := 894) (by decide +kernel), List.mem_of_getElem? (i := 895) (by decide +kernel)⟩
theorem lw_p54 : lw_okq (⟨"OneLongRowModel", "lost", "(I)J"⟩, 30) := ⟨⟨by decide +kernel, by decide +kernel⟩, List.mem_of_getElem? (i := 623) (by decide +kernel), List.mem_of_getElem? (i := 926) (by decide +kernel), List.mem_of_getElem? (i := 927) (by decide +kernel)⟩
theorem lw_p55 : lw_okq (⟨"OneLongRowModel", "begins", "(I)V"⟩, 30) := ⟨⟨by decide +kernel, by decide +kernel⟩, List.mem_of_getElem? (i := 623) (by decide +kernel), List.mem_of_getElem? (i := 938) (by decide +kernel), List.mem_of_getElem? (i := 939) (by decide +kernel)⟩
def lw_privs_4 : List (MethodName × Nat) := [(⟨"OneLongRowModel", "behindLetter", "(II)I"⟩, 30), (⟨"OneLongRowModel", "findWays", "(I)V"⟩, 30), (⟨"OneLongRowModel", "waysWith", "(I)J"⟩, 30), (⟨"OneLongRowModel", "goesFree", "()Z"⟩, 30), (⟨"OneLongRowModel", "isIn", "(II)Z"⟩, 30), (⟨"OneLongRowModel", "areSo", "()Z"⟩, 30), (⟨"OneLongRowModel", "lost", "(I)J"⟩, 30), (⟨"OneLongRowModel", "begins", "(I)V"⟩, 30)]
theorem lw_r4 : ∀ q ∈ lw_privs_4, lw_okq q := List.forall_mem_cons.mpr ⟨lw_p48, List.forall_mem_cons.mpr ⟨lw_p49, List.forall_mem_cons.mpr ⟨lw_p50, List.forall_mem_cons.mpr ⟨lw_p51, List.forall_mem_cons.mpr ⟨lw_p52, List.forall_mem_cons.mpr ⟨lw_p53, List.forall_mem_cons.mpr ⟨lw_p54, List.forall_mem_cons.mpr ⟨lw_p55, fun _ h => absurd h List.not_mem_nil⟩⟩⟩⟩⟩⟩⟩⟩
def lw_privs : List (MethodName × Nat) := lw_privs_1 ++ (lw_privs_2 ++ (lw_privs_3 ++ (lw_privs_4)))
def lw_tbl : List Cond := k2_sels lw_privs ++ tables_1
theorem lw_privs_ok : ∀ q ∈ lw_privs, lw_okq q := by
  show ∀ q ∈ lw_privs_1 ++ (lw_privs_2 ++ (lw_privs_3 ++ (lw_privs_4))), lw_okq q
  exact List.forall_mem_append.mpr ⟨lw_r1, List.forall_mem_append.mpr ⟨lw_r2, List.forall_mem_append.mpr ⟨lw_r3, lw_r4⟩⟩⟩
end
section
def RX0 : String := "OneLongRow$Counts"
def TX0 : u_T := fun k => match k with
  | 0 => ("OneLongRow$Counts", "withAll", "[J", true)
  | 1 => ("OneLongRow$Counts", "withNone", "[J", true)
  | 2 => ("OneLongRow$Counts", "rows", "[J", false)
  | 3 => ("OneLongRow$Counts", "longerRows", "[J", false)
  | _ => ("OneLongRow$Counts", "counted", "I", false)
def tyX0 : Nat → FieldType := fun k => match k with
  | 0 => .array .long
  | 1 => .array .long
  | 2 => .array .long
  | 3 => .array .long
  | _ => .int
abbrev wsX00 : List Cond := u_ws RX0 TX0 5
theorem nmX0 : ∀ a, a < 5 → ∀ b, b < 5 → a ≠ b → (TX0 a).2.1 ≠ (TX0 b).2.1 := by decide +kernel
theorem tyX0_ok : ∀ k, k < 5 → parseFieldDescriptor (TX0 k).2.2.1 = some (tyX0 k) := by decide +kernel
abbrev cX0_init : ByteArray := prog_2_method_1_code
def yX0_init : MethodName := ⟨RX0, "<init>", "()V"⟩
abbrev cX0_begin : ByteArray := prog_2_method_2_code
def yX0_begin : MethodName := ⟨RX0, "begin", "(LOneLongRow$Points;)V"⟩
abbrev cX0_countTo : ByteArray := prog_2_method_3_code
def yX0_countTo : MethodName := ⟨RX0, "countTo", "(LOneLongRow$Points;I)V"⟩
abbrev cX0_addLetter : ByteArray := prog_2_method_4_code
def yX0_addLetter : MethodName := ⟨RX0, "addLetter", "(LOneLongRow$Points;)V"⟩
abbrev cX0_addUp : ByteArray := prog_2_method_5_code
def yX0_addUp : MethodName := ⟨RX0, "addUp", "(LOneLongRow$Points;)V"⟩
def RX1 : String := "OneLongRow$Net"
def TX1 : u_T := fun k => match k with
  | 0 => ("OneLongRow$Net", "shorter", "[I", true)
  | 1 => ("OneLongRow$Net", "heard", "[I", true)
  | 2 => ("OneLongRow$Net", "after", "[I", true)
  | 3 => ("OneLongRow$Net", "isStay", "[Z", true)
  | 4 => ("OneLongRow$Net", "trail", "[I", true)
  | _ => ("OneLongRow$Net", "whole", "I", false)
def tyX1 : Nat → FieldType := fun k => match k with
  | 0 => .array .int
  | 1 => .array .int
  | 2 => .array .int
  | 3 => .array .boolean
  | 4 => .array .int
  | _ => .int
abbrev wsX10 : List Cond := u_ws RX1 TX1 6
theorem nmX1 : ∀ a, a < 6 → ∀ b, b < 6 → a ≠ b → (TX1 a).2.1 ≠ (TX1 b).2.1 := by decide +kernel
theorem tyX1_ok : ∀ k, k < 6 → parseFieldDescriptor (TX1 k).2.2.1 = some (tyX1 k) := by decide +kernel
abbrev cX1_init : ByteArray := prog_3_method_1_code
def yX1_init : MethodName := ⟨RX1, "<init>", "()V"⟩
abbrev cX1_behind : ByteArray := prog_3_method_2_code
def yX1_behind : MethodName := ⟨RX1, "behind", "(II)I"⟩
abbrev cX1_learn : ByteArray := prog_3_method_3_code
def yX1_learn : MethodName := ⟨RX1, "learn", "([LOneLongRow$Word;I)V"⟩
abbrev cX1_markStays : ByteArray := prog_3_method_4_code
def yX1_markStays : MethodName := ⟨RX1, "markStays", "([LOneLongRow$Word;I)V"⟩
abbrev cX1_markBeginnings : ByteArray := prog_3_method_5_code
def yX1_markBeginnings : MethodName := ⟨RX1, "markBeginnings", "(LOneLongRow$Word;I)V"⟩
abbrev cX1_layTrail : ByteArray := prog_3_method_6_code
def yX1_layTrail : MethodName := ⟨RX1, "layTrail", "(I)I"⟩
abbrev cX1_stayAt : ByteArray := prog_3_method_7_code
def yX1_stayAt : MethodName := ⟨RX1, "stayAt", "(I)I"⟩
abbrev cX1_longestSilent : ByteArray := prog_3_method_8_code
def yX1_longestSilent : MethodName := ⟨RX1, "longestSilent", "()I"⟩
abbrev cX1_silentlyReachedFrom : ByteArray := prog_3_method_9_code
def yX1_silentlyReachedFrom : MethodName := ⟨RX1, "silentlyReachedFrom", "(J)J"⟩
def RX2 : String := "OneLongRow$Points"
def TX2 : u_T := fun k => match k with
  | 0 => ("OneLongRow$Points", "numbers", "[I", true)
  | 1 => ("OneLongRow$Points", "places", "[I", true)
  | 2 => ("OneLongRow$Points", "foundBy", "[I", true)
  | 3 => ("OneLongRow$Points", "next", "[I", true)
  | 4 => ("OneLongRow$Points", "letters", "[I", true)
  | 5 => ("OneLongRow$Points", "many", "I", false)
  | 6 => ("OneLongRow$Points", "wholePoint", "I", false)
  | _ => ("OneLongRow$Points", "length", "I", false)
def tyX2 : Nat → FieldType := fun k => match k with
  | 0 => .array .int
  | 1 => .array .int
  | 2 => .array .int
  | 3 => .array .int
  | 4 => .array .int
  | 5 => .int
  | 6 => .int
  | _ => .int
abbrev wsX20 : List Cond := u_ws RX2 TX2 8
theorem nmX2 : ∀ a, a < 8 → ∀ b, b < 8 → a ≠ b → (TX2 a).2.1 ≠ (TX2 b).2.1 := by decide +kernel
theorem tyX2_ok : ∀ k, k < 8 → parseFieldDescriptor (TX2 k).2.2.1 = some (tyX2 k) := by decide +kernel
abbrev cX2_init : ByteArray := prog_4_method_1_code
def yX2_init : MethodName := ⟨RX2, "<init>", "()V"⟩
abbrev cX2_lay : ByteArray := prog_4_method_2_code
def yX2_lay : MethodName := ⟨RX2, "lay", "(LOneLongRow$Net;)V"⟩
abbrev cX2_pointAfter : ByteArray := prog_4_method_3_code
def yX2_pointAfter : MethodName := ⟨RX2, "pointAfter", "(LOneLongRow$Net;II)I"⟩
abbrev cX2_find : ByteArray := prog_4_method_4_code
def yX2_find : MethodName := ⟨RX2, "find", "(II)I"⟩
abbrev cX2_isSilent : ByteArray := prog_4_method_5_code
def yX2_isSilent : MethodName := ⟨RX2, "isSilent", "(I)Z"⟩
abbrev cX2_layShortestRow : ByteArray := prog_4_method_6_code
def yX2_layShortestRow : MethodName := ⟨RX2, "layShortestRow", "()V"⟩
def RX3 : String := "OneLongRow$Reading"
def TX3 : u_T := fun k => match k with
  | 0 => ("OneLongRow$Reading", "letters", "[I", true)
  | 1 => ("OneLongRow$Reading", "word", "I", false)
  | 2 => ("OneLongRow$Reading", "length", "I", false)
  | _ => ("OneLongRow$Reading", "stands", "Z", false)
def tyX3 : Nat → FieldType := fun k => match k with
  | 0 => .array .int
  | 1 => .int
  | 2 => .int
  | _ => .boolean
abbrev wsX30 : List Cond := u_ws RX3 TX3 4
theorem nmX3 : ∀ a, a < 4 → ∀ b, b < 4 → a ≠ b → (TX3 a).2.1 ≠ (TX3 b).2.1 := by decide +kernel
theorem tyX3_ok : ∀ k, k < 4 → parseFieldDescriptor (TX3 k).2.2.1 = some (tyX3 k) := by decide +kernel
abbrev cX3_init : ByteArray := prog_5_method_1_code
def yX3_init : MethodName := ⟨RX3, "<init>", "()V"⟩
abbrev cX3_keep : ByteArray := prog_5_method_2_code
def yX3_keep : MethodName := ⟨RX3, "keep", "(I[IIZ)V"⟩
def RX4 : String := "OneLongRow$Sheet"
def TX4 : u_T := fun k => match k with
  | 0 => ("OneLongRow$Sheet", "cells", "[I", true)
  | 1 => ("OneLongRow$Sheet", "isThere", "Z", false)
  | 2 => ("OneLongRow$Sheet", "lane", "I", false)
  | _ => ("OneLongRow$Sheet", "length", "I", false)
def tyX4 : Nat → FieldType := fun k => match k with
  | 0 => .array .int
  | 1 => .boolean
  | 2 => .int
  | _ => .int
abbrev wsX40 : List Cond := u_ws RX4 TX4 4
theorem nmX4 : ∀ a, a < 4 → ∀ b, b < 4 → a ≠ b → (TX4 a).2.1 ≠ (TX4 b).2.1 := by decide +kernel
theorem tyX4_ok : ∀ k, k < 4 → parseFieldDescriptor (TX4 k).2.2.1 = some (tyX4 k) := by decide +kernel
abbrev cX4_init : ByteArray := prog_6_method_1_code
def yX4_init : MethodName := ⟨RX4, "<init>", "()V"⟩
abbrev cX4_begin : ByteArray := prog_6_method_2_code
def yX4_begin : MethodName := ⟨RX4, "begin", "(II)V"⟩
abbrev cX4_write : ByteArray := prog_6_method_3_code
def yX4_write : MethodName := ⟨RX4, "write", "(II)V"⟩
abbrev cX4_hasCells : ByteArray := prog_6_method_4_code
def yX4_hasCells : MethodName := ⟨RX4, "hasCells", "(II)Z"⟩
abbrev cX4_faultOfLane : ByteArray := prog_6_method_5_code
def yX4_faultOfLane : MethodName := ⟨RX4, "faultOfLane", "(I)I"⟩
abbrev cX4_faultOfCells : ByteArray := prog_6_method_6_code
def yX4_faultOfCells : MethodName := ⟨RX4, "faultOfCells", "(III)I"⟩
abbrev cX4_lettersTo : ByteArray := prog_6_method_7_code
def yX4_lettersTo : MethodName := ⟨RX4, "lettersTo", "([III)Z"⟩
def RX5 : String := "OneLongRow$Text"
def TX5 : u_T := fun k => match k with
  | 0 => ("OneLongRow$Text", "drafts", "[LOneLongRow$Word;", false)
  | _ => ("OneLongRow$Text", "begun", "I", false)
def tyX5 : Nat → FieldType := fun k => match k with
  | 0 => .array (.object "OneLongRow$Word")
  | _ => .int
abbrev wsX50 : List Cond := u_ws RX5 TX5 2
theorem nmX5 : ∀ a, a < 2 → ∀ b, b < 2 → a ≠ b → (TX5 a).2.1 ≠ (TX5 b).2.1 := by decide +kernel
theorem tyX5_ok : ∀ k, k < 2 → parseFieldDescriptor (TX5 k).2.2.1 = some (tyX5 k) := by decide +kernel
abbrev cX5_init : ByteArray := prog_7_method_1_code
def yX5_init : MethodName := ⟨RX5, "<init>", "()V"⟩
abbrev cX5_firstFault : ByteArray := prog_7_method_2_code
def yX5_firstFault : MethodName := ⟨RX5, "firstFault", "(LOneLongRow$Sheet;II)I"⟩
abbrev cX5_stateAfter : ByteArray := prog_7_method_3_code
def yX5_stateAfter : MethodName := ⟨RX5, "stateAfter", "(II)I"⟩
abbrev cX5_beginWord : ByteArray := prog_7_method_4_code
def yX5_beginWord : MethodName := ⟨RX5, "beginWord", "()I"⟩
abbrev cX5_takeKind : ByteArray := prog_7_method_5_code
def yX5_takeKind : MethodName := ⟨RX5, "takeKind", "(I)I"⟩
abbrev cX5_takeLetter : ByteArray := prog_7_method_6_code
def yX5_takeLetter : MethodName := ⟨RX5, "takeLetter", "(I)I"⟩
def RX6 : String := "OneLongRow$Word"
def TX6 : u_T := fun k => match k with
  | 0 => ("OneLongRow$Word", "letters", "[I", true)
  | 1 => ("OneLongRow$Word", "length", "I", false)
  | _ => ("OneLongRow$Word", "kind", "I", false)
def tyX6 : Nat → FieldType := fun k => match k with
  | 0 => .array .int
  | 1 => .int
  | _ => .int
abbrev wsX60 : List Cond := u_ws RX6 TX6 3
theorem nmX6 : ∀ a, a < 3 → ∀ b, b < 3 → a ≠ b → (TX6 a).2.1 ≠ (TX6 b).2.1 := by decide +kernel
theorem tyX6_ok : ∀ k, k < 3 → parseFieldDescriptor (TX6 k).2.2.1 = some (tyX6 k) := by decide +kernel
abbrev cX6_init : ByteArray := prog_8_method_1_code
def yX6_init : MethodName := ⟨RX6, "<init>", "()V"⟩
abbrev cX6_become : ByteArray := prog_8_method_2_code
def yX6_become : MethodName := ⟨RX6, "become", "(LOneLongRow$Word;)V"⟩
abbrev cX6_changeLast : ByteArray := prog_8_method_3_code
def yX6_changeLast : MethodName := ⟨RX6, "changeLast", "(I)V"⟩
abbrev cX6_letterOf : ByteArray := prog_8_method_4_code
def yX6_letterOf : MethodName := ⟨RX6, "letterOf", "(II)I"⟩
abbrev cX6_unlikeForms : ByteArray := prog_8_method_5_code
def yX6_unlikeForms : MethodName := ⟨RX6, "unlikeForms", "()I"⟩
abbrev cX6_formEndsAt : ByteArray := prog_8_method_6_code
def yX6_formEndsAt : MethodName := ⟨RX6, "formEndsAt", "(I[II)Z"⟩
abbrev cX6_endsAt : ByteArray := prog_8_method_7_code
def yX6_endsAt : MethodName := ⟨RX6, "endsAt", "([II)Z"⟩
abbrev cX6_standsIn : ByteArray := prog_8_method_8_code
def yX6_standsIn : MethodName := ⟨RX6, "standsIn", "([II)Z"⟩
abbrev cX6_timesIn : ByteArray := prog_8_method_9_code
def yX6_timesIn : MethodName := ⟨RX6, "timesIn", "([II)I"⟩
abbrev cX6_lettersOver : ByteArray := prog_8_method_10_code
def yX6_lettersOver : MethodName := ⟨RX6, "lettersOver", "(LOneLongRow$Word;)I"⟩
abbrev cX6_liesOver : ByteArray := prog_8_method_11_code
def yX6_liesOver : MethodName := ⟨RX6, "liesOver", "(LOneLongRow$Word;I)Z"⟩
def RX7 : String := "OneLongRow"
def TX7 : u_T := fun k => match k with
  | 0 => ("OneLongRow", "sheets", "[LOneLongRow$Sheet;", true)
  | 1 => ("OneLongRow", "text", "LOneLongRow$Text;", true)
  | 2 => ("OneLongRow", "known", "[LOneLongRow$Word;", false)
  | 3 => ("OneLongRow", "knownMany", "I", false)
  | 4 => ("OneLongRow", "said", "[I", true)
  | 5 => ("OneLongRow", "saidMany", "I", false)
  | 6 => ("OneLongRow", "told", "[I", true)
  | 7 => ("OneLongRow", "readings", "[LOneLongRow$Reading;", true)
  | 8 => ("OneLongRow", "readingMany", "I", false)
  | 9 => ("OneLongRow", "trial", "LOneLongRow$Word;", true)
  | 10 => ("OneLongRow", "formLetters", "[I", true)
  | 11 => ("OneLongRow", "net", "LOneLongRow$Net;", true)
  | 12 => ("OneLongRow", "points", "LOneLongRow$Points;", true)
  | 13 => ("OneLongRow", "counts", "LOneLongRow$Counts;", true)
  | 14 => ("OneLongRow", "netIsOld", "Z", false)
  | 15 => ("OneLongRow", "traced", "I", false)
  | _ => ("OneLongRow", "latestFault", "I", false)
def tyX7 : Nat → FieldType := fun k => match k with
  | 0 => .array (.object "OneLongRow$Sheet")
  | 1 => .object "OneLongRow$Text"
  | 2 => .array (.object "OneLongRow$Word")
  | 3 => .int
  | 4 => .array .int
  | 5 => .int
  | 6 => .array .int
  | 7 => .array (.object "OneLongRow$Reading")
  | 8 => .int
  | 9 => .object "OneLongRow$Word"
  | 10 => .array .int
  | 11 => .object "OneLongRow$Net"
  | 12 => .object "OneLongRow$Points"
  | 13 => .object "OneLongRow$Counts"
  | 14 => .boolean
  | 15 => .int
  | _ => .int
abbrev wsX70 : List Cond := u_ws RX7 TX7 17
theorem nmX7 : ∀ a, a < 17 → ∀ b, b < 17 → a ≠ b → (TX7 a).2.1 ≠ (TX7 b).2.1 := by decide +kernel
theorem tyX7_ok : ∀ k, k < 17 → parseFieldDescriptor (TX7 k).2.2.1 = some (tyX7 k) := by decide +kernel
abbrev cX7_init : ByteArray := prog_1_method_1_code
def yX7_init : MethodName := ⟨RX7, "<init>", "()V"⟩
abbrev cX7_words : ByteArray := prog_1_method_2_code
def yX7_words : MethodName := ⟨RX7, "words", "(IIII)I"⟩
abbrev cX7_ofWord : ByteArray := prog_1_method_3_code
def yX7_ofWord : MethodName := ⟨RX7, "ofWord", "(II)I"⟩
abbrev cX7_spell : ByteArray := prog_1_method_4_code
def yX7_spell : MethodName := ⟨RX7, "spell", "(III)I"⟩
abbrev cX7_say : ByteArray := prog_1_method_5_code
def yX7_say : MethodName := ⟨RX7, "say", "(I)I"⟩
abbrev cX7_hush : ByteArray := prog_1_method_6_code
def yX7_hush : MethodName := ⟨RX7, "hush", "()I"⟩
abbrev cX7_row : ByteArray := prog_1_method_7_code
def yX7_row : MethodName := ⟨RX7, "row", "(IIIII)I"⟩
abbrev cX7_over : ByteArray := prog_1_method_8_code
def yX7_over : MethodName := ⟨RX7, "over", "(II)I"⟩
abbrev cX7_all : ByteArray := prog_1_method_9_code
def yX7_all : MethodName := ⟨RX7, "all", "(I)I"⟩
abbrev cX7_have : ByteArray := prog_1_method_10_code
def yX7_have : MethodName := ⟨RX7, "have", "(I)J"⟩
abbrev cX7_free : ByteArray := prog_1_method_11_code
def yX7_free : MethodName := ⟨RX7, "free", "(I)J"⟩
abbrev cX7_longest : ByteArray := prog_1_method_12_code
def yX7_longest : MethodName := ⟨RX7, "longest", "()I"⟩
abbrev cX7_spare : ByteArray := prog_1_method_13_code
def yX7_spare : MethodName := ⟨RX7, "spare", "()I"⟩
abbrev cX7_reading : ByteArray := prog_1_method_14_code
def yX7_reading : MethodName := ⟨RX7, "reading", "(IIIIII)I"⟩
abbrev cX7_back : ByteArray := prog_1_method_15_code
def yX7_back : MethodName := ⟨RX7, "back", "(I)I"⟩
abbrev cX7_kinds : ByteArray := prog_1_method_16_code
def yX7_kinds : MethodName := ⟨RX7, "kinds", "(I)I"⟩
abbrev cX7_lasts : ByteArray := prog_1_method_17_code
def yX7_lasts : MethodName := ⟨RX7, "lasts", "(I)I"⟩
abbrev cX7_odds : ByteArray := prog_1_method_18_code
def yX7_odds : MethodName := ⟨RX7, "odds", "(II)J"⟩
abbrev cX7_sheet : ByteArray := prog_1_method_19_code
def yX7_sheet : MethodName := ⟨RX7, "sheet", "(III)I"⟩
abbrev cX7_lose : ByteArray := prog_1_method_20_code
def yX7_lose : MethodName := ⟨RX7, "lose", "(I)I"⟩
abbrev cX7_put : ByteArray := prog_1_method_21_code
def yX7_put : MethodName := ⟨RX7, "put", "(III)I"⟩
abbrev cX7_cell : ByteArray := prog_1_method_22_code
def yX7_cell : MethodName := ⟨RX7, "cell", "(III)J"⟩
abbrev cX7_copy : ByteArray := prog_1_method_23_code
def yX7_copy : MethodName := ⟨RX7, "copy", "(IIIII)I"⟩
abbrev cX7_tell : ByteArray := prog_1_method_24_code
def yX7_tell : MethodName := ⟨RX7, "tell", "(I)I"⟩
abbrev cX7_spelt : ByteArray := prog_1_method_25_code
def yX7_spelt : MethodName := ⟨RX7, "spelt", "(I)I"⟩
abbrev cX7_as : ByteArray := prog_1_method_26_code
def yX7_as : MethodName := ⟨RX7, "as", "(II)I"⟩
abbrev cX7_trace : ByteArray := prog_1_method_27_code
def yX7_trace : MethodName := ⟨RX7, "trace", "()I"⟩
abbrev cX7_fault : ByteArray := prog_1_method_28_code
def yX7_fault : MethodName := ⟨RX7, "fault", "()I"⟩
abbrev cX7_many : ByteArray := prog_1_method_29_code
def yX7_many : MethodName := ⟨RX7, "many", "(I)I"⟩
abbrev cX7_isBelow : ByteArray := prog_1_method_30_code
def yX7_isBelow : MethodName := ⟨RX7, "isBelow", "(II)Z"⟩
abbrev cX7_isSheet : ByteArray := prog_1_method_31_code
def yX7_isSheet : MethodName := ⟨RX7, "isSheet", "(I)Z"⟩
abbrev cX7_isCounted : ByteArray := prog_1_method_32_code
def yX7_isCounted : MethodName := ⟨RX7, "isCounted", "(I)Z"⟩
abbrev cX7_isOfRow : ByteArray := prog_1_method_33_code
def yX7_isOfRow : MethodName := ⟨RX7, "isOfRow", "(I)Z"⟩
abbrev cX7_isWord : ByteArray := prog_1_method_34_code
def yX7_isWord : MethodName := ⟨RX7, "isWord", "(I)Z"⟩
abbrev cX7_failWith : ByteArray := prog_1_method_35_code
def yX7_failWith : MethodName := ⟨RX7, "failWith", "(I)I"⟩
abbrev cX7_newWords : ByteArray := prog_1_method_36_code
def yX7_newWords : MethodName := ⟨RX7, "newWords", "()[LOneLongRow$Word;"⟩
abbrev cX7_takeText : ByteArray := prog_1_method_37_code
def yX7_takeText : MethodName := ⟨RX7, "takeText", "()V"⟩
abbrev cX7_renewNet : ByteArray := prog_1_method_38_code
def yX7_renewNet : MethodName := ⟨RX7, "renewNet", "()V"⟩
abbrev cX7_heardBy : ByteArray := prog_1_method_39_code
def yX7_heardBy : MethodName := ⟨RX7, "heardBy", "([LOneLongRow$Word;I[II)I"⟩
abbrev cX7_standIn : ByteArray := prog_1_method_40_code
def yX7_standIn : MethodName := ⟨RX7, "standIn", "([II)I"⟩
abbrev cX7_heardInTold : ByteArray := prog_1_method_41_code
def yX7_heardInTold : MethodName := ⟨RX7, "heardInTold", "(II)I"⟩
abbrev cX7_standsInEachForm : ByteArray := prog_1_method_42_code
def yX7_standsInEachForm : MethodName := ⟨RX7, "standsInEachForm", "(LOneLongRow$Word;LOneLongRow$Word;)Z"⟩
abbrev cX7_readingsAreSo : ByteArray := prog_1_method_43_code
def yX7_readingsAreSo : MethodName := ⟨RX7, "readingsAreSo", "(I)Z"⟩
abbrev cX7_leaveTrace : ByteArray := prog_1_method_44_code
def yX7_leaveTrace : MethodName := ⟨RX7, "leaveTrace", "(I)V"⟩
abbrev cX7_tellPlain : ByteArray := prog_1_method_45_code
def yX7_tellPlain : MethodName := ⟨RX7, "tellPlain", "(LOneLongRow$Word;)I"⟩
abbrev cX7_tellBoth : ByteArray := prog_1_method_46_code
def yX7_tellBoth : MethodName := ⟨RX7, "tellBoth", "(LOneLongRow$Word;)I"⟩
abbrev cX7_tellTurned : ByteArray := prog_1_method_47_code
def yX7_tellTurned : MethodName := ⟨RX7, "tellTurned", "(LOneLongRow$Word;)I"⟩
def RX8 : String := "OneLongRowModel"
def TX8 : u_T := fun k => match k with
  | 0 => ("OneLongRowModel", "fault", "I", false)
  | 1 => ("OneLongRowModel", "trace", "I", false)
  | 2 => ("OneLongRowModel", "sorts", "[I", true)
  | 3 => ("OneLongRowModel", "sheetLong", "[I", true)
  | 4 => ("OneLongRowModel", "cells", "[I", true)
  | 5 => ("OneLongRowModel", "words", "I", false)
  | 6 => ("OneLongRowModel", "said", "I", false)
  | 7 => ("OneLongRowModel", "kind", "[I", true)
  | 8 => ("OneLongRowModel", "longOf", "[I", true)
  | 9 => ("OneLongRowModel", "letters", "[I", true)
  | 10 => ("OneLongRowModel", "saidRow", "[I", true)
  | 11 => ("OneLongRowModel", "at", "I", false)
  | 12 => ("OneLongRowModel", "readWords", "I", false)
  | 13 => ("OneLongRowModel", "readKind", "[I", true)
  | 14 => ("OneLongRowModel", "readLong", "[I", true)
  | 15 => ("OneLongRowModel", "readLetters", "[I", true)
  | 16 => ("OneLongRowModel", "looked", "[I", true)
  | 17 => ("OneLongRowModel", "lookedLong", "I", false)
  | 18 => ("OneLongRowModel", "next", "[I", true)
  | 19 => ("OneLongRowModel", "heard", "[I", true)
  | 20 => ("OneLongRowModel", "far", "[I", true)
  | 21 => ("OneLongRowModel", "ways", "[J", true)
  | 22 => ("OneLongRowModel", "waysThen", "[J", true)
  | 23 => ("OneLongRowModel", "isFree", "[I", true)
  | 24 => ("OneLongRowModel", "isFreeThen", "[I", true)
  | 25 => ("OneLongRowModel", "readings", "I", false)
  | 26 => ("OneLongRowModel", "readWord", "[I", true)
  | 27 => ("OneLongRowModel", "readMany", "[I", true)
  | 28 => ("OneLongRowModel", "readStands", "[I", true)
  | _ => ("OneLongRowModel", "readRow", "[I", true)
def tyX8 : Nat → FieldType := fun k => match k with
  | 0 => .int
  | 1 => .int
  | 2 => .array .int
  | 3 => .array .int
  | 4 => .array .int
  | 5 => .int
  | 6 => .int
  | 7 => .array .int
  | 8 => .array .int
  | 9 => .array .int
  | 10 => .array .int
  | 11 => .int
  | 12 => .int
  | 13 => .array .int
  | 14 => .array .int
  | 15 => .array .int
  | 16 => .array .int
  | 17 => .int
  | 18 => .array .int
  | 19 => .array .int
  | 20 => .array .int
  | 21 => .array .long
  | 22 => .array .long
  | 23 => .array .int
  | 24 => .array .int
  | 25 => .int
  | 26 => .array .int
  | 27 => .array .int
  | 28 => .array .int
  | _ => .array .int
abbrev wsX80 : List Cond := u_ws RX8 TX8 30
theorem nmX8 : ∀ a, a < 30 → ∀ b, b < 30 → a ≠ b → (TX8 a).2.1 ≠ (TX8 b).2.1 := by decide +kernel
theorem tyX8_ok : ∀ k, k < 30 → parseFieldDescriptor (TX8 k).2.2.1 = some (tyX8 k) := by decide +kernel
abbrev cX8_init : ByteArray := prog_10_method_1_code
def yX8_init : MethodName := ⟨RX8, "<init>", "()V"⟩
abbrev cX8_fails : ByteArray := prog_10_method_3_code
def yX8_fails : MethodName := ⟨RX8, "fails", "(I)I"⟩
abbrev cX8_lost : ByteArray := prog_10_method_4_code
def yX8_lost : MethodName := ⟨RX8, "lost", "(I)J"⟩
abbrev cX8_within : ByteArray := prog_10_method_5_code
def yX8_within : MethodName := ⟨RX8, "within", "(III)Z"⟩
abbrev cX8_isSheet : ByteArray := prog_10_method_6_code
def yX8_isSheet : MethodName := ⟨RX8, "isSheet", "(I)Z"⟩
abbrev cX8_isSort : ByteArray := prog_10_method_7_code
def yX8_isSort : MethodName := ⟨RX8, "isSort", "(I)Z"⟩
abbrev cX8_against : ByteArray := prog_10_method_8_code
def yX8_against : MethodName := ⟨RX8, "against", "(IIII)I"⟩
abbrev cX8_isWord : ByteArray := prog_10_method_9_code
def yX8_isWord : MethodName := ⟨RX8, "isWord", "(I)Z"⟩
abbrev cX8_isSign : ByteArray := prog_10_method_11_code
def yX8_isSign : MethodName := ⟨RX8, "isSign", "(II)Z"⟩
abbrev cX8_words : ByteArray := prog_10_method_12_code
def yX8_words : MethodName := ⟨RX8, "words", "(IIII)I"⟩
abbrev cX8_readAll : ByteArray := prog_10_method_13_code
def yX8_readAll : MethodName := ⟨RX8, "readAll", "(I)Z"⟩
abbrev cX8_readWord : ByteArray := prog_10_method_14_code
def yX8_readWord : MethodName := ⟨RX8, "readWord", "(II)Z"⟩
abbrev cX8_letterOf : ByteArray := prog_10_method_15_code
def yX8_letterOf : MethodName := ⟨RX8, "letterOf", "(III)I"⟩
abbrev cX8_areForms : ByteArray := prog_10_method_16_code
def yX8_areForms : MethodName := ⟨RX8, "areForms", "(I)Z"⟩
abbrev cX8_isHeard : ByteArray := prog_10_method_17_code
def yX8_isHeard : MethodName := ⟨RX8, "isHeard", "(II)Z"⟩
abbrev cX8_heardBehind : ByteArray := prog_10_method_18_code
def yX8_heardBehind : MethodName := ⟨RX8, "heardBehind", "(I)I"⟩
abbrev cX8_timesHeard : ByteArray := prog_10_method_19_code
def yX8_timesHeard : MethodName := ⟨RX8, "timesHeard", "(I)I"⟩
abbrev cX8_standing : ByteArray := prog_10_method_20_code
def yX8_standing : MethodName := ⟨RX8, "standing", "()I"⟩
abbrev cX8_lookAtSaid : ByteArray := prog_10_method_21_code
def yX8_lookAtSaid : MethodName := ⟨RX8, "lookAtSaid", "()V"⟩
abbrev cX8_lookAtCells : ByteArray := prog_10_method_22_code
def yX8_lookAtCells : MethodName := ⟨RX8, "lookAtCells", "(II)V"⟩
abbrev cX8_ofWord : ByteArray := prog_10_method_23_code
def yX8_ofWord : MethodName := ⟨RX8, "ofWord", "(II)I"⟩
abbrev cX8_spell : ByteArray := prog_10_method_24_code
def yX8_spell : MethodName := ⟨RX8, "spell", "(III)I"⟩
abbrev cX8_say : ByteArray := prog_10_method_25_code
def yX8_say : MethodName := ⟨RX8, "say", "(I)I"⟩
abbrev cX8_hush : ByteArray := prog_10_method_26_code
def yX8_hush : MethodName := ⟨RX8, "hush", "()I"⟩
abbrev cX8_areLetters : ByteArray := prog_10_method_27_code
def yX8_areLetters : MethodName := ⟨RX8, "areLetters", "(II)Z"⟩
abbrev cX8_row : ByteArray := prog_10_method_28_code
def yX8_row : MethodName := ⟨RX8, "row", "(IIIII)I"⟩
abbrev cX8_allHeard : ByteArray := prog_10_method_29_code
def yX8_allHeard : MethodName := ⟨RX8, "allHeard", "()I"⟩
abbrev cX8_heardBy : ByteArray := prog_10_method_30_code
def yX8_heardBy : MethodName := ⟨RX8, "heardBy", "(Z)I"⟩
abbrev cX8_over : ByteArray := prog_10_method_31_code
def yX8_over : MethodName := ⟨RX8, "over", "(II)I"⟩
abbrev cX8_endOf : ByteArray := prog_10_method_32_code
def yX8_endOf : MethodName := ⟨RX8, "endOf", "(I)I"⟩
abbrev cX8_findNext : ByteArray := prog_10_method_33_code
def yX8_findNext : MethodName := ⟨RX8, "findNext", "()V"⟩
abbrev cX8_allWords : ByteArray := prog_10_method_34_code
def yX8_allWords : MethodName := ⟨RX8, "allWords", "()I"⟩
abbrev cX8_findFar : ByteArray := prog_10_method_35_code
def yX8_findFar : MethodName := ⟨RX8, "findFar", "()V"⟩
abbrev cX8_behindLetter : ByteArray := prog_10_method_36_code
def yX8_behindLetter : MethodName := ⟨RX8, "behindLetter", "(II)I"⟩
abbrev cX8_all : ByteArray := prog_10_method_37_code
def yX8_all : MethodName := ⟨RX8, "all", "(I)I"⟩
abbrev cX8_findWays : ByteArray := prog_10_method_38_code
def yX8_findWays : MethodName := ⟨RX8, "findWays", "(I)V"⟩
abbrev cX8_waysWith : ByteArray := prog_10_method_39_code
def yX8_waysWith : MethodName := ⟨RX8, "waysWith", "(I)J"⟩
abbrev cX8_have : ByteArray := prog_10_method_40_code
def yX8_have : MethodName := ⟨RX8, "have", "(I)J"⟩
abbrev cX8_free : ByteArray := prog_10_method_41_code
def yX8_free : MethodName := ⟨RX8, "free", "(I)J"⟩
abbrev cX8_longest : ByteArray := prog_10_method_42_code
def yX8_longest : MethodName := ⟨RX8, "longest", "()I"⟩
abbrev cX8_goesFree : ByteArray := prog_10_method_43_code
def yX8_goesFree : MethodName := ⟨RX8, "goesFree", "()Z"⟩
abbrev cX8_isIn : ByteArray := prog_10_method_44_code
def yX8_isIn : MethodName := ⟨RX8, "isIn", "(II)Z"⟩
abbrev cX8_spare : ByteArray := prog_10_method_45_code
def yX8_spare : MethodName := ⟨RX8, "spare", "()I"⟩
abbrev cX8_reading : ByteArray := prog_10_method_46_code
def yX8_reading : MethodName := ⟨RX8, "reading", "(IIIIII)I"⟩
abbrev cX8_back : ByteArray := prog_10_method_47_code
def yX8_back : MethodName := ⟨RX8, "back", "(I)I"⟩
abbrev cX8_areSo : ByteArray := prog_10_method_48_code
def yX8_areSo : MethodName := ⟨RX8, "areSo", "()Z"⟩
abbrev cX8_kinds : ByteArray := prog_10_method_49_code
def yX8_kinds : MethodName := ⟨RX8, "kinds", "(I)I"⟩
abbrev cX8_lasts : ByteArray := prog_10_method_50_code
def yX8_lasts : MethodName := ⟨RX8, "lasts", "(I)I"⟩
abbrev cX8_inLeastTerms : ByteArray := prog_10_method_51_code
def yX8_inLeastTerms : MethodName := ⟨RX8, "inLeastTerms", "(JJI)J"⟩
abbrev cX8_odds : ByteArray := prog_10_method_52_code
def yX8_odds : MethodName := ⟨RX8, "odds", "(II)J"⟩
abbrev cX8_sheet : ByteArray := prog_10_method_53_code
def yX8_sheet : MethodName := ⟨RX8, "sheet", "(III)I"⟩
abbrev cX8_lose : ByteArray := prog_10_method_54_code
def yX8_lose : MethodName := ⟨RX8, "lose", "(I)I"⟩
abbrev cX8_put : ByteArray := prog_10_method_55_code
def yX8_put : MethodName := ⟨RX8, "put", "(III)I"⟩
abbrev cX8_cell : ByteArray := prog_10_method_56_code
def yX8_cell : MethodName := ⟨RX8, "cell", "(III)J"⟩
abbrev cX8_copy : ByteArray := prog_10_method_57_code
def yX8_copy : MethodName := ⟨RX8, "copy", "(IIIII)I"⟩
abbrev cX8_begins : ByteArray := prog_10_method_58_code
def yX8_begins : MethodName := ⟨RX8, "begins", "(I)V"⟩
abbrev cX8_tell : ByteArray := prog_10_method_59_code
def yX8_tell : MethodName := ⟨RX8, "tell", "(I)I"⟩
abbrev cX8_spelt : ByteArray := prog_10_method_60_code
def yX8_spelt : MethodName := ⟨RX8, "spelt", "(I)I"⟩
abbrev cX8_as : ByteArray := prog_10_method_61_code
def yX8_as : MethodName := ⟨RX8, "as", "(II)I"⟩
abbrev cX8_trace : ByteArray := prog_10_method_62_code
def yX8_trace : MethodName := ⟨RX8, "trace", "()I"⟩
abbrev cX8_fault : ByteArray := prog_10_method_63_code
def yX8_fault : MethodName := ⟨RX8, "fault", "()I"⟩
abbrev cX8_many : ByteArray := prog_10_method_64_code
def yX8_many : MethodName := ⟨RX8, "many", "(I)I"⟩
def RJ6 : String := "java/lang/Integer"
def TJ6 : u_T := fun k => match k with
  | _ => ("", "", "", false)
def tyJ6 : Nat → FieldType := fun k => match k with
  | _ => .int
abbrev wsJ60 : List Cond := u_ws RJ6 TJ6 0
theorem nmJ6 : ∀ a, a < 0 → ∀ b, b < 0 → a ≠ b → (TJ6 a).2.1 ≠ (TJ6 b).2.1 := by decide +kernel
theorem tyJ6_ok : ∀ k, k < 0 → parseFieldDescriptor (TJ6 k).2.2.1 = some (tyJ6 k) := by decide +kernel
abbrev cJ6_bitCount_0f7a4 : ByteArray := prog_11_method_49_code
def yJ6_bitCount_0f7a4 : MethodName := ⟨RJ6, "bitCount", "(I)I"⟩
def RJ9 : String := "java/lang/Math"
def TJ9 : u_T := fun k => match k with
  | _ => ("", "", "", false)
def tyJ9 : Nat → FieldType := fun k => match k with
  | _ => .int
abbrev wsJ90 : List Cond := u_ws RJ9 TJ9 0
theorem nmJ9 : ∀ a, a < 0 → ∀ b, b < 0 → a ≠ b → (TJ9 a).2.1 ≠ (TJ9 b).2.1 := by decide +kernel
theorem tyJ9_ok : ∀ k, k < 0 → parseFieldDescriptor (TJ9 k).2.2.1 = some (tyJ9 k) := by decide +kernel
abbrev cJ9_max_7cf53 : ByteArray := prog_12_method_65_code
def yJ9_max_7cf53 : MethodName := ⟨RJ9, "max", "(II)I"⟩
abbrev cJ9_min_7cf53 : ByteArray := prog_12_method_69_code
def yJ9_min_7cf53 : MethodName := ⟨RJ9, "min", "(II)I"⟩
def RJ10 : String := "java/lang/System"
def TJ10 : u_T := fun k => match k with
  | _ => ("", "", "", false)
def tyJ10 : Nat → FieldType := fun k => match k with
  | _ => .int
abbrev wsJ100 : List Cond := u_ws RJ10 TJ10 0
theorem nmJ10 : ∀ a, a < 0 → ∀ b, b < 0 → a ≠ b → (TJ10 a).2.1 ≠ (TJ10 b).2.1 := by decide +kernel
theorem tyJ10_ok : ∀ k, k < 0 → parseFieldDescriptor (TJ10 k).2.2.1 = some (tyJ10 k) := by decide +kernel
def RJ7 : String := "java/util/Arrays"
def TJ7 : u_T := fun k => match k with
  | _ => ("", "", "", false)
def tyJ7 : Nat → FieldType := fun k => match k with
  | _ => .int
abbrev wsJ70 : List Cond := u_ws RJ7 TJ7 0
theorem nmJ7 : ∀ a, a < 0 → ∀ b, b < 0 → a ≠ b → (TJ7 a).2.1 ≠ (TJ7 b).2.1 := by decide +kernel
theorem tyJ7_ok : ∀ k, k < 0 → parseFieldDescriptor (TJ7 k).2.2.1 = some (tyJ7 k) := by decide +kernel
abbrev cJ7_fill_d0a16 : ByteArray := prog_14_method_101_code
def yJ7_fill_d0a16 : MethodName := ⟨RJ7, "fill", "([JJ)V"⟩
abbrev cJ7_fill_53178 : ByteArray := prog_14_method_103_code
def yJ7_fill_53178 : MethodName := ⟨RJ7, "fill", "([II)V"⟩
def RL : String := "OneLongRowLaw"
abbrev cL_law : ByteArray := code
def yL_law : MethodName := ⟨RL, "law", "([I)Z"⟩
abbrev vwCl : List vw_C := [(RX0, TX0, 5), (RX1, TX1, 6), (RX2, TX2, 8), (RX3, TX3, 4), (RX4, TX4, 4), (RX5, TX5, 2), (RX6, TX6, 3), (RX7, TX7, 17), (RX8, TX8, 30)]
end
section
theorem dX0_init_0 : decode cX0_init 0 = .ok (.aload_n 0, 1) := by decide +kernel
theorem dX0_init_1 : decode cX0_init 1 = .ok (.invokespecial 3, 3) := by decide +kernel
theorem dX0_init_4 : decode cX0_init 4 = .ok (.aload_n 0, 1) := by decide +kernel
theorem dX0_init_5 : decode cX0_init 5 = .ok (.bipush 31, 2) := by decide +kernel
theorem dX0_init_7 : decode cX0_init 7 = .ok (.newarray .long, 2) := by decide +kernel
theorem dX0_init_9 : decode cX0_init 9 = .ok (.putfield 9, 3) := by decide +kernel
theorem dX0_init_12 : decode cX0_init 12 = .ok (.aload_n 0, 1) := by decide +kernel
theorem dX0_init_13 : decode cX0_init 13 = .ok (.bipush 31, 2) := by decide +kernel
theorem dX0_init_15 : decode cX0_init 15 = .ok (.newarray .long, 2) := by decide +kernel
theorem dX0_init_17 : decode cX0_init 17 = .ok (.putfield 15, 3) := by decide +kernel
theorem dX0_init_20 : decode cX0_init 20 = .ok (.aload_n 0, 1) := by decide +kernel
theorem dX0_init_21 : decode cX0_init 21 = .ok (.sipush 320, 3) := by decide +kernel
theorem dX0_init_24 : decode cX0_init 24 = .ok (.newarray .long, 2) := by decide +kernel
theorem dX0_init_26 : decode cX0_init 26 = .ok (.putfield 20, 3) := by decide +kernel
theorem dX0_init_29 : decode cX0_init 29 = .ok (.aload_n 0, 1) := by decide +kernel
theorem dX0_init_30 : decode cX0_init 30 = .ok (.sipush 320, 3) := by decide +kernel
theorem dX0_init_33 : decode cX0_init 33 = .ok (.newarray .long, 2) := by decide +kernel
theorem dX0_init_35 : decode cX0_init 35 = .ok (.putfield 23, 3) := by decide +kernel
theorem dX0_init_38 : decode cX0_init 38 = .ok (.return_, 1) := by decide +kernel
theorem dX0_begin_0 : decode cX0_begin 0 = .ok (.aload_n 0, 1) := by decide +kernel
theorem dX0_begin_1 : decode cX0_begin 1 = .ok (.getfield 20, 3) := by decide +kernel
theorem dX0_begin_4 : decode cX0_begin 4 = .ok (.lconst 0, 1) := by decide +kernel
theorem dX0_begin_5 : decode cX0_begin 5 = .ok (.invokestatic 26, 3) := by decide +kernel
theorem dX0_begin_8 : decode cX0_begin 8 = .ok (.aload_n 0, 1) := by decide +kernel
theorem dX0_begin_9 : decode cX0_begin 9 = .ok (.getfield 20, 3) := by decide +kernel
theorem dX0_begin_12 : decode cX0_begin 12 = .ok (.iconst 0, 1) := by decide +kernel
theorem dX0_begin_13 : decode cX0_begin 13 = .ok (.lconst 1, 1) := by decide +kernel
theorem dX0_begin_14 : decode cX0_begin 14 = .ok (.lastore, 1) := by decide +kernel
theorem dX0_begin_15 : decode cX0_begin 15 = .ok (.aload_n 0, 1) := by decide +kernel
theorem dX0_begin_16 : decode cX0_begin 16 = .ok (.iconst 0, 1) := by decide +kernel
theorem dX0_begin_17 : decode cX0_begin 17 = .ok (.putfield 32, 3) := by decide +kernel
theorem dX0_begin_20 : decode cX0_begin 20 = .ok (.aload_n 0, 1) := by decide +kernel
theorem dX0_begin_21 : decode cX0_begin 21 = .ok (.aload_n 1, 1) := by decide +kernel
theorem dX0_begin_22 : decode cX0_begin 22 = .ok (.invokevirtual 36, 3) := by decide +kernel
theorem dX0_begin_25 : decode cX0_begin 25 = .ok (.return_, 1) := by decide +kernel
theorem dX0_countTo_0 : decode cX0_countTo 0 = .ok (.aload_n 0, 1) := by decide +kernel
theorem dX0_countTo_1 : decode cX0_countTo 1 = .ok (.getfield 32, 3) := by decide +kernel
theorem dX0_countTo_4 : decode cX0_countTo 4 = .ok (.iload_n 2, 1) := by decide +kernel
theorem dX0_countTo_5 : decode cX0_countTo 5 = .ok (.if_icmp .ge 35, 3) := by decide +kernel
theorem dX0_countTo_8 : decode cX0_countTo 8 = .ok (.aload_n 0, 1) := by decide +kernel
theorem dX0_countTo_9 : decode cX0_countTo 9 = .ok (.getfield 32, 3) := by decide +kernel
theorem dX0_countTo_12 : decode cX0_countTo 12 = .ok (.bipush 30, 2) := by decide +kernel
theorem dX0_countTo_14 : decode cX0_countTo 14 = .ok (.if_icmp .ge 26, 3) := by decide +kernel
theorem dX0_countTo_17 : decode cX0_countTo 17 = .ok (.aload_n 0, 1) := by decide +kernel
theorem dX0_countTo_18 : decode cX0_countTo 18 = .ok (.aload_n 1, 1) := by decide +kernel
theorem dX0_countTo_19 : decode cX0_countTo 19 = .ok (.invokevirtual 40, 3) := by decide +kernel
theorem dX0_countTo_22 : decode cX0_countTo 22 = .ok (.aload_n 0, 1) := by decide +kernel
theorem dX0_countTo_23 : decode cX0_countTo 23 = .ok (.dup, 1) := by decide +kernel
theorem dX0_countTo_24 : decode cX0_countTo 24 = .ok (.getfield 32, 3) := by decide +kernel
theorem dX0_countTo_27 : decode cX0_countTo 27 = .ok (.iconst 1, 1) := by decide +kernel
theorem dX0_countTo_28 : decode cX0_countTo 28 = .ok (.iadd, 1) := by decide +kernel
theorem dX0_countTo_29 : decode cX0_countTo 29 = .ok (.putfield 32, 3) := by decide +kernel
theorem dX0_countTo_32 : decode cX0_countTo 32 = .ok (.aload_n 0, 1) := by decide +kernel
theorem dX0_countTo_33 : decode cX0_countTo 33 = .ok (.aload_n 1, 1) := by decide +kernel
theorem dX0_countTo_34 : decode cX0_countTo 34 = .ok (.invokevirtual 36, 3) := by decide +kernel
theorem dX0_countTo_37 : decode cX0_countTo 37 = .ok (.goto (-37), 3) := by decide +kernel
theorem dX0_countTo_40 : decode cX0_countTo 40 = .ok (.return_, 1) := by decide +kernel
theorem dX0_addLetter_0 : decode cX0_addLetter 0 = .ok (.iconst 0, 1) := by decide +kernel
theorem dX0_addLetter_1 : decode cX0_addLetter 1 = .ok (.istore_n 2, 1) := by decide +kernel
theorem dX0_addLetter_2 : decode cX0_addLetter 2 = .ok (.iload_n 2, 1) := by decide +kernel
theorem dX0_addLetter_3 : decode cX0_addLetter 3 = .ok (.aload_n 1, 1) := by decide +kernel
theorem dX0_addLetter_4 : decode cX0_addLetter 4 = .ok (.getfield 43, 3) := by decide +kernel
theorem dX0_addLetter_7 : decode cX0_addLetter 7 = .ok (.if_icmp .ge 16, 3) := by decide +kernel
theorem dX0_addLetter_10 : decode cX0_addLetter 10 = .ok (.aload_n 0, 1) := by decide +kernel
theorem dX0_addLetter_11 : decode cX0_addLetter 11 = .ok (.getfield 23, 3) := by decide +kernel
theorem dX0_addLetter_14 : decode cX0_addLetter 14 = .ok (.iload_n 2, 1) := by decide +kernel
theorem dX0_addLetter_15 : decode cX0_addLetter 15 = .ok (.lconst 0, 1) := by decide +kernel
theorem dX0_addLetter_16 : decode cX0_addLetter 16 = .ok (.lastore, 1) := by decide +kernel
theorem dX0_addLetter_17 : decode cX0_addLetter 17 = .ok (.iinc 2 1, 3) := by decide +kernel
theorem dX0_addLetter_20 : decode cX0_addLetter 20 = .ok (.goto (-18), 3) := by decide +kernel
theorem dX0_addLetter_23 : decode cX0_addLetter 23 = .ok (.iconst 0, 1) := by decide +kernel
theorem dX0_addLetter_24 : decode cX0_addLetter 24 = .ok (.istore_n 2, 1) := by decide +kernel
theorem dX0_addLetter_25 : decode cX0_addLetter 25 = .ok (.iload_n 2, 1) := by decide +kernel
theorem dX0_addLetter_26 : decode cX0_addLetter 26 = .ok (.aload_n 1, 1) := by decide +kernel
theorem dX0_addLetter_27 : decode cX0_addLetter 27 = .ok (.getfield 43, 3) := by decide +kernel
theorem dX0_addLetter_30 : decode cX0_addLetter 30 = .ok (.if_icmp .ge 57, 3) := by decide +kernel
theorem dX0_addLetter_33 : decode cX0_addLetter 33 = .ok (.aload_n 0, 1) := by decide +kernel
theorem dX0_addLetter_34 : decode cX0_addLetter 34 = .ok (.getfield 20, 3) := by decide +kernel
theorem dX0_addLetter_37 : decode cX0_addLetter 37 = .ok (.iload_n 2, 1) := by decide +kernel
theorem dX0_addLetter_38 : decode cX0_addLetter 38 = .ok (.laload, 1) := by decide +kernel
theorem dX0_addLetter_39 : decode cX0_addLetter 39 = .ok (.lstore_n 3, 1) := by decide +kernel
theorem dX0_addLetter_40 : decode cX0_addLetter 40 = .ok (.iconst 0, 1) := by decide +kernel
theorem dX0_addLetter_41 : decode cX0_addLetter 41 = .ok (.istore 5, 2) := by decide +kernel
theorem dX0_addLetter_43 : decode cX0_addLetter 43 = .ok (.iload 5, 2) := by decide +kernel
theorem dX0_addLetter_45 : decode cX0_addLetter 45 = .ok (.iconst 3, 1) := by decide +kernel
theorem dX0_addLetter_46 : decode cX0_addLetter 46 = .ok (.if_icmp .ge 35, 3) := by decide +kernel
theorem dX0_addLetter_49 : decode cX0_addLetter 49 = .ok (.lload_n 3, 1) := by decide +kernel
theorem dX0_addLetter_50 : decode cX0_addLetter 50 = .ok (.lconst 0, 1) := by decide +kernel
theorem dX0_addLetter_51 : decode cX0_addLetter 51 = .ok (.lcmp, 1) := by decide +kernel
theorem dX0_addLetter_52 : decode cX0_addLetter 52 = .ok (.ifCond .le 29, 3) := by decide +kernel
theorem dX0_addLetter_55 : decode cX0_addLetter 55 = .ok (.aload_n 0, 1) := by decide +kernel
theorem dX0_addLetter_56 : decode cX0_addLetter 56 = .ok (.getfield 23, 3) := by decide +kernel
theorem dX0_addLetter_59 : decode cX0_addLetter 59 = .ok (.aload_n 1, 1) := by decide +kernel
theorem dX0_addLetter_60 : decode cX0_addLetter 60 = .ok (.getfield 46, 3) := by decide +kernel
theorem dX0_addLetter_63 : decode cX0_addLetter 63 = .ok (.iconst 3, 1) := by decide +kernel
theorem dX0_addLetter_64 : decode cX0_addLetter 64 = .ok (.iload_n 2, 1) := by decide +kernel
theorem dX0_addLetter_65 : decode cX0_addLetter 65 = .ok (.imul, 1) := by decide +kernel
theorem dX0_addLetter_66 : decode cX0_addLetter 66 = .ok (.iload 5, 2) := by decide +kernel
theorem dX0_addLetter_68 : decode cX0_addLetter 68 = .ok (.iadd, 1) := by decide +kernel
theorem dX0_addLetter_69 : decode cX0_addLetter 69 = .ok (.iaload, 1) := by decide +kernel
theorem dX0_addLetter_70 : decode cX0_addLetter 70 = .ok (.dup2, 1) := by decide +kernel
theorem dX0_addLetter_71 : decode cX0_addLetter 71 = .ok (.laload, 1) := by decide +kernel
theorem dX0_addLetter_72 : decode cX0_addLetter 72 = .ok (.lload_n 3, 1) := by decide +kernel
theorem dX0_addLetter_73 : decode cX0_addLetter 73 = .ok (.ladd, 1) := by decide +kernel
theorem dX0_addLetter_74 : decode cX0_addLetter 74 = .ok (.lastore, 1) := by decide +kernel
theorem dX0_addLetter_75 : decode cX0_addLetter 75 = .ok (.iinc 5 1, 3) := by decide +kernel
theorem dX0_addLetter_78 : decode cX0_addLetter 78 = .ok (.goto (-35), 3) := by decide +kernel
theorem dX0_addLetter_81 : decode cX0_addLetter 81 = .ok (.iinc 2 1, 3) := by decide +kernel
theorem dX0_addLetter_84 : decode cX0_addLetter 84 = .ok (.goto (-59), 3) := by decide +kernel
theorem dX0_addLetter_87 : decode cX0_addLetter 87 = .ok (.aload_n 0, 1) := by decide +kernel
theorem dX0_addLetter_88 : decode cX0_addLetter 88 = .ok (.getfield 20, 3) := by decide +kernel
theorem dX0_addLetter_91 : decode cX0_addLetter 91 = .ok (.astore_n 2, 1) := by decide +kernel
theorem dX0_addLetter_92 : decode cX0_addLetter 92 = .ok (.aload_n 0, 1) := by decide +kernel
theorem dX0_addLetter_93 : decode cX0_addLetter 93 = .ok (.aload_n 0, 1) := by decide +kernel
theorem dX0_addLetter_94 : decode cX0_addLetter 94 = .ok (.getfield 23, 3) := by decide +kernel
theorem dX0_addLetter_97 : decode cX0_addLetter 97 = .ok (.putfield 20, 3) := by decide +kernel
theorem dX0_addLetter_100 : decode cX0_addLetter 100 = .ok (.aload_n 0, 1) := by decide +kernel
theorem dX0_addLetter_101 : decode cX0_addLetter 101 = .ok (.aload_n 2, 1) := by decide +kernel
theorem dX0_addLetter_102 : decode cX0_addLetter 102 = .ok (.putfield 23, 3) := by decide +kernel
theorem dX0_addLetter_105 : decode cX0_addLetter 105 = .ok (.return_, 1) := by decide +kernel
theorem dX0_addUp_0 : decode cX0_addUp 0 = .ok (.lconst 0, 1) := by decide +kernel
theorem dX0_addUp_1 : decode cX0_addUp 1 = .ok (.lstore_n 2, 1) := by decide +kernel
theorem dX0_addUp_2 : decode cX0_addUp 2 = .ok (.iconst 0, 1) := by decide +kernel
theorem dX0_addUp_3 : decode cX0_addUp 3 = .ok (.istore 4, 2) := by decide +kernel
theorem dX0_addUp_5 : decode cX0_addUp 5 = .ok (.iload 4, 2) := by decide +kernel
theorem dX0_addUp_7 : decode cX0_addUp 7 = .ok (.aload_n 1, 1) := by decide +kernel
theorem dX0_addUp_8 : decode cX0_addUp 8 = .ok (.getfield 43, 3) := by decide +kernel
theorem dX0_addUp_11 : decode cX0_addUp 11 = .ok (.if_icmp .ge 28, 3) := by decide +kernel
theorem dX0_addUp_14 : decode cX0_addUp 14 = .ok (.aload_n 1, 1) := by decide +kernel
theorem dX0_addUp_15 : decode cX0_addUp 15 = .ok (.iload 4, 2) := by decide +kernel
theorem dX0_addUp_17 : decode cX0_addUp 17 = .ok (.invokevirtual 50, 3) := by decide +kernel
theorem dX0_addUp_20 : decode cX0_addUp 20 = .ok (.ifCond .eq 13, 3) := by decide +kernel
theorem dX0_addUp_23 : decode cX0_addUp 23 = .ok (.lload_n 2, 1) := by decide +kernel
theorem dX0_addUp_24 : decode cX0_addUp 24 = .ok (.aload_n 0, 1) := by decide +kernel
theorem dX0_addUp_25 : decode cX0_addUp 25 = .ok (.getfield 20, 3) := by decide +kernel
theorem dX0_addUp_28 : decode cX0_addUp 28 = .ok (.iload 4, 2) := by decide +kernel
theorem dX0_addUp_30 : decode cX0_addUp 30 = .ok (.laload, 1) := by decide +kernel
theorem dX0_addUp_31 : decode cX0_addUp 31 = .ok (.ladd, 1) := by decide +kernel
theorem dX0_addUp_32 : decode cX0_addUp 32 = .ok (.lstore_n 2, 1) := by decide +kernel
theorem dX0_addUp_33 : decode cX0_addUp 33 = .ok (.iinc 4 1, 3) := by decide +kernel
theorem dX0_addUp_36 : decode cX0_addUp 36 = .ok (.goto (-31), 3) := by decide +kernel
theorem dX0_addUp_39 : decode cX0_addUp 39 = .ok (.aload_n 0, 1) := by decide +kernel
theorem dX0_addUp_40 : decode cX0_addUp 40 = .ok (.getfield 9, 3) := by decide +kernel
theorem dX0_addUp_43 : decode cX0_addUp 43 = .ok (.aload_n 0, 1) := by decide +kernel
theorem dX0_addUp_44 : decode cX0_addUp 44 = .ok (.getfield 32, 3) := by decide +kernel
theorem dX0_addUp_47 : decode cX0_addUp 47 = .ok (.aload_n 0, 1) := by decide +kernel
theorem dX0_addUp_48 : decode cX0_addUp 48 = .ok (.getfield 20, 3) := by decide +kernel
theorem dX0_addUp_51 : decode cX0_addUp 51 = .ok (.aload_n 1, 1) := by decide +kernel
theorem dX0_addUp_52 : decode cX0_addUp 52 = .ok (.getfield 54, 3) := by decide +kernel
theorem dX0_addUp_55 : decode cX0_addUp 55 = .ok (.laload, 1) := by decide +kernel
theorem dX0_addUp_56 : decode cX0_addUp 56 = .ok (.lastore, 1) := by decide +kernel
theorem dX0_addUp_57 : decode cX0_addUp 57 = .ok (.aload_n 0, 1) := by decide +kernel
theorem dX0_addUp_58 : decode cX0_addUp 58 = .ok (.getfield 15, 3) := by decide +kernel
theorem dX0_addUp_61 : decode cX0_addUp 61 = .ok (.aload_n 0, 1) := by decide +kernel
theorem dX0_addUp_62 : decode cX0_addUp 62 = .ok (.getfield 32, 3) := by decide +kernel
theorem dX0_addUp_65 : decode cX0_addUp 65 = .ok (.lload_n 2, 1) := by decide +kernel
theorem dX0_addUp_66 : decode cX0_addUp 66 = .ok (.lastore, 1) := by decide +kernel
theorem dX0_addUp_67 : decode cX0_addUp 67 = .ok (.return_, 1) := by decide +kernel
theorem dX1_init_0 : decode cX1_init 0 = .ok (.aload_n 0, 1) := by decide +kernel
theorem dX1_init_1 : decode cX1_init 1 = .ok (.invokespecial 3, 3) := by decide +kernel
theorem dX1_init_4 : decode cX1_init 4 = .ok (.aload_n 0, 1) := by decide +kernel
theorem dX1_init_5 : decode cX1_init 5 = .ok (.bipush 121, 2) := by decide +kernel
theorem dX1_init_7 : decode cX1_init 7 = .ok (.newarray .int, 2) := by decide +kernel
theorem dX1_init_9 : decode cX1_init 9 = .ok (.putfield 11, 3) := by decide +kernel
theorem dX1_init_12 : decode cX1_init 12 = .ok (.aload_n 0, 1) := by decide +kernel
theorem dX1_init_13 : decode cX1_init 13 = .ok (.bipush 121, 2) := by decide +kernel
theorem dX1_init_15 : decode cX1_init 15 = .ok (.newarray .int, 2) := by decide +kernel
theorem dX1_init_17 : decode cX1_init 17 = .ok (.putfield 15, 3) := by decide +kernel
theorem dX1_init_20 : decode cX1_init 20 = .ok (.aload_n 0, 1) := by decide +kernel
theorem dX1_init_21 : decode cX1_init 21 = .ok (.bipush 121, 2) := by decide +kernel
theorem dX1_init_23 : decode cX1_init 23 = .ok (.newarray .int, 2) := by decide +kernel
theorem dX1_init_25 : decode cX1_init 25 = .ok (.putfield 18, 3) := by decide +kernel
theorem dX1_init_28 : decode cX1_init 28 = .ok (.aload_n 0, 1) := by decide +kernel
theorem dX1_init_29 : decode cX1_init 29 = .ok (.bipush 40, 2) := by decide +kernel
theorem dX1_init_31 : decode cX1_init 31 = .ok (.newarray .boolean, 2) := by decide +kernel
theorem dX1_init_33 : decode cX1_init 33 = .ok (.putfield 21, 3) := by decide +kernel
theorem dX1_init_36 : decode cX1_init 36 = .ok (.aload_n 0, 1) := by decide +kernel
theorem dX1_init_37 : decode cX1_init 37 = .ok (.iconst 4, 1) := by decide +kernel
theorem dX1_init_38 : decode cX1_init 38 = .ok (.newarray .int, 2) := by decide +kernel
theorem dX1_init_40 : decode cX1_init 40 = .ok (.putfield 25, 3) := by decide +kernel
theorem dX1_init_43 : decode cX1_init 43 = .ok (.iconst 4, 1) := by decide +kernel
theorem dX1_init_44 : decode cX1_init 44 = .ok (.istore_n 1, 1) := by decide +kernel
theorem dX1_init_45 : decode cX1_init 45 = .ok (.iload_n 1, 1) := by decide +kernel
theorem dX1_init_46 : decode cX1_init 46 = .ok (.bipush 121, 2) := by decide +kernel
theorem dX1_init_48 : decode cX1_init 48 = .ok (.if_icmp .ge 33, 3) := by decide +kernel
theorem dX1_init_51 : decode cX1_init 51 = .ok (.aload_n 0, 1) := by decide +kernel
theorem dX1_init_52 : decode cX1_init 52 = .ok (.getfield 11, 3) := by decide +kernel
theorem dX1_init_55 : decode cX1_init 55 = .ok (.iload_n 1, 1) := by decide +kernel
theorem dX1_init_56 : decode cX1_init 56 = .ok (.aload_n 0, 1) := by decide +kernel
theorem dX1_init_57 : decode cX1_init 57 = .ok (.getfield 11, 3) := by decide +kernel
theorem dX1_init_60 : decode cX1_init 60 = .ok (.iload_n 1, 1) := by decide +kernel
theorem dX1_init_61 : decode cX1_init 61 = .ok (.iconst 1, 1) := by decide +kernel
theorem dX1_init_62 : decode cX1_init 62 = .ok (.isub, 1) := by decide +kernel
theorem dX1_init_63 : decode cX1_init 63 = .ok (.iconst 3, 1) := by decide +kernel
theorem dX1_init_64 : decode cX1_init 64 = .ok (.idiv, 1) := by decide +kernel
theorem dX1_init_65 : decode cX1_init 65 = .ok (.iaload, 1) := by decide +kernel
theorem dX1_init_66 : decode cX1_init 66 = .ok (.iload_n 1, 1) := by decide +kernel
theorem dX1_init_67 : decode cX1_init 67 = .ok (.iconst 1, 1) := by decide +kernel
theorem dX1_init_68 : decode cX1_init 68 = .ok (.isub, 1) := by decide +kernel
theorem dX1_init_69 : decode cX1_init 69 = .ok (.iconst 3, 1) := by decide +kernel
theorem dX1_init_70 : decode cX1_init 70 = .ok (.irem, 1) := by decide +kernel
theorem dX1_init_71 : decode cX1_init 71 = .ok (.invokestatic 28, 3) := by decide +kernel
theorem dX1_init_74 : decode cX1_init 74 = .ok (.iastore, 1) := by decide +kernel
theorem dX1_init_75 : decode cX1_init 75 = .ok (.iinc 1 1, 3) := by decide +kernel
theorem dX1_init_78 : decode cX1_init 78 = .ok (.goto (-33), 3) := by decide +kernel
theorem dX1_init_81 : decode cX1_init 81 = .ok (.return_, 1) := by decide +kernel
theorem dX1_behind_0 : decode cX1_behind 0 = .ok (.iconst 3, 1) := by decide +kernel
theorem dX1_behind_1 : decode cX1_behind 1 = .ok (.iload_n 0, 1) := by decide +kernel
theorem dX1_behind_2 : decode cX1_behind 2 = .ok (.imul, 1) := by decide +kernel
theorem dX1_behind_3 : decode cX1_behind 3 = .ok (.iconst 1, 1) := by decide +kernel
theorem dX1_behind_4 : decode cX1_behind 4 = .ok (.iadd, 1) := by decide +kernel
theorem dX1_behind_5 : decode cX1_behind 5 = .ok (.iload_n 1, 1) := by decide +kernel
theorem dX1_behind_6 : decode cX1_behind 6 = .ok (.iadd, 1) := by decide +kernel
theorem dX1_behind_7 : decode cX1_behind 7 = .ok (.ireturn, 1) := by decide +kernel
theorem dX1_learn_0 : decode cX1_learn 0 = .ok (.aload_n 0, 1) := by decide +kernel
theorem dX1_learn_1 : decode cX1_learn 1 = .ok (.iconst 1, 1) := by decide +kernel
theorem dX1_learn_2 : decode cX1_learn 2 = .ok (.iload_n 2, 1) := by decide +kernel
theorem dX1_learn_3 : decode cX1_learn 3 = .ok (.ishl, 1) := by decide +kernel
theorem dX1_learn_4 : decode cX1_learn 4 = .ok (.iconst 1, 1) := by decide +kernel
theorem dX1_learn_5 : decode cX1_learn 5 = .ok (.isub, 1) := by decide +kernel
theorem dX1_learn_6 : decode cX1_learn 6 = .ok (.putfield 32, 3) := by decide +kernel
theorem dX1_learn_9 : decode cX1_learn 9 = .ok (.aload_n 0, 1) := by decide +kernel
theorem dX1_learn_10 : decode cX1_learn 10 = .ok (.aload_n 1, 1) := by decide +kernel
theorem dX1_learn_11 : decode cX1_learn 11 = .ok (.iload_n 2, 1) := by decide +kernel
theorem dX1_learn_12 : decode cX1_learn 12 = .ok (.invokevirtual 36, 3) := by decide +kernel
theorem dX1_learn_15 : decode cX1_learn 15 = .ok (.iconst 0, 1) := by decide +kernel
theorem dX1_learn_16 : decode cX1_learn 16 = .ok (.istore_n 3, 1) := by decide +kernel
theorem dX1_learn_17 : decode cX1_learn 17 = .ok (.iload_n 3, 1) := by decide +kernel
theorem dX1_learn_18 : decode cX1_learn 18 = .ok (.bipush 40, 2) := by decide +kernel
theorem dX1_learn_20 : decode cX1_learn 20 = .ok (.if_icmp .ge 76, 3) := by decide +kernel
theorem dX1_learn_23 : decode cX1_learn 23 = .ok (.iconst 0, 1) := by decide +kernel
theorem dX1_learn_24 : decode cX1_learn 24 = .ok (.istore 4, 2) := by decide +kernel
theorem dX1_learn_26 : decode cX1_learn 26 = .ok (.iload 4, 2) := by decide +kernel
theorem dX1_learn_28 : decode cX1_learn 28 = .ok (.iconst 3, 1) := by decide +kernel
theorem dX1_learn_29 : decode cX1_learn 29 = .ok (.if_icmp .ge 61, 3) := by decide +kernel
theorem dX1_learn_32 : decode cX1_learn 32 = .ok (.aload_n 0, 1) := by decide +kernel
theorem dX1_learn_33 : decode cX1_learn 33 = .ok (.getfield 21, 3) := by decide +kernel
theorem dX1_learn_36 : decode cX1_learn 36 = .ok (.iload_n 3, 1) := by decide +kernel
theorem dX1_learn_37 : decode cX1_learn 37 = .ok (.baload, 1) := by decide +kernel
theorem dX1_learn_38 : decode cX1_learn 38 = .ok (.ifCond .eq 52, 3) := by decide +kernel
theorem dX1_learn_41 : decode cX1_learn 41 = .ok (.iload_n 3, 1) := by decide +kernel
theorem dX1_learn_42 : decode cX1_learn 42 = .ok (.iload 4, 2) := by decide +kernel
theorem dX1_learn_44 : decode cX1_learn 44 = .ok (.invokestatic 28, 3) := by decide +kernel
theorem dX1_learn_47 : decode cX1_learn 47 = .ok (.istore 5, 2) := by decide +kernel
theorem dX1_learn_49 : decode cX1_learn 49 = .ok (.aload_n 0, 1) := by decide +kernel
theorem dX1_learn_50 : decode cX1_learn 50 = .ok (.getfield 15, 3) := by decide +kernel
theorem dX1_learn_53 : decode cX1_learn 53 = .ok (.iload 5, 2) := by decide +kernel
theorem dX1_learn_55 : decode cX1_learn 55 = .ok (.aload_n 1, 1) := by decide +kernel
theorem dX1_learn_56 : decode cX1_learn 56 = .ok (.iload_n 2, 1) := by decide +kernel
theorem dX1_learn_57 : decode cX1_learn 57 = .ok (.aload_n 0, 1) := by decide +kernel
theorem dX1_learn_58 : decode cX1_learn 58 = .ok (.getfield 25, 3) := by decide +kernel
theorem dX1_learn_61 : decode cX1_learn 61 = .ok (.aload_n 0, 1) := by decide +kernel
theorem dX1_learn_62 : decode cX1_learn 62 = .ok (.iload 5, 2) := by decide +kernel
theorem dX1_learn_64 : decode cX1_learn 64 = .ok (.invokevirtual 40, 3) := by decide +kernel
theorem dX1_learn_67 : decode cX1_learn 67 = .ok (.invokestatic 44, 3) := by decide +kernel
theorem dX1_learn_70 : decode cX1_learn 70 = .ok (.iastore, 1) := by decide +kernel
theorem dX1_learn_71 : decode cX1_learn 71 = .ok (.aload_n 0, 1) := by decide +kernel
theorem dX1_learn_72 : decode cX1_learn 72 = .ok (.getfield 18, 3) := by decide +kernel
theorem dX1_learn_75 : decode cX1_learn 75 = .ok (.iload 5, 2) := by decide +kernel
theorem dX1_learn_77 : decode cX1_learn 77 = .ok (.aload_n 0, 1) := by decide +kernel
theorem dX1_learn_78 : decode cX1_learn 78 = .ok (.iload 5, 2) := by decide +kernel
theorem dX1_learn_80 : decode cX1_learn 80 = .ok (.invokevirtual 48, 3) := by decide +kernel
theorem dX1_learn_83 : decode cX1_learn 83 = .ok (.iastore, 1) := by decide +kernel
theorem dX1_learn_84 : decode cX1_learn 84 = .ok (.iinc 4 1, 3) := by decide +kernel
theorem dX1_learn_87 : decode cX1_learn 87 = .ok (.goto (-61), 3) := by decide +kernel
theorem dX1_learn_90 : decode cX1_learn 90 = .ok (.iinc 3 1, 3) := by decide +kernel
theorem dX1_learn_93 : decode cX1_learn 93 = .ok (.goto (-76), 3) := by decide +kernel
theorem dX1_learn_96 : decode cX1_learn 96 = .ok (.return_, 1) := by decide +kernel
theorem dX1_markStays_0 : decode cX1_markStays 0 = .ok (.iconst 0, 1) := by decide +kernel
theorem dX1_markStays_1 : decode cX1_markStays 1 = .ok (.istore_n 3, 1) := by decide +kernel
theorem dX1_markStays_2 : decode cX1_markStays 2 = .ok (.iload_n 3, 1) := by decide +kernel
theorem dX1_markStays_3 : decode cX1_markStays 3 = .ok (.bipush 40, 2) := by decide +kernel
theorem dX1_markStays_5 : decode cX1_markStays 5 = .ok (.if_icmp .ge 24, 3) := by decide +kernel
theorem dX1_markStays_8 : decode cX1_markStays 8 = .ok (.aload_n 0, 1) := by decide +kernel
theorem dX1_markStays_9 : decode cX1_markStays 9 = .ok (.getfield 21, 3) := by decide +kernel
theorem dX1_markStays_12 : decode cX1_markStays 12 = .ok (.iload_n 3, 1) := by decide +kernel
theorem dX1_markStays_13 : decode cX1_markStays 13 = .ok (.iload_n 3, 1) := by decide +kernel
theorem dX1_markStays_14 : decode cX1_markStays 14 = .ok (.ifCond .ne 7, 3) := by decide +kernel
theorem dX1_markStays_17 : decode cX1_markStays 17 = .ok (.iconst 1, 1) := by decide +kernel
theorem dX1_markStays_18 : decode cX1_markStays 18 = .ok (.goto 4, 3) := by decide +kernel
theorem dX1_markStays_21 : decode cX1_markStays 21 = .ok (.iconst 0, 1) := by decide +kernel
theorem dX1_markStays_22 : decode cX1_markStays 22 = .ok (.bastore, 1) := by decide +kernel
theorem dX1_markStays_23 : decode cX1_markStays 23 = .ok (.iinc 3 1, 3) := by decide +kernel
theorem dX1_markStays_26 : decode cX1_markStays 26 = .ok (.goto (-24), 3) := by decide +kernel
theorem dX1_markStays_29 : decode cX1_markStays 29 = .ok (.iconst 0, 1) := by decide +kernel
theorem dX1_markStays_30 : decode cX1_markStays 30 = .ok (.istore_n 3, 1) := by decide +kernel
theorem dX1_markStays_31 : decode cX1_markStays 31 = .ok (.iload_n 3, 1) := by decide +kernel
theorem dX1_markStays_32 : decode cX1_markStays 32 = .ok (.iload_n 2, 1) := by decide +kernel
theorem dX1_markStays_33 : decode cX1_markStays 33 = .ok (.if_icmp .ge 33, 3) := by decide +kernel
theorem dX1_markStays_36 : decode cX1_markStays 36 = .ok (.iconst 0, 1) := by decide +kernel
theorem dX1_markStays_37 : decode cX1_markStays 37 = .ok (.istore 4, 2) := by decide +kernel
theorem dX1_markStays_39 : decode cX1_markStays 39 = .ok (.iload 4, 2) := by decide +kernel
theorem dX1_markStays_41 : decode cX1_markStays 41 = .ok (.iconst 2, 1) := by decide +kernel
theorem dX1_markStays_42 : decode cX1_markStays 42 = .ok (.if_icmp .ge 18, 3) := by decide +kernel
theorem dX1_markStays_45 : decode cX1_markStays 45 = .ok (.aload_n 0, 1) := by decide +kernel
theorem dX1_markStays_46 : decode cX1_markStays 46 = .ok (.aload_n 1, 1) := by decide +kernel
theorem dX1_markStays_47 : decode cX1_markStays 47 = .ok (.iload_n 3, 1) := by decide +kernel
theorem dX1_markStays_48 : decode cX1_markStays 48 = .ok (.aaload, 1) := by decide +kernel
theorem dX1_markStays_49 : decode cX1_markStays 49 = .ok (.iload 4, 2) := by decide +kernel
theorem dX1_markStays_51 : decode cX1_markStays 51 = .ok (.invokevirtual 51, 3) := by decide +kernel
theorem dX1_markStays_54 : decode cX1_markStays 54 = .ok (.iinc 4 1, 3) := by decide +kernel
theorem dX1_markStays_57 : decode cX1_markStays 57 = .ok (.goto (-18), 3) := by decide +kernel
theorem dX1_markStays_60 : decode cX1_markStays 60 = .ok (.iinc 3 1, 3) := by decide +kernel
theorem dX1_markStays_63 : decode cX1_markStays 63 = .ok (.goto (-32), 3) := by decide +kernel
theorem dX1_markStays_66 : decode cX1_markStays 66 = .ok (.return_, 1) := by decide +kernel
theorem dX1_markBeginnings_0 : decode cX1_markBeginnings 0 = .ok (.iconst 0, 1) := by decide +kernel
theorem dX1_markBeginnings_1 : decode cX1_markBeginnings 1 = .ok (.istore_n 3, 1) := by decide +kernel
theorem dX1_markBeginnings_2 : decode cX1_markBeginnings 2 = .ok (.iconst 0, 1) := by decide +kernel
theorem dX1_markBeginnings_3 : decode cX1_markBeginnings 3 = .ok (.istore 4, 2) := by decide +kernel
theorem dX1_markBeginnings_5 : decode cX1_markBeginnings 5 = .ok (.iload 4, 2) := by decide +kernel
theorem dX1_markBeginnings_7 : decode cX1_markBeginnings 7 = .ok (.iconst 1, 1) := by decide +kernel
theorem dX1_markBeginnings_8 : decode cX1_markBeginnings 8 = .ok (.iadd, 1) := by decide +kernel
theorem dX1_markBeginnings_9 : decode cX1_markBeginnings 9 = .ok (.aload_n 1, 1) := by decide +kernel
theorem dX1_markBeginnings_10 : decode cX1_markBeginnings 10 = .ok (.getfield 55, 3) := by decide +kernel
theorem dX1_markBeginnings_13 : decode cX1_markBeginnings 13 = .ok (.if_icmp .ge 34, 3) := by decide +kernel
theorem dX1_markBeginnings_16 : decode cX1_markBeginnings 16 = .ok (.iload_n 3, 1) := by decide +kernel
theorem dX1_markBeginnings_17 : decode cX1_markBeginnings 17 = .ok (.aload_n 1, 1) := by decide +kernel
theorem dX1_markBeginnings_18 : decode cX1_markBeginnings 18 = .ok (.iload_n 2, 1) := by decide +kernel
theorem dX1_markBeginnings_19 : decode cX1_markBeginnings 19 = .ok (.iload 4, 2) := by decide +kernel
theorem dX1_markBeginnings_21 : decode cX1_markBeginnings 21 = .ok (.invokevirtual 60, 3) := by decide +kernel
theorem dX1_markBeginnings_24 : decode cX1_markBeginnings 24 = .ok (.invokestatic 28, 3) := by decide +kernel
theorem dX1_markBeginnings_27 : decode cX1_markBeginnings 27 = .ok (.istore_n 3, 1) := by decide +kernel
theorem dX1_markBeginnings_28 : decode cX1_markBeginnings 28 = .ok (.iload_n 3, 1) := by decide +kernel
theorem dX1_markBeginnings_29 : decode cX1_markBeginnings 29 = .ok (.bipush 40, 2) := by decide +kernel
theorem dX1_markBeginnings_31 : decode cX1_markBeginnings 31 = .ok (.if_icmp .ge 10, 3) := by decide +kernel
theorem dX1_markBeginnings_34 : decode cX1_markBeginnings 34 = .ok (.aload_n 0, 1) := by decide +kernel
theorem dX1_markBeginnings_35 : decode cX1_markBeginnings 35 = .ok (.getfield 21, 3) := by decide +kernel
theorem dX1_markBeginnings_38 : decode cX1_markBeginnings 38 = .ok (.iload_n 3, 1) := by decide +kernel
theorem dX1_markBeginnings_39 : decode cX1_markBeginnings 39 = .ok (.iconst 1, 1) := by decide +kernel
theorem dX1_markBeginnings_40 : decode cX1_markBeginnings 40 = .ok (.bastore, 1) := by decide +kernel
theorem dX1_markBeginnings_41 : decode cX1_markBeginnings 41 = .ok (.iinc 4 1, 3) := by decide +kernel
theorem dX1_markBeginnings_44 : decode cX1_markBeginnings 44 = .ok (.goto (-39), 3) := by decide +kernel
theorem dX1_markBeginnings_47 : decode cX1_markBeginnings 47 = .ok (.return_, 1) := by decide +kernel
theorem dX1_layTrail_0 : decode cX1_layTrail 0 = .ok (.iconst 0, 1) := by decide +kernel
theorem dX1_layTrail_1 : decode cX1_layTrail 1 = .ok (.istore_n 2, 1) := by decide +kernel
theorem dX1_layTrail_2 : decode cX1_layTrail 2 = .ok (.iload_n 1, 1) := by decide +kernel
theorem dX1_layTrail_3 : decode cX1_layTrail 3 = .ok (.istore_n 3, 1) := by decide +kernel
theorem dX1_layTrail_4 : decode cX1_layTrail 4 = .ok (.iload_n 3, 1) := by decide +kernel
theorem dX1_layTrail_5 : decode cX1_layTrail 5 = .ok (.ifCond .le 20, 3) := by decide +kernel
theorem dX1_layTrail_8 : decode cX1_layTrail 8 = .ok (.iload_n 2, 1) := by decide +kernel
theorem dX1_layTrail_9 : decode cX1_layTrail 9 = .ok (.iconst 4, 1) := by decide +kernel
theorem dX1_layTrail_10 : decode cX1_layTrail 10 = .ok (.if_icmp .ge 15, 3) := by decide +kernel
theorem dX1_layTrail_13 : decode cX1_layTrail 13 = .ok (.iinc 2 1, 3) := by decide +kernel
theorem dX1_layTrail_16 : decode cX1_layTrail 16 = .ok (.iload_n 3, 1) := by decide +kernel
theorem dX1_layTrail_17 : decode cX1_layTrail 17 = .ok (.iconst 1, 1) := by decide +kernel
theorem dX1_layTrail_18 : decode cX1_layTrail 18 = .ok (.isub, 1) := by decide +kernel
theorem dX1_layTrail_19 : decode cX1_layTrail 19 = .ok (.iconst 3, 1) := by decide +kernel
theorem dX1_layTrail_20 : decode cX1_layTrail 20 = .ok (.idiv, 1) := by decide +kernel
theorem dX1_layTrail_21 : decode cX1_layTrail 21 = .ok (.istore_n 3, 1) := by decide +kernel
theorem dX1_layTrail_22 : decode cX1_layTrail 22 = .ok (.goto (-18), 3) := by decide +kernel
theorem dX1_layTrail_25 : decode cX1_layTrail 25 = .ok (.iload_n 1, 1) := by decide +kernel
theorem dX1_layTrail_26 : decode cX1_layTrail 26 = .ok (.istore_n 3, 1) := by decide +kernel
theorem dX1_layTrail_27 : decode cX1_layTrail 27 = .ok (.iload_n 2, 1) := by decide +kernel
theorem dX1_layTrail_28 : decode cX1_layTrail 28 = .ok (.iconst 1, 1) := by decide +kernel
theorem dX1_layTrail_29 : decode cX1_layTrail 29 = .ok (.isub, 1) := by decide +kernel
theorem dX1_layTrail_30 : decode cX1_layTrail 30 = .ok (.istore 4, 2) := by decide +kernel
theorem dX1_layTrail_32 : decode cX1_layTrail 32 = .ok (.iload 4, 2) := by decide +kernel
theorem dX1_layTrail_34 : decode cX1_layTrail 34 = .ok (.ifCond .lt 27, 3) := by decide +kernel
theorem dX1_layTrail_37 : decode cX1_layTrail 37 = .ok (.aload_n 0, 1) := by decide +kernel
theorem dX1_layTrail_38 : decode cX1_layTrail 38 = .ok (.getfield 25, 3) := by decide +kernel
theorem dX1_layTrail_41 : decode cX1_layTrail 41 = .ok (.iload 4, 2) := by decide +kernel
theorem dX1_layTrail_43 : decode cX1_layTrail 43 = .ok (.iload_n 3, 1) := by decide +kernel
theorem dX1_layTrail_44 : decode cX1_layTrail 44 = .ok (.iconst 1, 1) := by decide +kernel
theorem dX1_layTrail_45 : decode cX1_layTrail 45 = .ok (.isub, 1) := by decide +kernel
theorem dX1_layTrail_46 : decode cX1_layTrail 46 = .ok (.iconst 3, 1) := by decide +kernel
theorem dX1_layTrail_47 : decode cX1_layTrail 47 = .ok (.irem, 1) := by decide +kernel
theorem dX1_layTrail_48 : decode cX1_layTrail 48 = .ok (.iastore, 1) := by decide +kernel
theorem dX1_layTrail_49 : decode cX1_layTrail 49 = .ok (.iload_n 3, 1) := by decide +kernel
theorem dX1_layTrail_50 : decode cX1_layTrail 50 = .ok (.iconst 1, 1) := by decide +kernel
theorem dX1_layTrail_51 : decode cX1_layTrail 51 = .ok (.isub, 1) := by decide +kernel
theorem dX1_layTrail_52 : decode cX1_layTrail 52 = .ok (.iconst 3, 1) := by decide +kernel
theorem dX1_layTrail_53 : decode cX1_layTrail 53 = .ok (.idiv, 1) := by decide +kernel
theorem dX1_layTrail_54 : decode cX1_layTrail 54 = .ok (.istore_n 3, 1) := by decide +kernel
theorem dX1_layTrail_55 : decode cX1_layTrail 55 = .ok (.iinc 4 (-1), 3) := by decide +kernel
theorem dX1_layTrail_58 : decode cX1_layTrail 58 = .ok (.goto (-26), 3) := by decide +kernel
theorem dX1_layTrail_61 : decode cX1_layTrail 61 = .ok (.iload_n 2, 1) := by decide +kernel
theorem dX1_layTrail_62 : decode cX1_layTrail 62 = .ok (.ireturn, 1) := by decide +kernel
theorem dX1_stayAt_0 : decode cX1_stayAt 0 = .ok (.iload_n 1, 1) := by decide +kernel
theorem dX1_stayAt_1 : decode cX1_stayAt 1 = .ok (.istore_n 2, 1) := by decide +kernel
theorem dX1_stayAt_2 : decode cX1_stayAt 2 = .ok (.iconst 0, 1) := by decide +kernel
theorem dX1_stayAt_3 : decode cX1_stayAt 3 = .ok (.istore_n 3, 1) := by decide +kernel
theorem dX1_stayAt_4 : decode cX1_stayAt 4 = .ok (.iload_n 3, 1) := by decide +kernel
theorem dX1_stayAt_5 : decode cX1_stayAt 5 = .ok (.iconst 4, 1) := by decide +kernel
theorem dX1_stayAt_6 : decode cX1_stayAt 6 = .ok (.if_icmp .ge 31, 3) := by decide +kernel
theorem dX1_stayAt_9 : decode cX1_stayAt 9 = .ok (.iload_n 2, 1) := by decide +kernel
theorem dX1_stayAt_10 : decode cX1_stayAt 10 = .ok (.bipush 40, 2) := by decide +kernel
theorem dX1_stayAt_12 : decode cX1_stayAt 12 = .ok (.if_icmp .ge 12, 3) := by decide +kernel
theorem dX1_stayAt_15 : decode cX1_stayAt 15 = .ok (.aload_n 0, 1) := by decide +kernel
theorem dX1_stayAt_16 : decode cX1_stayAt 16 = .ok (.getfield 21, 3) := by decide +kernel
theorem dX1_stayAt_19 : decode cX1_stayAt 19 = .ok (.iload_n 2, 1) := by decide +kernel
theorem dX1_stayAt_20 : decode cX1_stayAt 20 = .ok (.baload, 1) := by decide +kernel
theorem dX1_stayAt_21 : decode cX1_stayAt 21 = .ok (.ifCond .ne 16, 3) := by decide +kernel
theorem dX1_stayAt_24 : decode cX1_stayAt 24 = .ok (.aload_n 0, 1) := by decide +kernel
theorem dX1_stayAt_25 : decode cX1_stayAt 25 = .ok (.getfield 11, 3) := by decide +kernel
theorem dX1_stayAt_28 : decode cX1_stayAt 28 = .ok (.iload_n 2, 1) := by decide +kernel
theorem dX1_stayAt_29 : decode cX1_stayAt 29 = .ok (.iaload, 1) := by decide +kernel
theorem dX1_stayAt_30 : decode cX1_stayAt 30 = .ok (.istore_n 2, 1) := by decide +kernel
theorem dX1_stayAt_31 : decode cX1_stayAt 31 = .ok (.iinc 3 1, 3) := by decide +kernel
theorem dX1_stayAt_34 : decode cX1_stayAt 34 = .ok (.goto (-30), 3) := by decide +kernel
theorem dX1_stayAt_37 : decode cX1_stayAt 37 = .ok (.iload_n 2, 1) := by decide +kernel
theorem dX1_stayAt_38 : decode cX1_stayAt 38 = .ok (.ireturn, 1) := by decide +kernel
theorem dX1_longestSilent_0 : decode cX1_longestSilent 0 = .ok (.lconst 1, 1) := by decide +kernel
theorem dX1_longestSilent_1 : decode cX1_longestSilent 1 = .ok (.lstore_n 1, 1) := by decide +kernel
theorem dX1_longestSilent_2 : decode cX1_longestSilent 2 = .ok (.iconst 0, 1) := by decide +kernel
theorem dX1_longestSilent_3 : decode cX1_longestSilent 3 = .ok (.istore_n 3, 1) := by decide +kernel
theorem dX1_longestSilent_4 : decode cX1_longestSilent 4 = .ok (.iload_n 3, 1) := by decide +kernel
theorem dX1_longestSilent_5 : decode cX1_longestSilent 5 = .ok (.bipush 40, 2) := by decide +kernel
theorem dX1_longestSilent_7 : decode cX1_longestSilent 7 = .ok (.if_icmp .gt 23, 3) := by decide +kernel
theorem dX1_longestSilent_10 : decode cX1_longestSilent 10 = .ok (.aload_n 0, 1) := by decide +kernel
theorem dX1_longestSilent_11 : decode cX1_longestSilent 11 = .ok (.lload_n 1, 1) := by decide +kernel
theorem dX1_longestSilent_12 : decode cX1_longestSilent 12 = .ok (.invokevirtual 63, 3) := by decide +kernel
theorem dX1_longestSilent_15 : decode cX1_longestSilent 15 = .ok (.lstore_n 1, 1) := by decide +kernel
theorem dX1_longestSilent_16 : decode cX1_longestSilent 16 = .ok (.lload_n 1, 1) := by decide +kernel
theorem dX1_longestSilent_17 : decode cX1_longestSilent 17 = .ok (.lconst 0, 1) := by decide +kernel
theorem dX1_longestSilent_18 : decode cX1_longestSilent 18 = .ok (.lcmp, 1) := by decide +kernel
theorem dX1_longestSilent_19 : decode cX1_longestSilent 19 = .ok (.ifCond .ne 5, 3) := by decide +kernel
theorem dX1_longestSilent_22 : decode cX1_longestSilent 22 = .ok (.iload_n 3, 1) := by decide +kernel
theorem dX1_longestSilent_23 : decode cX1_longestSilent 23 = .ok (.ireturn, 1) := by decide +kernel
theorem dX1_longestSilent_24 : decode cX1_longestSilent 24 = .ok (.iinc 3 1, 3) := by decide +kernel
theorem dX1_longestSilent_27 : decode cX1_longestSilent 27 = .ok (.goto (-23), 3) := by decide +kernel
theorem dX1_longestSilent_30 : decode cX1_longestSilent 30 = .ok (.bipush (-9), 2) := by decide +kernel
theorem dX1_longestSilent_32 : decode cX1_longestSilent 32 = .ok (.ireturn, 1) := by decide +kernel
theorem dX1_silentlyReachedFrom_0 : decode cX1_silentlyReachedFrom 0 = .ok (.lconst 0, 1) := by decide +kernel
theorem dX1_silentlyReachedFrom_1 : decode cX1_silentlyReachedFrom 1 = .ok (.lstore_n 3, 1) := by decide +kernel
theorem dX1_silentlyReachedFrom_2 : decode cX1_silentlyReachedFrom 2 = .ok (.iconst 0, 1) := by decide +kernel
theorem dX1_silentlyReachedFrom_3 : decode cX1_silentlyReachedFrom 3 = .ok (.istore 5, 2) := by decide +kernel
theorem dX1_silentlyReachedFrom_5 : decode cX1_silentlyReachedFrom 5 = .ok (.iload 5, 2) := by decide +kernel
theorem dX1_silentlyReachedFrom_7 : decode cX1_silentlyReachedFrom 7 = .ok (.bipush 40, 2) := by decide +kernel
theorem dX1_silentlyReachedFrom_9 : decode cX1_silentlyReachedFrom 9 = .ok (.if_icmp .ge 69, 3) := by decide +kernel
theorem dX1_silentlyReachedFrom_12 : decode cX1_silentlyReachedFrom 12 = .ok (.lload_n 1, 1) := by decide +kernel
theorem dX1_silentlyReachedFrom_13 : decode cX1_silentlyReachedFrom 13 = .ok (.iload 5, 2) := by decide +kernel
theorem dX1_silentlyReachedFrom_15 : decode cX1_silentlyReachedFrom 15 = .ok (.lshr, 1) := by decide +kernel
theorem dX1_silentlyReachedFrom_16 : decode cX1_silentlyReachedFrom 16 = .ok (.lconst 1, 1) := by decide +kernel
theorem dX1_silentlyReachedFrom_17 : decode cX1_silentlyReachedFrom 17 = .ok (.land, 1) := by decide +kernel
theorem dX1_silentlyReachedFrom_18 : decode cX1_silentlyReachedFrom 18 = .ok (.lconst 0, 1) := by decide +kernel
theorem dX1_silentlyReachedFrom_19 : decode cX1_silentlyReachedFrom 19 = .ok (.lcmp, 1) := by decide +kernel
theorem dX1_silentlyReachedFrom_20 : decode cX1_silentlyReachedFrom 20 = .ok (.ifCond .ne 6, 3) := by decide +kernel
theorem dX1_silentlyReachedFrom_23 : decode cX1_silentlyReachedFrom 23 = .ok (.goto 49, 3) := by decide +kernel
theorem dX1_silentlyReachedFrom_26 : decode cX1_silentlyReachedFrom 26 = .ok (.iconst 0, 1) := by decide +kernel
theorem dX1_silentlyReachedFrom_27 : decode cX1_silentlyReachedFrom 27 = .ok (.istore 6, 2) := by decide +kernel
theorem dX1_silentlyReachedFrom_29 : decode cX1_silentlyReachedFrom 29 = .ok (.iload 6, 2) := by decide +kernel
theorem dX1_silentlyReachedFrom_31 : decode cX1_silentlyReachedFrom 31 = .ok (.iconst 3, 1) := by decide +kernel
theorem dX1_silentlyReachedFrom_32 : decode cX1_silentlyReachedFrom 32 = .ok (.if_icmp .ge 40, 3) := by decide +kernel
theorem dX1_silentlyReachedFrom_35 : decode cX1_silentlyReachedFrom 35 = .ok (.iload 5, 2) := by decide +kernel
theorem dX1_silentlyReachedFrom_37 : decode cX1_silentlyReachedFrom 37 = .ok (.iload 6, 2) := by decide +kernel
theorem dX1_silentlyReachedFrom_39 : decode cX1_silentlyReachedFrom 39 = .ok (.invokestatic 28, 3) := by decide +kernel
theorem dX1_silentlyReachedFrom_42 : decode cX1_silentlyReachedFrom 42 = .ok (.istore 7, 2) := by decide +kernel
theorem dX1_silentlyReachedFrom_44 : decode cX1_silentlyReachedFrom 44 = .ok (.aload_n 0, 1) := by decide +kernel
theorem dX1_silentlyReachedFrom_45 : decode cX1_silentlyReachedFrom 45 = .ok (.getfield 15, 3) := by decide +kernel
theorem dX1_silentlyReachedFrom_48 : decode cX1_silentlyReachedFrom 48 = .ok (.iload 7, 2) := by decide +kernel
theorem dX1_silentlyReachedFrom_50 : decode cX1_silentlyReachedFrom 50 = .ok (.iaload, 1) := by decide +kernel
theorem dX1_silentlyReachedFrom_51 : decode cX1_silentlyReachedFrom 51 = .ok (.ifCond .ne 15, 3) := by decide +kernel
theorem dX1_silentlyReachedFrom_54 : decode cX1_silentlyReachedFrom 54 = .ok (.lload_n 3, 1) := by decide +kernel
theorem dX1_silentlyReachedFrom_55 : decode cX1_silentlyReachedFrom 55 = .ok (.lconst 1, 1) := by decide +kernel
theorem dX1_silentlyReachedFrom_56 : decode cX1_silentlyReachedFrom 56 = .ok (.aload_n 0, 1) := by decide +kernel
theorem dX1_silentlyReachedFrom_57 : decode cX1_silentlyReachedFrom 57 = .ok (.getfield 18, 3) := by decide +kernel
theorem dX1_silentlyReachedFrom_60 : decode cX1_silentlyReachedFrom 60 = .ok (.iload 7, 2) := by decide +kernel
theorem dX1_silentlyReachedFrom_62 : decode cX1_silentlyReachedFrom 62 = .ok (.iaload, 1) := by decide +kernel
theorem dX1_silentlyReachedFrom_63 : decode cX1_silentlyReachedFrom 63 = .ok (.lshl, 1) := by decide +kernel
theorem dX1_silentlyReachedFrom_64 : decode cX1_silentlyReachedFrom 64 = .ok (.lor, 1) := by decide +kernel
theorem dX1_silentlyReachedFrom_65 : decode cX1_silentlyReachedFrom 65 = .ok (.lstore_n 3, 1) := by decide +kernel
theorem dX1_silentlyReachedFrom_66 : decode cX1_silentlyReachedFrom 66 = .ok (.iinc 6 1, 3) := by decide +kernel
theorem dX1_silentlyReachedFrom_69 : decode cX1_silentlyReachedFrom 69 = .ok (.goto (-40), 3) := by decide +kernel
theorem dX1_silentlyReachedFrom_72 : decode cX1_silentlyReachedFrom 72 = .ok (.iinc 5 1, 3) := by decide +kernel
theorem dX1_silentlyReachedFrom_75 : decode cX1_silentlyReachedFrom 75 = .ok (.goto (-70), 3) := by decide +kernel
theorem dX1_silentlyReachedFrom_78 : decode cX1_silentlyReachedFrom 78 = .ok (.lload_n 3, 1) := by decide +kernel
theorem dX1_silentlyReachedFrom_79 : decode cX1_silentlyReachedFrom 79 = .ok (.lreturn, 1) := by decide +kernel
theorem dX2_init_0 : decode cX2_init 0 = .ok (.aload_n 0, 1) := by decide +kernel
theorem dX2_init_1 : decode cX2_init 1 = .ok (.invokespecial 5, 3) := by decide +kernel
theorem dX2_init_4 : decode cX2_init 4 = .ok (.aload_n 0, 1) := by decide +kernel
theorem dX2_init_5 : decode cX2_init 5 = .ok (.sipush 640, 3) := by decide +kernel
theorem dX2_init_8 : decode cX2_init 8 = .ok (.newarray .int, 2) := by decide +kernel
theorem dX2_init_10 : decode cX2_init 10 = .ok (.putfield 13, 3) := by decide +kernel
theorem dX2_init_13 : decode cX2_init 13 = .ok (.aload_n 0, 1) := by decide +kernel
theorem dX2_init_14 : decode cX2_init 14 = .ok (.sipush 320, 3) := by decide +kernel
theorem dX2_init_17 : decode cX2_init 17 = .ok (.newarray .int, 2) := by decide +kernel
theorem dX2_init_19 : decode cX2_init 19 = .ok (.putfield 17, 3) := by decide +kernel
theorem dX2_init_22 : decode cX2_init 22 = .ok (.aload_n 0, 1) := by decide +kernel
theorem dX2_init_23 : decode cX2_init 23 = .ok (.sipush 320, 3) := by decide +kernel
theorem dX2_init_26 : decode cX2_init 26 = .ok (.newarray .int, 2) := by decide +kernel
theorem dX2_init_28 : decode cX2_init 28 = .ok (.putfield 20, 3) := by decide +kernel
theorem dX2_init_31 : decode cX2_init 31 = .ok (.aload_n 0, 1) := by decide +kernel
theorem dX2_init_32 : decode cX2_init 32 = .ok (.sipush 960, 3) := by decide +kernel
theorem dX2_init_35 : decode cX2_init 35 = .ok (.newarray .int, 2) := by decide +kernel
theorem dX2_init_37 : decode cX2_init 37 = .ok (.putfield 23, 3) := by decide +kernel
theorem dX2_init_40 : decode cX2_init 40 = .ok (.aload_n 0, 1) := by decide +kernel
theorem dX2_init_41 : decode cX2_init 41 = .ok (.bipush 16, 2) := by decide +kernel
theorem dX2_init_43 : decode cX2_init 43 = .ok (.newarray .int, 2) := by decide +kernel
theorem dX2_init_45 : decode cX2_init 45 = .ok (.putfield 26, 3) := by decide +kernel
theorem dX2_init_48 : decode cX2_init 48 = .ok (.return_, 1) := by decide +kernel
theorem dX2_lay_0 : decode cX2_lay 0 = .ok (.aload_n 0, 1) := by decide +kernel
theorem dX2_lay_1 : decode cX2_lay 1 = .ok (.getfield 13, 3) := by decide +kernel
theorem dX2_lay_4 : decode cX2_lay 4 = .ok (.bipush (-9), 2) := by decide +kernel
theorem dX2_lay_6 : decode cX2_lay 6 = .ok (.invokestatic 29, 3) := by decide +kernel
theorem dX2_lay_9 : decode cX2_lay 9 = .ok (.aload_n 0, 1) := by decide +kernel
theorem dX2_lay_10 : decode cX2_lay 10 = .ok (.iconst 0, 1) := by decide +kernel
theorem dX2_lay_11 : decode cX2_lay 11 = .ok (.putfield 35, 3) := by decide +kernel
theorem dX2_lay_14 : decode cX2_lay 14 = .ok (.aload_n 0, 1) := by decide +kernel
theorem dX2_lay_15 : decode cX2_lay 15 = .ok (.iconst 0, 1) := by decide +kernel
theorem dX2_lay_16 : decode cX2_lay 16 = .ok (.iconst 0, 1) := by decide +kernel
theorem dX2_lay_17 : decode cX2_lay 17 = .ok (.invokevirtual 39, 3) := by decide +kernel
theorem dX2_lay_20 : decode cX2_lay 20 = .ok (.pop, 1) := by decide +kernel
theorem dX2_lay_21 : decode cX2_lay 21 = .ok (.iconst 0, 1) := by decide +kernel
theorem dX2_lay_22 : decode cX2_lay 22 = .ok (.istore_n 2, 1) := by decide +kernel
theorem dX2_lay_23 : decode cX2_lay 23 = .ok (.iload_n 2, 1) := by decide +kernel
theorem dX2_lay_24 : decode cX2_lay 24 = .ok (.aload_n 0, 1) := by decide +kernel
theorem dX2_lay_25 : decode cX2_lay 25 = .ok (.getfield 35, 3) := by decide +kernel
theorem dX2_lay_28 : decode cX2_lay 28 = .ok (.if_icmp .ge 46, 3) := by decide +kernel
theorem dX2_lay_31 : decode cX2_lay 31 = .ok (.iload_n 2, 1) := by decide +kernel
theorem dX2_lay_32 : decode cX2_lay 32 = .ok (.sipush 320, 3) := by decide +kernel
theorem dX2_lay_35 : decode cX2_lay 35 = .ok (.if_icmp .ge 39, 3) := by decide +kernel
theorem dX2_lay_38 : decode cX2_lay 38 = .ok (.iconst 0, 1) := by decide +kernel
theorem dX2_lay_39 : decode cX2_lay 39 = .ok (.istore_n 3, 1) := by decide +kernel
theorem dX2_lay_40 : decode cX2_lay 40 = .ok (.iload_n 3, 1) := by decide +kernel
theorem dX2_lay_41 : decode cX2_lay 41 = .ok (.iconst 3, 1) := by decide +kernel
theorem dX2_lay_42 : decode cX2_lay 42 = .ok (.if_icmp .ge 26, 3) := by decide +kernel
theorem dX2_lay_45 : decode cX2_lay 45 = .ok (.aload_n 0, 1) := by decide +kernel
theorem dX2_lay_46 : decode cX2_lay 46 = .ok (.getfield 23, 3) := by decide +kernel
theorem dX2_lay_49 : decode cX2_lay 49 = .ok (.iconst 3, 1) := by decide +kernel
theorem dX2_lay_50 : decode cX2_lay 50 = .ok (.iload_n 2, 1) := by decide +kernel
theorem dX2_lay_51 : decode cX2_lay 51 = .ok (.imul, 1) := by decide +kernel
theorem dX2_lay_52 : decode cX2_lay 52 = .ok (.iload_n 3, 1) := by decide +kernel
theorem dX2_lay_53 : decode cX2_lay 53 = .ok (.iadd, 1) := by decide +kernel
theorem dX2_lay_54 : decode cX2_lay 54 = .ok (.aload_n 0, 1) := by decide +kernel
theorem dX2_lay_55 : decode cX2_lay 55 = .ok (.aload_n 1, 1) := by decide +kernel
theorem dX2_lay_56 : decode cX2_lay 56 = .ok (.iload_n 2, 1) := by decide +kernel
theorem dX2_lay_57 : decode cX2_lay 57 = .ok (.iload_n 3, 1) := by decide +kernel
theorem dX2_lay_58 : decode cX2_lay 58 = .ok (.invokevirtual 43, 3) := by decide +kernel
theorem dX2_lay_61 : decode cX2_lay 61 = .ok (.iastore, 1) := by decide +kernel
theorem dX2_lay_62 : decode cX2_lay 62 = .ok (.iinc 3 1, 3) := by decide +kernel
theorem dX2_lay_65 : decode cX2_lay 65 = .ok (.goto (-25), 3) := by decide +kernel
theorem dX2_lay_68 : decode cX2_lay 68 = .ok (.iinc 2 1, 3) := by decide +kernel
theorem dX2_lay_71 : decode cX2_lay 71 = .ok (.goto (-48), 3) := by decide +kernel
theorem dX2_lay_74 : decode cX2_lay 74 = .ok (.aload_n 0, 1) := by decide +kernel
theorem dX2_lay_75 : decode cX2_lay 75 = .ok (.iconst 0, 1) := by decide +kernel
theorem dX2_lay_76 : decode cX2_lay 76 = .ok (.aload_n 0, 1) := by decide +kernel
theorem dX2_lay_77 : decode cX2_lay 77 = .ok (.getfield 13, 3) := by decide +kernel
theorem dX2_lay_80 : decode cX2_lay 80 = .ok (.aload_n 1, 1) := by decide +kernel
theorem dX2_lay_81 : decode cX2_lay 81 = .ok (.getfield 47, 3) := by decide +kernel
theorem dX2_lay_84 : decode cX2_lay 84 = .ok (.iaload, 1) := by decide +kernel
theorem dX2_lay_85 : decode cX2_lay 85 = .ok (.invokestatic 50, 3) := by decide +kernel
theorem dX2_lay_88 : decode cX2_lay 88 = .ok (.putfield 55, 3) := by decide +kernel
theorem dX2_lay_91 : decode cX2_lay 91 = .ok (.aload_n 0, 1) := by decide +kernel
theorem dX2_lay_92 : decode cX2_lay 92 = .ok (.invokevirtual 58, 3) := by decide +kernel
theorem dX2_lay_95 : decode cX2_lay 95 = .ok (.return_, 1) := by decide +kernel
theorem dX2_pointAfter_0 : decode cX2_pointAfter 0 = .ok (.aload_n 0, 1) := by decide +kernel
theorem dX2_pointAfter_1 : decode cX2_pointAfter 1 = .ok (.getfield 17, 3) := by decide +kernel
theorem dX2_pointAfter_4 : decode cX2_pointAfter 4 = .ok (.iload_n 2, 1) := by decide +kernel
theorem dX2_pointAfter_5 : decode cX2_pointAfter 5 = .ok (.iaload, 1) := by decide +kernel
theorem dX2_pointAfter_6 : decode cX2_pointAfter 6 = .ok (.bipush 16, 2) := by decide +kernel
theorem dX2_pointAfter_8 : decode cX2_pointAfter 8 = .ok (.idiv, 1) := by decide +kernel
theorem dX2_pointAfter_9 : decode cX2_pointAfter 9 = .ok (.iload_n 3, 1) := by decide +kernel
theorem dX2_pointAfter_10 : decode cX2_pointAfter 10 = .ok (.invokestatic 61, 3) := by decide +kernel
theorem dX2_pointAfter_13 : decode cX2_pointAfter 13 = .ok (.istore 4, 2) := by decide +kernel
theorem dX2_pointAfter_15 : decode cX2_pointAfter 15 = .ok (.aload_n 0, 1) := by decide +kernel
theorem dX2_pointAfter_16 : decode cX2_pointAfter 16 = .ok (.getfield 17, 3) := by decide +kernel
theorem dX2_pointAfter_19 : decode cX2_pointAfter 19 = .ok (.iload_n 2, 1) := by decide +kernel
theorem dX2_pointAfter_20 : decode cX2_pointAfter 20 = .ok (.iaload, 1) := by decide +kernel
theorem dX2_pointAfter_21 : decode cX2_pointAfter 21 = .ok (.bipush 16, 2) := by decide +kernel
theorem dX2_pointAfter_23 : decode cX2_pointAfter 23 = .ok (.irem, 1) := by decide +kernel
theorem dX2_pointAfter_24 : decode cX2_pointAfter 24 = .ok (.istore 5, 2) := by decide +kernel
theorem dX2_pointAfter_26 : decode cX2_pointAfter 26 = .ok (.iload 5, 2) := by decide +kernel
theorem dX2_pointAfter_28 : decode cX2_pointAfter 28 = .ok (.aload_n 1, 1) := by decide +kernel
theorem dX2_pointAfter_29 : decode cX2_pointAfter 29 = .ok (.getfield 47, 3) := by decide +kernel
theorem dX2_pointAfter_32 : decode cX2_pointAfter 32 = .ok (.if_icmp .ne 5, 3) := by decide +kernel
theorem dX2_pointAfter_35 : decode cX2_pointAfter 35 = .ok (.iload_n 2, 1) := by decide +kernel
theorem dX2_pointAfter_36 : decode cX2_pointAfter 36 = .ok (.ireturn, 1) := by decide +kernel
theorem dX2_pointAfter_37 : decode cX2_pointAfter 37 = .ok (.iload 5, 2) := by decide +kernel
theorem dX2_pointAfter_39 : decode cX2_pointAfter 39 = .ok (.aload_n 1, 1) := by decide +kernel
theorem dX2_pointAfter_40 : decode cX2_pointAfter 40 = .ok (.getfield 64, 3) := by decide +kernel
theorem dX2_pointAfter_43 : decode cX2_pointAfter 43 = .ok (.iload 4, 2) := by decide +kernel
theorem dX2_pointAfter_45 : decode cX2_pointAfter 45 = .ok (.iaload, 1) := by decide +kernel
theorem dX2_pointAfter_46 : decode cX2_pointAfter 46 = .ok (.ior, 1) := by decide +kernel
theorem dX2_pointAfter_47 : decode cX2_pointAfter 47 = .ok (.istore 5, 2) := by decide +kernel
theorem dX2_pointAfter_49 : decode cX2_pointAfter 49 = .ok (.iload 5, 2) := by decide +kernel
theorem dX2_pointAfter_51 : decode cX2_pointAfter 51 = .ok (.aload_n 1, 1) := by decide +kernel
theorem dX2_pointAfter_52 : decode cX2_pointAfter 52 = .ok (.getfield 47, 3) := by decide +kernel
theorem dX2_pointAfter_55 : decode cX2_pointAfter 55 = .ok (.if_icmp .ne 7, 3) := by decide +kernel
theorem dX2_pointAfter_58 : decode cX2_pointAfter 58 = .ok (.iconst 0, 1) := by decide +kernel
theorem dX2_pointAfter_59 : decode cX2_pointAfter 59 = .ok (.goto 10, 3) := by decide +kernel
theorem dX2_pointAfter_62 : decode cX2_pointAfter 62 = .ok (.aload_n 1, 1) := by decide +kernel
theorem dX2_pointAfter_63 : decode cX2_pointAfter 63 = .ok (.getfield 67, 3) := by decide +kernel
theorem dX2_pointAfter_66 : decode cX2_pointAfter 66 = .ok (.iload 4, 2) := by decide +kernel
theorem dX2_pointAfter_68 : decode cX2_pointAfter 68 = .ok (.iaload, 1) := by decide +kernel
theorem dX2_pointAfter_69 : decode cX2_pointAfter 69 = .ok (.istore 6, 2) := by decide +kernel
theorem dX2_pointAfter_71 : decode cX2_pointAfter 71 = .ok (.aload_n 0, 1) := by decide +kernel
theorem dX2_pointAfter_72 : decode cX2_pointAfter 72 = .ok (.iload 6, 2) := by decide +kernel
theorem dX2_pointAfter_74 : decode cX2_pointAfter 74 = .ok (.bipush 16, 2) := by decide +kernel
theorem dX2_pointAfter_76 : decode cX2_pointAfter 76 = .ok (.imul, 1) := by decide +kernel
theorem dX2_pointAfter_77 : decode cX2_pointAfter 77 = .ok (.iload 5, 2) := by decide +kernel
theorem dX2_pointAfter_79 : decode cX2_pointAfter 79 = .ok (.iadd, 1) := by decide +kernel
theorem dX2_pointAfter_80 : decode cX2_pointAfter 80 = .ok (.iconst 3, 1) := by decide +kernel
theorem dX2_pointAfter_81 : decode cX2_pointAfter 81 = .ok (.iload_n 2, 1) := by decide +kernel
theorem dX2_pointAfter_82 : decode cX2_pointAfter 82 = .ok (.imul, 1) := by decide +kernel
theorem dX2_pointAfter_83 : decode cX2_pointAfter 83 = .ok (.iload_n 3, 1) := by decide +kernel
theorem dX2_pointAfter_84 : decode cX2_pointAfter 84 = .ok (.iadd, 1) := by decide +kernel
theorem dX2_pointAfter_85 : decode cX2_pointAfter 85 = .ok (.invokevirtual 39, 3) := by decide +kernel
theorem dX2_pointAfter_88 : decode cX2_pointAfter 88 = .ok (.ireturn, 1) := by decide +kernel
theorem dX2_find_0 : decode cX2_find 0 = .ok (.aload_n 0, 1) := by decide +kernel
theorem dX2_find_1 : decode cX2_find 1 = .ok (.getfield 13, 3) := by decide +kernel
theorem dX2_find_4 : decode cX2_find 4 = .ok (.iload_n 1, 1) := by decide +kernel
theorem dX2_find_5 : decode cX2_find 5 = .ok (.iaload, 1) := by decide +kernel
theorem dX2_find_6 : decode cX2_find 6 = .ok (.bipush (-9), 2) := by decide +kernel
theorem dX2_find_8 : decode cX2_find 8 = .ok (.if_icmp .ne 53, 3) := by decide +kernel
theorem dX2_find_11 : decode cX2_find 11 = .ok (.aload_n 0, 1) := by decide +kernel
theorem dX2_find_12 : decode cX2_find 12 = .ok (.getfield 35, 3) := by decide +kernel
theorem dX2_find_15 : decode cX2_find 15 = .ok (.sipush 320, 3) := by decide +kernel
theorem dX2_find_18 : decode cX2_find 18 = .ok (.if_icmp .ge 43, 3) := by decide +kernel
theorem dX2_find_21 : decode cX2_find 21 = .ok (.aload_n 0, 1) := by decide +kernel
theorem dX2_find_22 : decode cX2_find 22 = .ok (.getfield 13, 3) := by decide +kernel
theorem dX2_find_25 : decode cX2_find 25 = .ok (.iload_n 1, 1) := by decide +kernel
theorem dX2_find_26 : decode cX2_find 26 = .ok (.aload_n 0, 1) := by decide +kernel
theorem dX2_find_27 : decode cX2_find 27 = .ok (.getfield 35, 3) := by decide +kernel
theorem dX2_find_30 : decode cX2_find 30 = .ok (.iastore, 1) := by decide +kernel
theorem dX2_find_31 : decode cX2_find 31 = .ok (.aload_n 0, 1) := by decide +kernel
theorem dX2_find_32 : decode cX2_find 32 = .ok (.getfield 17, 3) := by decide +kernel
theorem dX2_find_35 : decode cX2_find 35 = .ok (.aload_n 0, 1) := by decide +kernel
theorem dX2_find_36 : decode cX2_find 36 = .ok (.getfield 35, 3) := by decide +kernel
theorem dX2_find_39 : decode cX2_find 39 = .ok (.iload_n 1, 1) := by decide +kernel
theorem dX2_find_40 : decode cX2_find 40 = .ok (.iastore, 1) := by decide +kernel
theorem dX2_find_41 : decode cX2_find 41 = .ok (.aload_n 0, 1) := by decide +kernel
theorem dX2_find_42 : decode cX2_find 42 = .ok (.getfield 20, 3) := by decide +kernel
theorem dX2_find_45 : decode cX2_find 45 = .ok (.aload_n 0, 1) := by decide +kernel
theorem dX2_find_46 : decode cX2_find 46 = .ok (.getfield 35, 3) := by decide +kernel
theorem dX2_find_49 : decode cX2_find 49 = .ok (.iload_n 2, 1) := by decide +kernel
theorem dX2_find_50 : decode cX2_find 50 = .ok (.iastore, 1) := by decide +kernel
theorem dX2_find_51 : decode cX2_find 51 = .ok (.aload_n 0, 1) := by decide +kernel
theorem dX2_find_52 : decode cX2_find 52 = .ok (.dup, 1) := by decide +kernel
theorem dX2_find_53 : decode cX2_find 53 = .ok (.getfield 35, 3) := by decide +kernel
theorem dX2_find_56 : decode cX2_find 56 = .ok (.iconst 1, 1) := by decide +kernel
theorem dX2_find_57 : decode cX2_find 57 = .ok (.iadd, 1) := by decide +kernel
theorem dX2_find_58 : decode cX2_find 58 = .ok (.putfield 35, 3) := by decide +kernel
theorem dX2_find_61 : decode cX2_find 61 = .ok (.iconst 0, 1) := by decide +kernel
theorem dX2_find_62 : decode cX2_find 62 = .ok (.aload_n 0, 1) := by decide +kernel
theorem dX2_find_63 : decode cX2_find 63 = .ok (.getfield 13, 3) := by decide +kernel
theorem dX2_find_66 : decode cX2_find 66 = .ok (.iload_n 1, 1) := by decide +kernel
theorem dX2_find_67 : decode cX2_find 67 = .ok (.iaload, 1) := by decide +kernel
theorem dX2_find_68 : decode cX2_find 68 = .ok (.invokestatic 50, 3) := by decide +kernel
theorem dX2_find_71 : decode cX2_find 71 = .ok (.ireturn, 1) := by decide +kernel
theorem dX2_isSilent_0 : decode cX2_isSilent 0 = .ok (.aload_n 0, 1) := by decide +kernel
theorem dX2_isSilent_1 : decode cX2_isSilent 1 = .ok (.getfield 17, 3) := by decide +kernel
theorem dX2_isSilent_4 : decode cX2_isSilent 4 = .ok (.iload_n 1, 1) := by decide +kernel
theorem dX2_isSilent_5 : decode cX2_isSilent 5 = .ok (.iaload, 1) := by decide +kernel
theorem dX2_isSilent_6 : decode cX2_isSilent 6 = .ok (.bipush 16, 2) := by decide +kernel
theorem dX2_isSilent_8 : decode cX2_isSilent 8 = .ok (.irem, 1) := by decide +kernel
theorem dX2_isSilent_9 : decode cX2_isSilent 9 = .ok (.ifCond .ne 7, 3) := by decide +kernel
theorem dX2_isSilent_12 : decode cX2_isSilent 12 = .ok (.iconst 1, 1) := by decide +kernel
theorem dX2_isSilent_13 : decode cX2_isSilent 13 = .ok (.goto 4, 3) := by decide +kernel
theorem dX2_isSilent_16 : decode cX2_isSilent 16 = .ok (.iconst 0, 1) := by decide +kernel
theorem dX2_isSilent_17 : decode cX2_isSilent 17 = .ok (.ireturn, 1) := by decide +kernel
theorem dX2_layShortestRow_0 : decode cX2_layShortestRow 0 = .ok (.aload_n 0, 1) := by decide +kernel
theorem dX2_layShortestRow_1 : decode cX2_layShortestRow 1 = .ok (.iconst 0, 1) := by decide +kernel
theorem dX2_layShortestRow_2 : decode cX2_layShortestRow 2 = .ok (.putfield 70, 3) := by decide +kernel
theorem dX2_layShortestRow_5 : decode cX2_layShortestRow 5 = .ok (.aload_n 0, 1) := by decide +kernel
theorem dX2_layShortestRow_6 : decode cX2_layShortestRow 6 = .ok (.getfield 55, 3) := by decide +kernel
theorem dX2_layShortestRow_9 : decode cX2_layShortestRow 9 = .ok (.istore_n 1, 1) := by decide +kernel
theorem dX2_layShortestRow_10 : decode cX2_layShortestRow 10 = .ok (.iload_n 1, 1) := by decide +kernel
theorem dX2_layShortestRow_11 : decode cX2_layShortestRow 11 = .ok (.ifCond .le 34, 3) := by decide +kernel
theorem dX2_layShortestRow_14 : decode cX2_layShortestRow 14 = .ok (.aload_n 0, 1) := by decide +kernel
theorem dX2_layShortestRow_15 : decode cX2_layShortestRow 15 = .ok (.getfield 70, 3) := by decide +kernel
theorem dX2_layShortestRow_18 : decode cX2_layShortestRow 18 = .ok (.bipush 16, 2) := by decide +kernel
theorem dX2_layShortestRow_20 : decode cX2_layShortestRow 20 = .ok (.if_icmp .ge 25, 3) := by decide +kernel
theorem dX2_layShortestRow_23 : decode cX2_layShortestRow 23 = .ok (.aload_n 0, 1) := by decide +kernel
theorem dX2_layShortestRow_24 : decode cX2_layShortestRow 24 = .ok (.dup, 1) := by decide +kernel
theorem dX2_layShortestRow_25 : decode cX2_layShortestRow 25 = .ok (.getfield 70, 3) := by decide +kernel
theorem dX2_layShortestRow_28 : decode cX2_layShortestRow 28 = .ok (.iconst 1, 1) := by decide +kernel
theorem dX2_layShortestRow_29 : decode cX2_layShortestRow 29 = .ok (.iadd, 1) := by decide +kernel
theorem dX2_layShortestRow_30 : decode cX2_layShortestRow 30 = .ok (.putfield 70, 3) := by decide +kernel
theorem dX2_layShortestRow_33 : decode cX2_layShortestRow 33 = .ok (.aload_n 0, 1) := by decide +kernel
theorem dX2_layShortestRow_34 : decode cX2_layShortestRow 34 = .ok (.getfield 20, 3) := by decide +kernel
theorem dX2_layShortestRow_37 : decode cX2_layShortestRow 37 = .ok (.iload_n 1, 1) := by decide +kernel
theorem dX2_layShortestRow_38 : decode cX2_layShortestRow 38 = .ok (.iaload, 1) := by decide +kernel
theorem dX2_layShortestRow_39 : decode cX2_layShortestRow 39 = .ok (.iconst 3, 1) := by decide +kernel
theorem dX2_layShortestRow_40 : decode cX2_layShortestRow 40 = .ok (.idiv, 1) := by decide +kernel
theorem dX2_layShortestRow_41 : decode cX2_layShortestRow 41 = .ok (.istore_n 1, 1) := by decide +kernel
theorem dX2_layShortestRow_42 : decode cX2_layShortestRow 42 = .ok (.goto (-32), 3) := by decide +kernel
theorem dX2_layShortestRow_45 : decode cX2_layShortestRow 45 = .ok (.aload_n 0, 1) := by decide +kernel
theorem dX2_layShortestRow_46 : decode cX2_layShortestRow 46 = .ok (.getfield 55, 3) := by decide +kernel
theorem dX2_layShortestRow_49 : decode cX2_layShortestRow 49 = .ok (.istore_n 1, 1) := by decide +kernel
theorem dX2_layShortestRow_50 : decode cX2_layShortestRow 50 = .ok (.aload_n 0, 1) := by decide +kernel
theorem dX2_layShortestRow_51 : decode cX2_layShortestRow 51 = .ok (.getfield 70, 3) := by decide +kernel
theorem dX2_layShortestRow_54 : decode cX2_layShortestRow 54 = .ok (.iconst 1, 1) := by decide +kernel
theorem dX2_layShortestRow_55 : decode cX2_layShortestRow 55 = .ok (.isub, 1) := by decide +kernel
theorem dX2_layShortestRow_56 : decode cX2_layShortestRow 56 = .ok (.istore_n 2, 1) := by decide +kernel
theorem dX2_layShortestRow_57 : decode cX2_layShortestRow 57 = .ok (.iload_n 2, 1) := by decide +kernel
theorem dX2_layShortestRow_58 : decode cX2_layShortestRow 58 = .ok (.ifCond .lt 32, 3) := by decide +kernel
theorem dX2_layShortestRow_61 : decode cX2_layShortestRow 61 = .ok (.aload_n 0, 1) := by decide +kernel
theorem dX2_layShortestRow_62 : decode cX2_layShortestRow 62 = .ok (.getfield 26, 3) := by decide +kernel
theorem dX2_layShortestRow_65 : decode cX2_layShortestRow 65 = .ok (.iload_n 2, 1) := by decide +kernel
theorem dX2_layShortestRow_66 : decode cX2_layShortestRow 66 = .ok (.aload_n 0, 1) := by decide +kernel
theorem dX2_layShortestRow_67 : decode cX2_layShortestRow 67 = .ok (.getfield 20, 3) := by decide +kernel
theorem dX2_layShortestRow_70 : decode cX2_layShortestRow 70 = .ok (.iload_n 1, 1) := by decide +kernel
theorem dX2_layShortestRow_71 : decode cX2_layShortestRow 71 = .ok (.iaload, 1) := by decide +kernel
theorem dX2_layShortestRow_72 : decode cX2_layShortestRow 72 = .ok (.iconst 3, 1) := by decide +kernel
theorem dX2_layShortestRow_73 : decode cX2_layShortestRow 73 = .ok (.irem, 1) := by decide +kernel
theorem dX2_layShortestRow_74 : decode cX2_layShortestRow 74 = .ok (.iastore, 1) := by decide +kernel
theorem dX2_layShortestRow_75 : decode cX2_layShortestRow 75 = .ok (.aload_n 0, 1) := by decide +kernel
theorem dX2_layShortestRow_76 : decode cX2_layShortestRow 76 = .ok (.getfield 20, 3) := by decide +kernel
theorem dX2_layShortestRow_79 : decode cX2_layShortestRow 79 = .ok (.iload_n 1, 1) := by decide +kernel
theorem dX2_layShortestRow_80 : decode cX2_layShortestRow 80 = .ok (.iaload, 1) := by decide +kernel
theorem dX2_layShortestRow_81 : decode cX2_layShortestRow 81 = .ok (.iconst 3, 1) := by decide +kernel
theorem dX2_layShortestRow_82 : decode cX2_layShortestRow 82 = .ok (.idiv, 1) := by decide +kernel
theorem dX2_layShortestRow_83 : decode cX2_layShortestRow 83 = .ok (.istore_n 1, 1) := by decide +kernel
theorem dX2_layShortestRow_84 : decode cX2_layShortestRow 84 = .ok (.iinc 2 (-1), 3) := by decide +kernel
theorem dX2_layShortestRow_87 : decode cX2_layShortestRow 87 = .ok (.goto (-30), 3) := by decide +kernel
theorem dX2_layShortestRow_90 : decode cX2_layShortestRow 90 = .ok (.return_, 1) := by decide +kernel
theorem dX3_init_0 : decode cX3_init 0 = .ok (.aload_n 0, 1) := by decide +kernel
theorem dX3_init_1 : decode cX3_init 1 = .ok (.invokespecial 3, 3) := by decide +kernel
theorem dX3_init_4 : decode cX3_init 4 = .ok (.aload_n 0, 1) := by decide +kernel
theorem dX3_init_5 : decode cX3_init 5 = .ok (.bipush 8, 2) := by decide +kernel
theorem dX3_init_7 : decode cX3_init 7 = .ok (.newarray .int, 2) := by decide +kernel
theorem dX3_init_9 : decode cX3_init 9 = .ok (.putfield 9, 3) := by decide +kernel
theorem dX3_init_12 : decode cX3_init 12 = .ok (.return_, 1) := by decide +kernel
theorem dX3_keep_0 : decode cX3_keep 0 = .ok (.aload_n 0, 1) := by decide +kernel
theorem dX3_keep_1 : decode cX3_keep 1 = .ok (.iload_n 1, 1) := by decide +kernel
theorem dX3_keep_2 : decode cX3_keep 2 = .ok (.putfield 15, 3) := by decide +kernel
theorem dX3_keep_5 : decode cX3_keep 5 = .ok (.aload_n 0, 1) := by decide +kernel
theorem dX3_keep_6 : decode cX3_keep 6 = .ok (.iload_n 3, 1) := by decide +kernel
theorem dX3_keep_7 : decode cX3_keep 7 = .ok (.putfield 19, 3) := by decide +kernel
theorem dX3_keep_10 : decode cX3_keep 10 = .ok (.aload_n 0, 1) := by decide +kernel
theorem dX3_keep_11 : decode cX3_keep 11 = .ok (.iload 4, 2) := by decide +kernel
theorem dX3_keep_13 : decode cX3_keep 13 = .ok (.putfield 22, 3) := by decide +kernel
theorem dX3_keep_16 : decode cX3_keep 16 = .ok (.aload_n 2, 1) := by decide +kernel
theorem dX3_keep_17 : decode cX3_keep 17 = .ok (.iconst 0, 1) := by decide +kernel
theorem dX3_keep_18 : decode cX3_keep 18 = .ok (.aload_n 0, 1) := by decide +kernel
theorem dX3_keep_19 : decode cX3_keep 19 = .ok (.getfield 9, 3) := by decide +kernel
theorem dX3_keep_22 : decode cX3_keep 22 = .ok (.iconst 0, 1) := by decide +kernel
theorem dX3_keep_23 : decode cX3_keep 23 = .ok (.iload_n 3, 1) := by decide +kernel
theorem dX3_keep_24 : decode cX3_keep 24 = .ok (.invokestatic 26, 3) := by decide +kernel
theorem dX3_keep_27 : decode cX3_keep 27 = .ok (.return_, 1) := by decide +kernel
theorem dX4_init_0 : decode cX4_init 0 = .ok (.aload_n 0, 1) := by decide +kernel
theorem dX4_init_1 : decode cX4_init 1 = .ok (.invokespecial 3, 3) := by decide +kernel
theorem dX4_init_4 : decode cX4_init 4 = .ok (.aload_n 0, 1) := by decide +kernel
theorem dX4_init_5 : decode cX4_init 5 = .ok (.bipush 60, 2) := by decide +kernel
theorem dX4_init_7 : decode cX4_init 7 = .ok (.newarray .int, 2) := by decide +kernel
theorem dX4_init_9 : decode cX4_init 9 = .ok (.putfield 9, 3) := by decide +kernel
theorem dX4_init_12 : decode cX4_init 12 = .ok (.return_, 1) := by decide +kernel
theorem dX4_begin_0 : decode cX4_begin 0 = .ok (.aload_n 0, 1) := by decide +kernel
theorem dX4_begin_1 : decode cX4_begin 1 = .ok (.iconst 1, 1) := by decide +kernel
theorem dX4_begin_2 : decode cX4_begin 2 = .ok (.putfield 15, 3) := by decide +kernel
theorem dX4_begin_5 : decode cX4_begin 5 = .ok (.aload_n 0, 1) := by decide +kernel
theorem dX4_begin_6 : decode cX4_begin 6 = .ok (.iload_n 1, 1) := by decide +kernel
theorem dX4_begin_7 : decode cX4_begin 7 = .ok (.putfield 19, 3) := by decide +kernel
theorem dX4_begin_10 : decode cX4_begin 10 = .ok (.aload_n 0, 1) := by decide +kernel
theorem dX4_begin_11 : decode cX4_begin 11 = .ok (.iload_n 2, 1) := by decide +kernel
theorem dX4_begin_12 : decode cX4_begin 12 = .ok (.putfield 23, 3) := by decide +kernel
theorem dX4_begin_15 : decode cX4_begin 15 = .ok (.aload_n 0, 1) := by decide +kernel
theorem dX4_begin_16 : decode cX4_begin 16 = .ok (.getfield 9, 3) := by decide +kernel
theorem dX4_begin_19 : decode cX4_begin 19 = .ok (.iconst 0, 1) := by decide +kernel
theorem dX4_begin_20 : decode cX4_begin 20 = .ok (.invokestatic 26, 3) := by decide +kernel
theorem dX4_begin_23 : decode cX4_begin 23 = .ok (.return_, 1) := by decide +kernel
theorem dX4_write_0 : decode cX4_write 0 = .ok (.aload_n 0, 1) := by decide +kernel
theorem dX4_write_1 : decode cX4_write 1 = .ok (.getfield 19, 3) := by decide +kernel
theorem dX4_write_4 : decode cX4_write 4 = .ok (.ifCond .ne 14, 3) := by decide +kernel
theorem dX4_write_7 : decode cX4_write 7 = .ok (.aload_n 0, 1) := by decide +kernel
theorem dX4_write_8 : decode cX4_write 8 = .ok (.getfield 9, 3) := by decide +kernel
theorem dX4_write_11 : decode cX4_write 11 = .ok (.iload_n 1, 1) := by decide +kernel
theorem dX4_write_12 : decode cX4_write 12 = .ok (.iload_n 2, 1) := by decide +kernel
theorem dX4_write_13 : decode cX4_write 13 = .ok (.i2b, 1) := by decide +kernel
theorem dX4_write_14 : decode cX4_write 14 = .ok (.iastore, 1) := by decide +kernel
theorem dX4_write_15 : decode cX4_write 15 = .ok (.goto 29, 3) := by decide +kernel
theorem dX4_write_18 : decode cX4_write 18 = .ok (.aload_n 0, 1) := by decide +kernel
theorem dX4_write_19 : decode cX4_write 19 = .ok (.getfield 19, 3) := by decide +kernel
theorem dX4_write_22 : decode cX4_write 22 = .ok (.iconst 1, 1) := by decide +kernel
theorem dX4_write_23 : decode cX4_write 23 = .ok (.if_icmp .ne 14, 3) := by decide +kernel
theorem dX4_write_26 : decode cX4_write 26 = .ok (.aload_n 0, 1) := by decide +kernel
theorem dX4_write_27 : decode cX4_write 27 = .ok (.getfield 9, 3) := by decide +kernel
theorem dX4_write_30 : decode cX4_write 30 = .ok (.iload_n 1, 1) := by decide +kernel
theorem dX4_write_31 : decode cX4_write 31 = .ok (.iload_n 2, 1) := by decide +kernel
theorem dX4_write_32 : decode cX4_write 32 = .ok (.i2s, 1) := by decide +kernel
theorem dX4_write_33 : decode cX4_write 33 = .ok (.iastore, 1) := by decide +kernel
theorem dX4_write_34 : decode cX4_write 34 = .ok (.goto 10, 3) := by decide +kernel
theorem dX4_write_37 : decode cX4_write 37 = .ok (.aload_n 0, 1) := by decide +kernel
theorem dX4_write_38 : decode cX4_write 38 = .ok (.getfield 9, 3) := by decide +kernel
theorem dX4_write_41 : decode cX4_write 41 = .ok (.iload_n 1, 1) := by decide +kernel
theorem dX4_write_42 : decode cX4_write 42 = .ok (.iload_n 2, 1) := by decide +kernel
theorem dX4_write_43 : decode cX4_write 43 = .ok (.iastore, 1) := by decide +kernel
theorem dX4_write_44 : decode cX4_write 44 = .ok (.return_, 1) := by decide +kernel
theorem dX4_hasCells_0 : decode cX4_hasCells 0 = .ok (.iload_n 2, 1) := by decide +kernel
theorem dX4_hasCells_1 : decode cX4_hasCells 1 = .ok (.ifCond .lt 29, 3) := by decide +kernel
theorem dX4_hasCells_4 : decode cX4_hasCells 4 = .ok (.iload_n 1, 1) := by decide +kernel
theorem dX4_hasCells_5 : decode cX4_hasCells 5 = .ok (.ifCond .lt 25, 3) := by decide +kernel
theorem dX4_hasCells_8 : decode cX4_hasCells 8 = .ok (.iload_n 1, 1) := by decide +kernel
theorem dX4_hasCells_9 : decode cX4_hasCells 9 = .ok (.aload_n 0, 1) := by decide +kernel
theorem dX4_hasCells_10 : decode cX4_hasCells 10 = .ok (.getfield 23, 3) := by decide +kernel
theorem dX4_hasCells_13 : decode cX4_hasCells 13 = .ok (.if_icmp .gt 17, 3) := by decide +kernel
theorem dX4_hasCells_16 : decode cX4_hasCells 16 = .ok (.iload_n 2, 1) := by decide +kernel
theorem dX4_hasCells_17 : decode cX4_hasCells 17 = .ok (.aload_n 0, 1) := by decide +kernel
theorem dX4_hasCells_18 : decode cX4_hasCells 18 = .ok (.getfield 23, 3) := by decide +kernel
theorem dX4_hasCells_21 : decode cX4_hasCells 21 = .ok (.iload_n 1, 1) := by decide +kernel
theorem dX4_hasCells_22 : decode cX4_hasCells 22 = .ok (.isub, 1) := by decide +kernel
theorem dX4_hasCells_23 : decode cX4_hasCells 23 = .ok (.if_icmp .gt 7, 3) := by decide +kernel
theorem dX4_hasCells_26 : decode cX4_hasCells 26 = .ok (.iconst 1, 1) := by decide +kernel
theorem dX4_hasCells_27 : decode cX4_hasCells 27 = .ok (.goto 4, 3) := by decide +kernel
theorem dX4_hasCells_30 : decode cX4_hasCells 30 = .ok (.iconst 0, 1) := by decide +kernel
theorem dX4_hasCells_31 : decode cX4_hasCells 31 = .ok (.ireturn, 1) := by decide +kernel
theorem dX4_faultOfLane_0 : decode cX4_faultOfLane 0 = .ok (.aload_n 0, 1) := by decide +kernel
theorem dX4_faultOfLane_1 : decode cX4_faultOfLane 1 = .ok (.getfield 15, 3) := by decide +kernel
theorem dX4_faultOfLane_4 : decode cX4_faultOfLane 4 = .ok (.ifCond .ne 5, 3) := by decide +kernel
theorem dX4_faultOfLane_7 : decode cX4_faultOfLane 7 = .ok (.iconst 1, 1) := by decide +kernel
theorem dX4_faultOfLane_8 : decode cX4_faultOfLane 8 = .ok (.ireturn, 1) := by decide +kernel
theorem dX4_faultOfLane_9 : decode cX4_faultOfLane 9 = .ok (.aload_n 0, 1) := by decide +kernel
theorem dX4_faultOfLane_10 : decode cX4_faultOfLane 10 = .ok (.getfield 19, 3) := by decide +kernel
theorem dX4_faultOfLane_13 : decode cX4_faultOfLane 13 = .ok (.iload_n 1, 1) := by decide +kernel
theorem dX4_faultOfLane_14 : decode cX4_faultOfLane 14 = .ok (.if_icmp .ne 7, 3) := by decide +kernel
theorem dX4_faultOfLane_17 : decode cX4_faultOfLane 17 = .ok (.iconst 0, 1) := by decide +kernel
theorem dX4_faultOfLane_18 : decode cX4_faultOfLane 18 = .ok (.goto 4, 3) := by decide +kernel
theorem dX4_faultOfLane_21 : decode cX4_faultOfLane 21 = .ok (.iconst 2, 1) := by decide +kernel
theorem dX4_faultOfLane_22 : decode cX4_faultOfLane 22 = .ok (.ireturn, 1) := by decide +kernel
theorem dX4_faultOfCells_0 : decode cX4_faultOfCells 0 = .ok (.aload_n 0, 1) := by decide +kernel
theorem dX4_faultOfCells_1 : decode cX4_faultOfCells 1 = .ok (.iload_n 1, 1) := by decide +kernel
theorem dX4_faultOfCells_2 : decode cX4_faultOfCells 2 = .ok (.invokevirtual 32, 3) := by decide +kernel
theorem dX4_faultOfCells_5 : decode cX4_faultOfCells 5 = .ok (.istore 4, 2) := by decide +kernel
theorem dX4_faultOfCells_7 : decode cX4_faultOfCells 7 = .ok (.iload 4, 2) := by decide +kernel
theorem dX4_faultOfCells_9 : decode cX4_faultOfCells 9 = .ok (.ifCond .eq 6, 3) := by decide +kernel
theorem dX4_faultOfCells_12 : decode cX4_faultOfCells 12 = .ok (.iload 4, 2) := by decide +kernel
theorem dX4_faultOfCells_14 : decode cX4_faultOfCells 14 = .ok (.ireturn, 1) := by decide +kernel
theorem dX4_faultOfCells_15 : decode cX4_faultOfCells 15 = .ok (.iload_n 3, 1) := by decide +kernel
theorem dX4_faultOfCells_16 : decode cX4_faultOfCells 16 = .ok (.ifCond .ge 5, 3) := by decide +kernel
theorem dX4_faultOfCells_19 : decode cX4_faultOfCells 19 = .ok (.iconst 4, 1) := by decide +kernel
theorem dX4_faultOfCells_20 : decode cX4_faultOfCells 20 = .ok (.ireturn, 1) := by decide +kernel
theorem dX4_faultOfCells_21 : decode cX4_faultOfCells 21 = .ok (.aload_n 0, 1) := by decide +kernel
theorem dX4_faultOfCells_22 : decode cX4_faultOfCells 22 = .ok (.iload_n 2, 1) := by decide +kernel
theorem dX4_faultOfCells_23 : decode cX4_faultOfCells 23 = .ok (.iload_n 3, 1) := by decide +kernel
theorem dX4_faultOfCells_24 : decode cX4_faultOfCells 24 = .ok (.invokevirtual 36, 3) := by decide +kernel
theorem dX4_faultOfCells_27 : decode cX4_faultOfCells 27 = .ok (.ifCond .eq 7, 3) := by decide +kernel
theorem dX4_faultOfCells_30 : decode cX4_faultOfCells 30 = .ok (.iconst 0, 1) := by decide +kernel
theorem dX4_faultOfCells_31 : decode cX4_faultOfCells 31 = .ok (.goto 4, 3) := by decide +kernel
theorem dX4_faultOfCells_34 : decode cX4_faultOfCells 34 = .ok (.iconst 3, 1) := by decide +kernel
theorem dX4_faultOfCells_35 : decode cX4_faultOfCells 35 = .ok (.ireturn, 1) := by decide +kernel
theorem dX4_lettersTo_0 : decode cX4_lettersTo 0 = .ok (.aload_n 0, 1) := by decide +kernel
theorem dX4_lettersTo_1 : decode cX4_lettersTo 1 = .ok (.iload_n 2, 1) := by decide +kernel
theorem dX4_lettersTo_2 : decode cX4_lettersTo 2 = .ok (.iload_n 3, 1) := by decide +kernel
theorem dX4_lettersTo_3 : decode cX4_lettersTo 3 = .ok (.invokevirtual 36, 3) := by decide +kernel
theorem dX4_lettersTo_6 : decode cX4_lettersTo 6 = .ok (.ifCond .eq 9, 3) := by decide +kernel
theorem dX4_lettersTo_9 : decode cX4_lettersTo 9 = .ok (.iload_n 3, 1) := by decide +kernel
theorem dX4_lettersTo_10 : decode cX4_lettersTo 10 = .ok (.aload_n 1, 1) := by decide +kernel
theorem dX4_lettersTo_11 : decode cX4_lettersTo 11 = .ok (.arraylength, 1) := by decide +kernel
theorem dX4_lettersTo_12 : decode cX4_lettersTo 12 = .ok (.if_icmp .le 5, 3) := by decide +kernel
theorem dX4_lettersTo_15 : decode cX4_lettersTo 15 = .ok (.iconst 0, 1) := by decide +kernel
theorem dX4_lettersTo_16 : decode cX4_lettersTo 16 = .ok (.ireturn, 1) := by decide +kernel
theorem dX4_lettersTo_17 : decode cX4_lettersTo 17 = .ok (.iconst 0, 1) := by decide +kernel
theorem dX4_lettersTo_18 : decode cX4_lettersTo 18 = .ok (.istore 4, 2) := by decide +kernel
theorem dX4_lettersTo_20 : decode cX4_lettersTo 20 = .ok (.iload 4, 2) := by decide +kernel
theorem dX4_lettersTo_22 : decode cX4_lettersTo 22 = .ok (.iload_n 3, 1) := by decide +kernel
theorem dX4_lettersTo_23 : decode cX4_lettersTo 23 = .ok (.if_icmp .ge 40, 3) := by decide +kernel
theorem dX4_lettersTo_26 : decode cX4_lettersTo 26 = .ok (.aload_n 0, 1) := by decide +kernel
theorem dX4_lettersTo_27 : decode cX4_lettersTo 27 = .ok (.getfield 9, 3) := by decide +kernel
theorem dX4_lettersTo_30 : decode cX4_lettersTo 30 = .ok (.iload_n 2, 1) := by decide +kernel
theorem dX4_lettersTo_31 : decode cX4_lettersTo 31 = .ok (.iload 4, 2) := by decide +kernel
theorem dX4_lettersTo_33 : decode cX4_lettersTo 33 = .ok (.iadd, 1) := by decide +kernel
theorem dX4_lettersTo_34 : decode cX4_lettersTo 34 = .ok (.iaload, 1) := by decide +kernel
theorem dX4_lettersTo_35 : decode cX4_lettersTo 35 = .ok (.iconst 3, 1) := by decide +kernel
theorem dX4_lettersTo_36 : decode cX4_lettersTo 36 = .ok (.invokestatic 40, 3) := by decide +kernel
theorem dX4_lettersTo_39 : decode cX4_lettersTo 39 = .ok (.ifCond .ne 5, 3) := by decide +kernel
theorem dX4_lettersTo_42 : decode cX4_lettersTo 42 = .ok (.iconst 0, 1) := by decide +kernel
theorem dX4_lettersTo_43 : decode cX4_lettersTo 43 = .ok (.ireturn, 1) := by decide +kernel
theorem dX4_lettersTo_44 : decode cX4_lettersTo 44 = .ok (.aload_n 1, 1) := by decide +kernel
theorem dX4_lettersTo_45 : decode cX4_lettersTo 45 = .ok (.iload 4, 2) := by decide +kernel
theorem dX4_lettersTo_47 : decode cX4_lettersTo 47 = .ok (.aload_n 0, 1) := by decide +kernel
theorem dX4_lettersTo_48 : decode cX4_lettersTo 48 = .ok (.getfield 9, 3) := by decide +kernel
theorem dX4_lettersTo_51 : decode cX4_lettersTo 51 = .ok (.iload_n 2, 1) := by decide +kernel
theorem dX4_lettersTo_52 : decode cX4_lettersTo 52 = .ok (.iload 4, 2) := by decide +kernel
theorem dX4_lettersTo_54 : decode cX4_lettersTo 54 = .ok (.iadd, 1) := by decide +kernel
theorem dX4_lettersTo_55 : decode cX4_lettersTo 55 = .ok (.iaload, 1) := by decide +kernel
theorem dX4_lettersTo_56 : decode cX4_lettersTo 56 = .ok (.iastore, 1) := by decide +kernel
theorem dX4_lettersTo_57 : decode cX4_lettersTo 57 = .ok (.iinc 4 1, 3) := by decide +kernel
theorem dX4_lettersTo_60 : decode cX4_lettersTo 60 = .ok (.goto (-40), 3) := by decide +kernel
theorem dX4_lettersTo_63 : decode cX4_lettersTo 63 = .ok (.iconst 1, 1) := by decide +kernel
theorem dX4_lettersTo_64 : decode cX4_lettersTo 64 = .ok (.ireturn, 1) := by decide +kernel
theorem dX5_init_0 : decode cX5_init 0 = .ok (.aload_n 0, 1) := by decide +kernel
theorem dX5_init_1 : decode cX5_init 1 = .ok (.invokespecial 3, 3) := by decide +kernel
theorem dX5_init_4 : decode cX5_init 4 = .ok (.aload_n 0, 1) := by decide +kernel
theorem dX5_init_5 : decode cX5_init 5 = .ok (.invokestatic 9, 3) := by decide +kernel
theorem dX5_init_8 : decode cX5_init 8 = .ok (.putfield 13, 3) := by decide +kernel
theorem dX5_init_11 : decode cX5_init 11 = .ok (.return_, 1) := by decide +kernel
theorem dX5_firstFault_0 : decode cX5_firstFault 0 = .ok (.aload_n 1, 1) := by decide +kernel
theorem dX5_firstFault_1 : decode cX5_firstFault 1 = .ok (.iload_n 2, 1) := by decide +kernel
theorem dX5_firstFault_2 : decode cX5_firstFault 2 = .ok (.iload_n 3, 1) := by decide +kernel
theorem dX5_firstFault_3 : decode cX5_firstFault 3 = .ok (.invokevirtual 19, 3) := by decide +kernel
theorem dX5_firstFault_6 : decode cX5_firstFault 6 = .ok (.ifCond .ne 5, 3) := by decide +kernel
theorem dX5_firstFault_9 : decode cX5_firstFault 9 = .ok (.iconst 0, 1) := by decide +kernel
theorem dX5_firstFault_10 : decode cX5_firstFault 10 = .ok (.ireturn, 1) := by decide +kernel
theorem dX5_firstFault_11 : decode cX5_firstFault 11 = .ok (.aload_n 0, 1) := by decide +kernel
theorem dX5_firstFault_12 : decode cX5_firstFault 12 = .ok (.iconst 0, 1) := by decide +kernel
theorem dX5_firstFault_13 : decode cX5_firstFault 13 = .ok (.putfield 25, 3) := by decide +kernel
theorem dX5_firstFault_16 : decode cX5_firstFault 16 = .ok (.iconst 0, 1) := by decide +kernel
theorem dX5_firstFault_17 : decode cX5_firstFault 17 = .ok (.istore 4, 2) := by decide +kernel
theorem dX5_firstFault_19 : decode cX5_firstFault 19 = .ok (.iconst 0, 1) := by decide +kernel
theorem dX5_firstFault_20 : decode cX5_firstFault 20 = .ok (.istore 5, 2) := by decide +kernel
theorem dX5_firstFault_22 : decode cX5_firstFault 22 = .ok (.iload 5, 2) := by decide +kernel
theorem dX5_firstFault_24 : decode cX5_firstFault 24 = .ok (.iload_n 3, 1) := by decide +kernel
theorem dX5_firstFault_25 : decode cX5_firstFault 25 = .ok (.if_icmp .ge 36, 3) := by decide +kernel
theorem dX5_firstFault_28 : decode cX5_firstFault 28 = .ok (.aload_n 0, 1) := by decide +kernel
theorem dX5_firstFault_29 : decode cX5_firstFault 29 = .ok (.iload 4, 2) := by decide +kernel
theorem dX5_firstFault_31 : decode cX5_firstFault 31 = .ok (.aload_n 1, 1) := by decide +kernel
theorem dX5_firstFault_32 : decode cX5_firstFault 32 = .ok (.getfield 29, 3) := by decide +kernel
theorem dX5_firstFault_35 : decode cX5_firstFault 35 = .ok (.iload_n 2, 1) := by decide +kernel
theorem dX5_firstFault_36 : decode cX5_firstFault 36 = .ok (.iload 5, 2) := by decide +kernel
theorem dX5_firstFault_38 : decode cX5_firstFault 38 = .ok (.iadd, 1) := by decide +kernel
theorem dX5_firstFault_39 : decode cX5_firstFault 39 = .ok (.iaload, 1) := by decide +kernel
theorem dX5_firstFault_40 : decode cX5_firstFault 40 = .ok (.invokevirtual 33, 3) := by decide +kernel
theorem dX5_firstFault_43 : decode cX5_firstFault 43 = .ok (.istore 4, 2) := by decide +kernel
theorem dX5_firstFault_45 : decode cX5_firstFault 45 = .ok (.iload 4, 2) := by decide +kernel
theorem dX5_firstFault_47 : decode cX5_firstFault 47 = .ok (.bipush 6, 2) := by decide +kernel
theorem dX5_firstFault_49 : decode cX5_firstFault 49 = .ok (.if_icmp .ne 6, 3) := by decide +kernel
theorem dX5_firstFault_52 : decode cX5_firstFault 52 = .ok (.iload 5, 2) := by decide +kernel
theorem dX5_firstFault_54 : decode cX5_firstFault 54 = .ok (.ireturn, 1) := by decide +kernel
theorem dX5_firstFault_55 : decode cX5_firstFault 55 = .ok (.iinc 5 1, 3) := by decide +kernel
theorem dX5_firstFault_58 : decode cX5_firstFault 58 = .ok (.goto (-36), 3) := by decide +kernel
theorem dX5_firstFault_61 : decode cX5_firstFault 61 = .ok (.iload 4, 2) := by decide +kernel
theorem dX5_firstFault_63 : decode cX5_firstFault 63 = .ok (.iconst 5, 1) := by decide +kernel
theorem dX5_firstFault_64 : decode cX5_firstFault 64 = .ok (.if_icmp .ne 8, 3) := by decide +kernel
theorem dX5_firstFault_67 : decode cX5_firstFault 67 = .ok (.bipush (-9), 2) := by decide +kernel
theorem dX5_firstFault_69 : decode cX5_firstFault 69 = .ok (.goto 4, 3) := by decide +kernel
theorem dX5_firstFault_72 : decode cX5_firstFault 72 = .ok (.iload_n 3, 1) := by decide +kernel
theorem dX5_firstFault_73 : decode cX5_firstFault 73 = .ok (.ireturn, 1) := by decide +kernel
theorem dX5_stateAfter_0 : decode cX5_stateAfter 0 = .ok (.iload_n 1, 1) := by decide +kernel
theorem dX5_stateAfter_1 : decode cX5_stateAfter 1 = .ok (.tableswitch 112 0 5 #[39, 52, 68, 74, 87, 93], 39) := by decide +kernel
theorem dX5_stateAfter_40 : decode cX5_stateAfter 40 = .ok (.iload_n 2, 1) := by decide +kernel
theorem dX5_stateAfter_41 : decode cX5_stateAfter 41 = .ok (.bipush 119, 2) := by decide +kernel
theorem dX5_stateAfter_43 : decode cX5_stateAfter 43 = .ok (.if_icmp .ne 7, 3) := by decide +kernel
theorem dX5_stateAfter_46 : decode cX5_stateAfter 46 = .ok (.iconst 1, 1) := by decide +kernel
theorem dX5_stateAfter_47 : decode cX5_stateAfter 47 = .ok (.goto 5, 3) := by decide +kernel
theorem dX5_stateAfter_50 : decode cX5_stateAfter 50 = .ok (.bipush 6, 2) := by decide +kernel
theorem dX5_stateAfter_52 : decode cX5_stateAfter 52 = .ok (.ireturn, 1) := by decide +kernel
theorem dX5_stateAfter_53 : decode cX5_stateAfter 53 = .ok (.iload_n 2, 1) := by decide +kernel
theorem dX5_stateAfter_54 : decode cX5_stateAfter 54 = .ok (.bipush 59, 2) := by decide +kernel
theorem dX5_stateAfter_56 : decode cX5_stateAfter 56 = .ok (.if_icmp .ne 10, 3) := by decide +kernel
theorem dX5_stateAfter_59 : decode cX5_stateAfter 59 = .ok (.aload_n 0, 1) := by decide +kernel
theorem dX5_stateAfter_60 : decode cX5_stateAfter 60 = .ok (.invokevirtual 37, 3) := by decide +kernel
theorem dX5_stateAfter_63 : decode cX5_stateAfter 63 = .ok (.goto 5, 3) := by decide +kernel
theorem dX5_stateAfter_66 : decode cX5_stateAfter 66 = .ok (.bipush 6, 2) := by decide +kernel
theorem dX5_stateAfter_68 : decode cX5_stateAfter 68 = .ok (.ireturn, 1) := by decide +kernel
theorem dX5_stateAfter_69 : decode cX5_stateAfter 69 = .ok (.aload_n 0, 1) := by decide +kernel
theorem dX5_stateAfter_70 : decode cX5_stateAfter 70 = .ok (.iload_n 2, 1) := by decide +kernel
theorem dX5_stateAfter_71 : decode cX5_stateAfter 71 = .ok (.invokevirtual 41, 3) := by decide +kernel
theorem dX5_stateAfter_74 : decode cX5_stateAfter 74 = .ok (.ireturn, 1) := by decide +kernel
theorem dX5_stateAfter_75 : decode cX5_stateAfter 75 = .ok (.iload_n 2, 1) := by decide +kernel
theorem dX5_stateAfter_76 : decode cX5_stateAfter 76 = .ok (.bipush 47, 2) := by decide +kernel
theorem dX5_stateAfter_78 : decode cX5_stateAfter 78 = .ok (.if_icmp .ne 7, 3) := by decide +kernel
theorem dX5_stateAfter_81 : decode cX5_stateAfter 81 = .ok (.iconst 4, 1) := by decide +kernel
theorem dX5_stateAfter_82 : decode cX5_stateAfter 82 = .ok (.goto 5, 3) := by decide +kernel
theorem dX5_stateAfter_85 : decode cX5_stateAfter 85 = .ok (.bipush 6, 2) := by decide +kernel
theorem dX5_stateAfter_87 : decode cX5_stateAfter 87 = .ok (.ireturn, 1) := by decide +kernel
theorem dX5_stateAfter_88 : decode cX5_stateAfter 88 = .ok (.aload_n 0, 1) := by decide +kernel
theorem dX5_stateAfter_89 : decode cX5_stateAfter 89 = .ok (.iload_n 2, 1) := by decide +kernel
theorem dX5_stateAfter_90 : decode cX5_stateAfter 90 = .ok (.invokevirtual 45, 3) := by decide +kernel
theorem dX5_stateAfter_93 : decode cX5_stateAfter 93 = .ok (.ireturn, 1) := by decide +kernel
theorem dX5_stateAfter_94 : decode cX5_stateAfter 94 = .ok (.iload_n 2, 1) := by decide +kernel
theorem dX5_stateAfter_95 : decode cX5_stateAfter 95 = .ok (.bipush 59, 2) := by decide +kernel
theorem dX5_stateAfter_97 : decode cX5_stateAfter 97 = .ok (.if_icmp .ne 10, 3) := by decide +kernel
theorem dX5_stateAfter_100 : decode cX5_stateAfter 100 = .ok (.aload_n 0, 1) := by decide +kernel
theorem dX5_stateAfter_101 : decode cX5_stateAfter 101 = .ok (.invokevirtual 37, 3) := by decide +kernel
theorem dX5_stateAfter_104 : decode cX5_stateAfter 104 = .ok (.goto 8, 3) := by decide +kernel
theorem dX5_stateAfter_107 : decode cX5_stateAfter 107 = .ok (.aload_n 0, 1) := by decide +kernel
theorem dX5_stateAfter_108 : decode cX5_stateAfter 108 = .ok (.iload_n 2, 1) := by decide +kernel
theorem dX5_stateAfter_109 : decode cX5_stateAfter 109 = .ok (.invokevirtual 45, 3) := by decide +kernel
theorem dX5_stateAfter_112 : decode cX5_stateAfter 112 = .ok (.ireturn, 1) := by decide +kernel
theorem dX5_stateAfter_113 : decode cX5_stateAfter 113 = .ok (.bipush 6, 2) := by decide +kernel
theorem dX5_stateAfter_115 : decode cX5_stateAfter 115 = .ok (.ireturn, 1) := by decide +kernel
theorem dX5_beginWord_0 : decode cX5_beginWord 0 = .ok (.aload_n 0, 1) := by decide +kernel
theorem dX5_beginWord_1 : decode cX5_beginWord 1 = .ok (.getfield 25, 3) := by decide +kernel
theorem dX5_beginWord_4 : decode cX5_beginWord 4 = .ok (.iconst 4, 1) := by decide +kernel
theorem dX5_beginWord_5 : decode cX5_beginWord 5 = .ok (.if_icmp .lt 6, 3) := by decide +kernel
theorem dX5_beginWord_8 : decode cX5_beginWord 8 = .ok (.bipush 6, 2) := by decide +kernel
theorem dX5_beginWord_10 : decode cX5_beginWord 10 = .ok (.ireturn, 1) := by decide +kernel
theorem dX5_beginWord_11 : decode cX5_beginWord 11 = .ok (.aload_n 0, 1) := by decide +kernel
theorem dX5_beginWord_12 : decode cX5_beginWord 12 = .ok (.getfield 13, 3) := by decide +kernel
theorem dX5_beginWord_15 : decode cX5_beginWord 15 = .ok (.aload_n 0, 1) := by decide +kernel
theorem dX5_beginWord_16 : decode cX5_beginWord 16 = .ok (.getfield 25, 3) := by decide +kernel
theorem dX5_beginWord_19 : decode cX5_beginWord 19 = .ok (.aaload, 1) := by decide +kernel
theorem dX5_beginWord_20 : decode cX5_beginWord 20 = .ok (.iconst 0, 1) := by decide +kernel
theorem dX5_beginWord_21 : decode cX5_beginWord 21 = .ok (.putfield 48, 3) := by decide +kernel
theorem dX5_beginWord_24 : decode cX5_beginWord 24 = .ok (.aload_n 0, 1) := by decide +kernel
theorem dX5_beginWord_25 : decode cX5_beginWord 25 = .ok (.dup, 1) := by decide +kernel
theorem dX5_beginWord_26 : decode cX5_beginWord 26 = .ok (.getfield 25, 3) := by decide +kernel
theorem dX5_beginWord_29 : decode cX5_beginWord 29 = .ok (.iconst 1, 1) := by decide +kernel
theorem dX5_beginWord_30 : decode cX5_beginWord 30 = .ok (.iadd, 1) := by decide +kernel
theorem dX5_beginWord_31 : decode cX5_beginWord 31 = .ok (.putfield 25, 3) := by decide +kernel
theorem dX5_beginWord_34 : decode cX5_beginWord 34 = .ok (.iconst 2, 1) := by decide +kernel
theorem dX5_beginWord_35 : decode cX5_beginWord 35 = .ok (.ireturn, 1) := by decide +kernel
theorem dX5_takeKind_0 : decode cX5_takeKind 0 = .ok (.iload_n 1, 1) := by decide +kernel
theorem dX5_takeKind_1 : decode cX5_takeKind 1 = .ok (.bipush 112, 2) := by decide +kernel
theorem dX5_takeKind_3 : decode cX5_takeKind 3 = .ok (.if_icmp .ne 7, 3) := by decide +kernel
theorem dX5_takeKind_6 : decode cX5_takeKind 6 = .ok (.iconst 0, 1) := by decide +kernel
theorem dX5_takeKind_7 : decode cX5_takeKind 7 = .ok (.goto 25, 3) := by decide +kernel
theorem dX5_takeKind_10 : decode cX5_takeKind 10 = .ok (.iload_n 1, 1) := by decide +kernel
theorem dX5_takeKind_11 : decode cX5_takeKind 11 = .ok (.bipush 98, 2) := by decide +kernel
theorem dX5_takeKind_13 : decode cX5_takeKind 13 = .ok (.if_icmp .ne 7, 3) := by decide +kernel
theorem dX5_takeKind_16 : decode cX5_takeKind 16 = .ok (.iconst 1, 1) := by decide +kernel
theorem dX5_takeKind_17 : decode cX5_takeKind 17 = .ok (.goto 15, 3) := by decide +kernel
theorem dX5_takeKind_20 : decode cX5_takeKind 20 = .ok (.iload_n 1, 1) := by decide +kernel
theorem dX5_takeKind_21 : decode cX5_takeKind 21 = .ok (.bipush 116, 2) := by decide +kernel
theorem dX5_takeKind_23 : decode cX5_takeKind 23 = .ok (.if_icmp .ne 7, 3) := by decide +kernel
theorem dX5_takeKind_26 : decode cX5_takeKind 26 = .ok (.iconst 2, 1) := by decide +kernel
theorem dX5_takeKind_27 : decode cX5_takeKind 27 = .ok (.goto 5, 3) := by decide +kernel
theorem dX5_takeKind_30 : decode cX5_takeKind 30 = .ok (.bipush (-9), 2) := by decide +kernel
theorem dX5_takeKind_32 : decode cX5_takeKind 32 = .ok (.istore_n 2, 1) := by decide +kernel
theorem dX5_takeKind_33 : decode cX5_takeKind 33 = .ok (.iload_n 2, 1) := by decide +kernel
theorem dX5_takeKind_34 : decode cX5_takeKind 34 = .ok (.bipush (-9), 2) := by decide +kernel
theorem dX5_takeKind_36 : decode cX5_takeKind 36 = .ok (.if_icmp .eq 11, 3) := by decide +kernel
theorem dX5_takeKind_39 : decode cX5_takeKind 39 = .ok (.aload_n 0, 1) := by decide +kernel
theorem dX5_takeKind_40 : decode cX5_takeKind 40 = .ok (.getfield 25, 3) := by decide +kernel
theorem dX5_takeKind_43 : decode cX5_takeKind 43 = .ok (.iconst 1, 1) := by decide +kernel
theorem dX5_takeKind_44 : decode cX5_takeKind 44 = .ok (.if_icmp .ge 6, 3) := by decide +kernel
theorem dX5_takeKind_47 : decode cX5_takeKind 47 = .ok (.bipush 6, 2) := by decide +kernel
theorem dX5_takeKind_49 : decode cX5_takeKind 49 = .ok (.ireturn, 1) := by decide +kernel
theorem dX5_takeKind_50 : decode cX5_takeKind 50 = .ok (.aload_n 0, 1) := by decide +kernel
theorem dX5_takeKind_51 : decode cX5_takeKind 51 = .ok (.getfield 13, 3) := by decide +kernel
theorem dX5_takeKind_54 : decode cX5_takeKind 54 = .ok (.aload_n 0, 1) := by decide +kernel
theorem dX5_takeKind_55 : decode cX5_takeKind 55 = .ok (.getfield 25, 3) := by decide +kernel
theorem dX5_takeKind_58 : decode cX5_takeKind 58 = .ok (.iconst 1, 1) := by decide +kernel
theorem dX5_takeKind_59 : decode cX5_takeKind 59 = .ok (.isub, 1) := by decide +kernel
theorem dX5_takeKind_60 : decode cX5_takeKind 60 = .ok (.aaload, 1) := by decide +kernel
theorem dX5_takeKind_61 : decode cX5_takeKind 61 = .ok (.iload_n 2, 1) := by decide +kernel
theorem dX5_takeKind_62 : decode cX5_takeKind 62 = .ok (.putfield 53, 3) := by decide +kernel
theorem dX5_takeKind_65 : decode cX5_takeKind 65 = .ok (.iconst 3, 1) := by decide +kernel
theorem dX5_takeKind_66 : decode cX5_takeKind 66 = .ok (.ireturn, 1) := by decide +kernel
theorem dX5_takeLetter_0 : decode cX5_takeLetter 0 = .ok (.iload_n 1, 1) := by decide +kernel
theorem dX5_takeLetter_1 : decode cX5_takeLetter 1 = .ok (.bipush 97, 2) := by decide +kernel
theorem dX5_takeLetter_3 : decode cX5_takeLetter 3 = .ok (.if_icmp .lt 17, 3) := by decide +kernel
theorem dX5_takeLetter_6 : decode cX5_takeLetter 6 = .ok (.iload_n 1, 1) := by decide +kernel
theorem dX5_takeLetter_7 : decode cX5_takeLetter 7 = .ok (.bipush 99, 2) := by decide +kernel
theorem dX5_takeLetter_9 : decode cX5_takeLetter 9 = .ok (.if_icmp .gt 11, 3) := by decide +kernel
theorem dX5_takeLetter_12 : decode cX5_takeLetter 12 = .ok (.aload_n 0, 1) := by decide +kernel
theorem dX5_takeLetter_13 : decode cX5_takeLetter 13 = .ok (.getfield 25, 3) := by decide +kernel
theorem dX5_takeLetter_16 : decode cX5_takeLetter 16 = .ok (.iconst 1, 1) := by decide +kernel
theorem dX5_takeLetter_17 : decode cX5_takeLetter 17 = .ok (.if_icmp .ge 6, 3) := by decide +kernel
theorem dX5_takeLetter_20 : decode cX5_takeLetter 20 = .ok (.bipush 6, 2) := by decide +kernel
theorem dX5_takeLetter_22 : decode cX5_takeLetter 22 = .ok (.ireturn, 1) := by decide +kernel
theorem dX5_takeLetter_23 : decode cX5_takeLetter 23 = .ok (.aload_n 0, 1) := by decide +kernel
theorem dX5_takeLetter_24 : decode cX5_takeLetter 24 = .ok (.getfield 13, 3) := by decide +kernel
theorem dX5_takeLetter_27 : decode cX5_takeLetter 27 = .ok (.aload_n 0, 1) := by decide +kernel
theorem dX5_takeLetter_28 : decode cX5_takeLetter 28 = .ok (.getfield 25, 3) := by decide +kernel
theorem dX5_takeLetter_31 : decode cX5_takeLetter 31 = .ok (.iconst 1, 1) := by decide +kernel
theorem dX5_takeLetter_32 : decode cX5_takeLetter 32 = .ok (.isub, 1) := by decide +kernel
theorem dX5_takeLetter_33 : decode cX5_takeLetter 33 = .ok (.aaload, 1) := by decide +kernel
theorem dX5_takeLetter_34 : decode cX5_takeLetter 34 = .ok (.astore_n 2, 1) := by decide +kernel
theorem dX5_takeLetter_35 : decode cX5_takeLetter 35 = .ok (.aload_n 2, 1) := by decide +kernel
theorem dX5_takeLetter_36 : decode cX5_takeLetter 36 = .ok (.getfield 48, 3) := by decide +kernel
theorem dX5_takeLetter_39 : decode cX5_takeLetter 39 = .ok (.iconst 4, 1) := by decide +kernel
theorem dX5_takeLetter_40 : decode cX5_takeLetter 40 = .ok (.if_icmp .lt 6, 3) := by decide +kernel
theorem dX5_takeLetter_43 : decode cX5_takeLetter 43 = .ok (.bipush 6, 2) := by decide +kernel
theorem dX5_takeLetter_45 : decode cX5_takeLetter 45 = .ok (.ireturn, 1) := by decide +kernel
theorem dX5_takeLetter_46 : decode cX5_takeLetter 46 = .ok (.aload_n 2, 1) := by decide +kernel
theorem dX5_takeLetter_47 : decode cX5_takeLetter 47 = .ok (.getfield 56, 3) := by decide +kernel
theorem dX5_takeLetter_50 : decode cX5_takeLetter 50 = .ok (.aload_n 2, 1) := by decide +kernel
theorem dX5_takeLetter_51 : decode cX5_takeLetter 51 = .ok (.getfield 48, 3) := by decide +kernel
theorem dX5_takeLetter_54 : decode cX5_takeLetter 54 = .ok (.iload_n 1, 1) := by decide +kernel
theorem dX5_takeLetter_55 : decode cX5_takeLetter 55 = .ok (.bipush 97, 2) := by decide +kernel
theorem dX5_takeLetter_57 : decode cX5_takeLetter 57 = .ok (.isub, 1) := by decide +kernel
theorem dX5_takeLetter_58 : decode cX5_takeLetter 58 = .ok (.iastore, 1) := by decide +kernel
theorem dX5_takeLetter_59 : decode cX5_takeLetter 59 = .ok (.aload_n 2, 1) := by decide +kernel
theorem dX5_takeLetter_60 : decode cX5_takeLetter 60 = .ok (.dup, 1) := by decide +kernel
theorem dX5_takeLetter_61 : decode cX5_takeLetter 61 = .ok (.getfield 48, 3) := by decide +kernel
theorem dX5_takeLetter_64 : decode cX5_takeLetter 64 = .ok (.iconst 1, 1) := by decide +kernel
theorem dX5_takeLetter_65 : decode cX5_takeLetter 65 = .ok (.iadd, 1) := by decide +kernel
theorem dX5_takeLetter_66 : decode cX5_takeLetter 66 = .ok (.putfield 48, 3) := by decide +kernel
theorem dX5_takeLetter_69 : decode cX5_takeLetter 69 = .ok (.iconst 5, 1) := by decide +kernel
theorem dX5_takeLetter_70 : decode cX5_takeLetter 70 = .ok (.ireturn, 1) := by decide +kernel
theorem dX6_init_0 : decode cX6_init 0 = .ok (.aload_n 0, 1) := by decide +kernel
theorem dX6_init_1 : decode cX6_init 1 = .ok (.invokespecial 3, 3) := by decide +kernel
theorem dX6_init_4 : decode cX6_init 4 = .ok (.aload_n 0, 1) := by decide +kernel
theorem dX6_init_5 : decode cX6_init 5 = .ok (.iconst 4, 1) := by decide +kernel
theorem dX6_init_6 : decode cX6_init 6 = .ok (.newarray .int, 2) := by decide +kernel
theorem dX6_init_8 : decode cX6_init 8 = .ok (.putfield 9, 3) := by decide +kernel
theorem dX6_init_11 : decode cX6_init 11 = .ok (.return_, 1) := by decide +kernel
theorem dX6_become_0 : decode cX6_become 0 = .ok (.aload_n 0, 1) := by decide +kernel
theorem dX6_become_1 : decode cX6_become 1 = .ok (.aload_n 1, 1) := by decide +kernel
theorem dX6_become_2 : decode cX6_become 2 = .ok (.getfield 15, 3) := by decide +kernel
theorem dX6_become_5 : decode cX6_become 5 = .ok (.putfield 15, 3) := by decide +kernel
theorem dX6_become_8 : decode cX6_become 8 = .ok (.aload_n 0, 1) := by decide +kernel
theorem dX6_become_9 : decode cX6_become 9 = .ok (.aload_n 1, 1) := by decide +kernel
theorem dX6_become_10 : decode cX6_become 10 = .ok (.getfield 19, 3) := by decide +kernel
theorem dX6_become_13 : decode cX6_become 13 = .ok (.putfield 19, 3) := by decide +kernel
theorem dX6_become_16 : decode cX6_become 16 = .ok (.aload_n 1, 1) := by decide +kernel
theorem dX6_become_17 : decode cX6_become 17 = .ok (.getfield 9, 3) := by decide +kernel
theorem dX6_become_20 : decode cX6_become 20 = .ok (.iconst 0, 1) := by decide +kernel
theorem dX6_become_21 : decode cX6_become 21 = .ok (.aload_n 0, 1) := by decide +kernel
theorem dX6_become_22 : decode cX6_become 22 = .ok (.getfield 9, 3) := by decide +kernel
theorem dX6_become_25 : decode cX6_become 25 = .ok (.iconst 0, 1) := by decide +kernel
theorem dX6_become_26 : decode cX6_become 26 = .ok (.iconst 4, 1) := by decide +kernel
theorem dX6_become_27 : decode cX6_become 27 = .ok (.invokestatic 22, 3) := by decide +kernel
theorem dX6_become_30 : decode cX6_become 30 = .ok (.return_, 1) := by decide +kernel
theorem dX6_changeLast_0 : decode cX6_changeLast 0 = .ok (.aload_n 0, 1) := by decide +kernel
theorem dX6_changeLast_1 : decode cX6_changeLast 1 = .ok (.getfield 19, 3) := by decide +kernel
theorem dX6_changeLast_4 : decode cX6_changeLast 4 = .ok (.ifCond .le 15, 3) := by decide +kernel
theorem dX6_changeLast_7 : decode cX6_changeLast 7 = .ok (.aload_n 0, 1) := by decide +kernel
theorem dX6_changeLast_8 : decode cX6_changeLast 8 = .ok (.getfield 9, 3) := by decide +kernel
theorem dX6_changeLast_11 : decode cX6_changeLast 11 = .ok (.aload_n 0, 1) := by decide +kernel
theorem dX6_changeLast_12 : decode cX6_changeLast 12 = .ok (.getfield 19, 3) := by decide +kernel
theorem dX6_changeLast_15 : decode cX6_changeLast 15 = .ok (.iconst 1, 1) := by decide +kernel
theorem dX6_changeLast_16 : decode cX6_changeLast 16 = .ok (.isub, 1) := by decide +kernel
theorem dX6_changeLast_17 : decode cX6_changeLast 17 = .ok (.iload_n 1, 1) := by decide +kernel
theorem dX6_changeLast_18 : decode cX6_changeLast 18 = .ok (.iastore, 1) := by decide +kernel
theorem dX6_changeLast_19 : decode cX6_changeLast 19 = .ok (.return_, 1) := by decide +kernel
theorem dX6_letterOf_0 : decode cX6_letterOf 0 = .ok (.iload_n 1, 1) := by decide +kernel
theorem dX6_letterOf_1 : decode cX6_letterOf 1 = .ok (.ifCond .eq 10, 3) := by decide +kernel
theorem dX6_letterOf_4 : decode cX6_letterOf 4 = .ok (.aload_n 0, 1) := by decide +kernel
theorem dX6_letterOf_5 : decode cX6_letterOf 5 = .ok (.getfield 15, 3) := by decide +kernel
theorem dX6_letterOf_8 : decode cX6_letterOf 8 = .ok (.ifCond .ne 10, 3) := by decide +kernel
theorem dX6_letterOf_11 : decode cX6_letterOf 11 = .ok (.aload_n 0, 1) := by decide +kernel
theorem dX6_letterOf_12 : decode cX6_letterOf 12 = .ok (.getfield 9, 3) := by decide +kernel
theorem dX6_letterOf_15 : decode cX6_letterOf 15 = .ok (.iload_n 2, 1) := by decide +kernel
theorem dX6_letterOf_16 : decode cX6_letterOf 16 = .ok (.iaload, 1) := by decide +kernel
theorem dX6_letterOf_17 : decode cX6_letterOf 17 = .ok (.ireturn, 1) := by decide +kernel
theorem dX6_letterOf_18 : decode cX6_letterOf 18 = .ok (.aload_n 0, 1) := by decide +kernel
theorem dX6_letterOf_19 : decode cX6_letterOf 19 = .ok (.getfield 15, 3) := by decide +kernel
theorem dX6_letterOf_22 : decode cX6_letterOf 22 = .ok (.iconst 1, 1) := by decide +kernel
theorem dX6_letterOf_23 : decode cX6_letterOf 23 = .ok (.if_icmp .ne 17, 3) := by decide +kernel
theorem dX6_letterOf_26 : decode cX6_letterOf 26 = .ok (.aload_n 0, 1) := by decide +kernel
theorem dX6_letterOf_27 : decode cX6_letterOf 27 = .ok (.getfield 9, 3) := by decide +kernel
theorem dX6_letterOf_30 : decode cX6_letterOf 30 = .ok (.aload_n 0, 1) := by decide +kernel
theorem dX6_letterOf_31 : decode cX6_letterOf 31 = .ok (.getfield 19, 3) := by decide +kernel
theorem dX6_letterOf_34 : decode cX6_letterOf 34 = .ok (.iconst 1, 1) := by decide +kernel
theorem dX6_letterOf_35 : decode cX6_letterOf 35 = .ok (.isub, 1) := by decide +kernel
theorem dX6_letterOf_36 : decode cX6_letterOf 36 = .ok (.iload_n 2, 1) := by decide +kernel
theorem dX6_letterOf_37 : decode cX6_letterOf 37 = .ok (.isub, 1) := by decide +kernel
theorem dX6_letterOf_38 : decode cX6_letterOf 38 = .ok (.iaload, 1) := by decide +kernel
theorem dX6_letterOf_39 : decode cX6_letterOf 39 = .ok (.ireturn, 1) := by decide +kernel
theorem dX6_letterOf_40 : decode cX6_letterOf 40 = .ok (.aload_n 0, 1) := by decide +kernel
theorem dX6_letterOf_41 : decode cX6_letterOf 41 = .ok (.getfield 9, 3) := by decide +kernel
theorem dX6_letterOf_44 : decode cX6_letterOf 44 = .ok (.iload_n 2, 1) := by decide +kernel
theorem dX6_letterOf_45 : decode cX6_letterOf 45 = .ok (.iconst 1, 1) := by decide +kernel
theorem dX6_letterOf_46 : decode cX6_letterOf 46 = .ok (.iadd, 1) := by decide +kernel
theorem dX6_letterOf_47 : decode cX6_letterOf 47 = .ok (.aload_n 0, 1) := by decide +kernel
theorem dX6_letterOf_48 : decode cX6_letterOf 48 = .ok (.getfield 19, 3) := by decide +kernel
theorem dX6_letterOf_51 : decode cX6_letterOf 51 = .ok (.if_icmp .ge 9, 3) := by decide +kernel
theorem dX6_letterOf_54 : decode cX6_letterOf 54 = .ok (.iload_n 2, 1) := by decide +kernel
theorem dX6_letterOf_55 : decode cX6_letterOf 55 = .ok (.iconst 1, 1) := by decide +kernel
theorem dX6_letterOf_56 : decode cX6_letterOf 56 = .ok (.iadd, 1) := by decide +kernel
theorem dX6_letterOf_57 : decode cX6_letterOf 57 = .ok (.goto 4, 3) := by decide +kernel
theorem dX6_letterOf_60 : decode cX6_letterOf 60 = .ok (.iconst 0, 1) := by decide +kernel
theorem dX6_letterOf_61 : decode cX6_letterOf 61 = .ok (.iaload, 1) := by decide +kernel
theorem dX6_letterOf_62 : decode cX6_letterOf 62 = .ok (.ireturn, 1) := by decide +kernel
theorem dX6_unlikeForms_0 : decode cX6_unlikeForms 0 = .ok (.iconst 0, 1) := by decide +kernel
theorem dX6_unlikeForms_1 : decode cX6_unlikeForms 1 = .ok (.istore_n 1, 1) := by decide +kernel
theorem dX6_unlikeForms_2 : decode cX6_unlikeForms 2 = .ok (.iload_n 1, 1) := by decide +kernel
theorem dX6_unlikeForms_3 : decode cX6_unlikeForms 3 = .ok (.aload_n 0, 1) := by decide +kernel
theorem dX6_unlikeForms_4 : decode cX6_unlikeForms 4 = .ok (.getfield 19, 3) := by decide +kernel
theorem dX6_unlikeForms_7 : decode cX6_unlikeForms 7 = .ok (.if_icmp .ge 26, 3) := by decide +kernel
theorem dX6_unlikeForms_10 : decode cX6_unlikeForms 10 = .ok (.aload_n 0, 1) := by decide +kernel
theorem dX6_unlikeForms_11 : decode cX6_unlikeForms 11 = .ok (.iconst 0, 1) := by decide +kernel
theorem dX6_unlikeForms_12 : decode cX6_unlikeForms 12 = .ok (.iload_n 1, 1) := by decide +kernel
theorem dX6_unlikeForms_13 : decode cX6_unlikeForms 13 = .ok (.invokevirtual 28, 3) := by decide +kernel
theorem dX6_unlikeForms_16 : decode cX6_unlikeForms 16 = .ok (.aload_n 0, 1) := by decide +kernel
theorem dX6_unlikeForms_17 : decode cX6_unlikeForms 17 = .ok (.iconst 1, 1) := by decide +kernel
theorem dX6_unlikeForms_18 : decode cX6_unlikeForms 18 = .ok (.iload_n 1, 1) := by decide +kernel
theorem dX6_unlikeForms_19 : decode cX6_unlikeForms 19 = .ok (.invokevirtual 28, 3) := by decide +kernel
theorem dX6_unlikeForms_22 : decode cX6_unlikeForms 22 = .ok (.if_icmp .eq 5, 3) := by decide +kernel
theorem dX6_unlikeForms_25 : decode cX6_unlikeForms 25 = .ok (.iconst 2, 1) := by decide +kernel
theorem dX6_unlikeForms_26 : decode cX6_unlikeForms 26 = .ok (.ireturn, 1) := by decide +kernel
theorem dX6_unlikeForms_27 : decode cX6_unlikeForms 27 = .ok (.iinc 1 1, 3) := by decide +kernel
theorem dX6_unlikeForms_30 : decode cX6_unlikeForms 30 = .ok (.goto (-28), 3) := by decide +kernel
theorem dX6_unlikeForms_33 : decode cX6_unlikeForms 33 = .ok (.iconst 1, 1) := by decide +kernel
theorem dX6_unlikeForms_34 : decode cX6_unlikeForms 34 = .ok (.ireturn, 1) := by decide +kernel
theorem dX6_formEndsAt_0 : decode cX6_formEndsAt 0 = .ok (.iload_n 3, 1) := by decide +kernel
theorem dX6_formEndsAt_1 : decode cX6_formEndsAt 1 = .ok (.aload_n 0, 1) := by decide +kernel
theorem dX6_formEndsAt_2 : decode cX6_formEndsAt 2 = .ok (.getfield 19, 3) := by decide +kernel
theorem dX6_formEndsAt_5 : decode cX6_formEndsAt 5 = .ok (.isub, 1) := by decide +kernel
theorem dX6_formEndsAt_6 : decode cX6_formEndsAt 6 = .ok (.istore 4, 2) := by decide +kernel
theorem dX6_formEndsAt_8 : decode cX6_formEndsAt 8 = .ok (.iload 4, 2) := by decide +kernel
theorem dX6_formEndsAt_10 : decode cX6_formEndsAt 10 = .ok (.ifCond .lt 9, 3) := by decide +kernel
theorem dX6_formEndsAt_13 : decode cX6_formEndsAt 13 = .ok (.iload_n 3, 1) := by decide +kernel
theorem dX6_formEndsAt_14 : decode cX6_formEndsAt 14 = .ok (.aload_n 2, 1) := by decide +kernel
theorem dX6_formEndsAt_15 : decode cX6_formEndsAt 15 = .ok (.arraylength, 1) := by decide +kernel
theorem dX6_formEndsAt_16 : decode cX6_formEndsAt 16 = .ok (.if_icmp .le 5, 3) := by decide +kernel
theorem dX6_formEndsAt_19 : decode cX6_formEndsAt 19 = .ok (.iconst 0, 1) := by decide +kernel
theorem dX6_formEndsAt_20 : decode cX6_formEndsAt 20 = .ok (.ireturn, 1) := by decide +kernel
theorem dX6_formEndsAt_21 : decode cX6_formEndsAt 21 = .ok (.iconst 0, 1) := by decide +kernel
theorem dX6_formEndsAt_22 : decode cX6_formEndsAt 22 = .ok (.istore 5, 2) := by decide +kernel
theorem dX6_formEndsAt_24 : decode cX6_formEndsAt 24 = .ok (.iload 5, 2) := by decide +kernel
theorem dX6_formEndsAt_26 : decode cX6_formEndsAt 26 = .ok (.aload_n 0, 1) := by decide +kernel
theorem dX6_formEndsAt_27 : decode cX6_formEndsAt 27 = .ok (.getfield 19, 3) := by decide +kernel
theorem dX6_formEndsAt_30 : decode cX6_formEndsAt 30 = .ok (.if_icmp .ge 28, 3) := by decide +kernel
theorem dX6_formEndsAt_33 : decode cX6_formEndsAt 33 = .ok (.aload_n 2, 1) := by decide +kernel
theorem dX6_formEndsAt_34 : decode cX6_formEndsAt 34 = .ok (.iload 4, 2) := by decide +kernel
theorem dX6_formEndsAt_36 : decode cX6_formEndsAt 36 = .ok (.iload 5, 2) := by decide +kernel
theorem dX6_formEndsAt_38 : decode cX6_formEndsAt 38 = .ok (.iadd, 1) := by decide +kernel
theorem dX6_formEndsAt_39 : decode cX6_formEndsAt 39 = .ok (.iaload, 1) := by decide +kernel
theorem dX6_formEndsAt_40 : decode cX6_formEndsAt 40 = .ok (.aload_n 0, 1) := by decide +kernel
theorem dX6_formEndsAt_41 : decode cX6_formEndsAt 41 = .ok (.iload_n 1, 1) := by decide +kernel
theorem dX6_formEndsAt_42 : decode cX6_formEndsAt 42 = .ok (.iload 5, 2) := by decide +kernel
theorem dX6_formEndsAt_44 : decode cX6_formEndsAt 44 = .ok (.invokevirtual 28, 3) := by decide +kernel
theorem dX6_formEndsAt_47 : decode cX6_formEndsAt 47 = .ok (.if_icmp .eq 5, 3) := by decide +kernel
theorem dX6_formEndsAt_50 : decode cX6_formEndsAt 50 = .ok (.iconst 0, 1) := by decide +kernel
theorem dX6_formEndsAt_51 : decode cX6_formEndsAt 51 = .ok (.ireturn, 1) := by decide +kernel
theorem dX6_formEndsAt_52 : decode cX6_formEndsAt 52 = .ok (.iinc 5 1, 3) := by decide +kernel
theorem dX6_formEndsAt_55 : decode cX6_formEndsAt 55 = .ok (.goto (-31), 3) := by decide +kernel
theorem dX6_formEndsAt_58 : decode cX6_formEndsAt 58 = .ok (.iconst 1, 1) := by decide +kernel
theorem dX6_formEndsAt_59 : decode cX6_formEndsAt 59 = .ok (.ireturn, 1) := by decide +kernel
theorem dX6_endsAt_0 : decode cX6_endsAt 0 = .ok (.aload_n 0, 1) := by decide +kernel
theorem dX6_endsAt_1 : decode cX6_endsAt 1 = .ok (.iconst 0, 1) := by decide +kernel
theorem dX6_endsAt_2 : decode cX6_endsAt 2 = .ok (.aload_n 1, 1) := by decide +kernel
theorem dX6_endsAt_3 : decode cX6_endsAt 3 = .ok (.iload_n 2, 1) := by decide +kernel
theorem dX6_endsAt_4 : decode cX6_endsAt 4 = .ok (.invokevirtual 32, 3) := by decide +kernel
theorem dX6_endsAt_7 : decode cX6_endsAt 7 = .ok (.ifCond .ne 20, 3) := by decide +kernel
theorem dX6_endsAt_10 : decode cX6_endsAt 10 = .ok (.aload_n 0, 1) := by decide +kernel
theorem dX6_endsAt_11 : decode cX6_endsAt 11 = .ok (.getfield 15, 3) := by decide +kernel
theorem dX6_endsAt_14 : decode cX6_endsAt 14 = .ok (.ifCond .eq 17, 3) := by decide +kernel
theorem dX6_endsAt_17 : decode cX6_endsAt 17 = .ok (.aload_n 0, 1) := by decide +kernel
theorem dX6_endsAt_18 : decode cX6_endsAt 18 = .ok (.iconst 1, 1) := by decide +kernel
theorem dX6_endsAt_19 : decode cX6_endsAt 19 = .ok (.aload_n 1, 1) := by decide +kernel
theorem dX6_endsAt_20 : decode cX6_endsAt 20 = .ok (.iload_n 2, 1) := by decide +kernel
theorem dX6_endsAt_21 : decode cX6_endsAt 21 = .ok (.invokevirtual 32, 3) := by decide +kernel
theorem dX6_endsAt_24 : decode cX6_endsAt 24 = .ok (.ifCond .eq 7, 3) := by decide +kernel
theorem dX6_endsAt_27 : decode cX6_endsAt 27 = .ok (.iconst 1, 1) := by decide +kernel
theorem dX6_endsAt_28 : decode cX6_endsAt 28 = .ok (.goto 4, 3) := by decide +kernel
theorem dX6_endsAt_31 : decode cX6_endsAt 31 = .ok (.iconst 0, 1) := by decide +kernel
theorem dX6_endsAt_32 : decode cX6_endsAt 32 = .ok (.ireturn, 1) := by decide +kernel
theorem dX6_standsIn_0 : decode cX6_standsIn 0 = .ok (.aload_n 0, 1) := by decide +kernel
theorem dX6_standsIn_1 : decode cX6_standsIn 1 = .ok (.getfield 19, 3) := by decide +kernel
theorem dX6_standsIn_4 : decode cX6_standsIn 4 = .ok (.istore_n 3, 1) := by decide +kernel
theorem dX6_standsIn_5 : decode cX6_standsIn 5 = .ok (.iload_n 3, 1) := by decide +kernel
theorem dX6_standsIn_6 : decode cX6_standsIn 6 = .ok (.iload_n 2, 1) := by decide +kernel
theorem dX6_standsIn_7 : decode cX6_standsIn 7 = .ok (.if_icmp .gt 20, 3) := by decide +kernel
theorem dX6_standsIn_10 : decode cX6_standsIn 10 = .ok (.aload_n 0, 1) := by decide +kernel
theorem dX6_standsIn_11 : decode cX6_standsIn 11 = .ok (.aload_n 1, 1) := by decide +kernel
theorem dX6_standsIn_12 : decode cX6_standsIn 12 = .ok (.iload_n 3, 1) := by decide +kernel
theorem dX6_standsIn_13 : decode cX6_standsIn 13 = .ok (.invokevirtual 36, 3) := by decide +kernel
theorem dX6_standsIn_16 : decode cX6_standsIn 16 = .ok (.ifCond .eq 5, 3) := by decide +kernel
theorem dX6_standsIn_19 : decode cX6_standsIn 19 = .ok (.iconst 1, 1) := by decide +kernel
theorem dX6_standsIn_20 : decode cX6_standsIn 20 = .ok (.ireturn, 1) := by decide +kernel
theorem dX6_standsIn_21 : decode cX6_standsIn 21 = .ok (.iinc 3 1, 3) := by decide +kernel
theorem dX6_standsIn_24 : decode cX6_standsIn 24 = .ok (.goto (-19), 3) := by decide +kernel
theorem dX6_standsIn_27 : decode cX6_standsIn 27 = .ok (.iconst 0, 1) := by decide +kernel
theorem dX6_standsIn_28 : decode cX6_standsIn 28 = .ok (.ireturn, 1) := by decide +kernel
theorem dX6_timesIn_0 : decode cX6_timesIn 0 = .ok (.iconst 0, 1) := by decide +kernel
theorem dX6_timesIn_1 : decode cX6_timesIn 1 = .ok (.istore_n 3, 1) := by decide +kernel
theorem dX6_timesIn_2 : decode cX6_timesIn 2 = .ok (.aload_n 0, 1) := by decide +kernel
theorem dX6_timesIn_3 : decode cX6_timesIn 3 = .ok (.getfield 19, 3) := by decide +kernel
theorem dX6_timesIn_6 : decode cX6_timesIn 6 = .ok (.istore 4, 2) := by decide +kernel
theorem dX6_timesIn_8 : decode cX6_timesIn 8 = .ok (.iload 4, 2) := by decide +kernel
theorem dX6_timesIn_10 : decode cX6_timesIn 10 = .ok (.iload_n 2, 1) := by decide +kernel
theorem dX6_timesIn_11 : decode cX6_timesIn 11 = .ok (.if_icmp .gt 22, 3) := by decide +kernel
theorem dX6_timesIn_14 : decode cX6_timesIn 14 = .ok (.aload_n 0, 1) := by decide +kernel
theorem dX6_timesIn_15 : decode cX6_timesIn 15 = .ok (.aload_n 1, 1) := by decide +kernel
theorem dX6_timesIn_16 : decode cX6_timesIn 16 = .ok (.iload 4, 2) := by decide +kernel
theorem dX6_timesIn_18 : decode cX6_timesIn 18 = .ok (.invokevirtual 36, 3) := by decide +kernel
theorem dX6_timesIn_21 : decode cX6_timesIn 21 = .ok (.ifCond .eq 6, 3) := by decide +kernel
theorem dX6_timesIn_24 : decode cX6_timesIn 24 = .ok (.iinc 3 1, 3) := by decide +kernel
theorem dX6_timesIn_27 : decode cX6_timesIn 27 = .ok (.iinc 4 1, 3) := by decide +kernel
theorem dX6_timesIn_30 : decode cX6_timesIn 30 = .ok (.goto (-22), 3) := by decide +kernel
theorem dX6_timesIn_33 : decode cX6_timesIn 33 = .ok (.iload_n 3, 1) := by decide +kernel
theorem dX6_timesIn_34 : decode cX6_timesIn 34 = .ok (.ireturn, 1) := by decide +kernel
theorem dX6_lettersOver_0 : decode cX6_lettersOver 0 = .ok (.aload_n 0, 1) := by decide +kernel
theorem dX6_lettersOver_1 : decode cX6_lettersOver 1 = .ok (.getfield 19, 3) := by decide +kernel
theorem dX6_lettersOver_4 : decode cX6_lettersOver 4 = .ok (.aload_n 1, 1) := by decide +kernel
theorem dX6_lettersOver_5 : decode cX6_lettersOver 5 = .ok (.getfield 19, 3) := by decide +kernel
theorem dX6_lettersOver_8 : decode cX6_lettersOver 8 = .ok (.invokestatic 40, 3) := by decide +kernel
theorem dX6_lettersOver_11 : decode cX6_lettersOver 11 = .ok (.istore_n 2, 1) := by decide +kernel
theorem dX6_lettersOver_12 : decode cX6_lettersOver 12 = .ok (.iload_n 2, 1) := by decide +kernel
theorem dX6_lettersOver_13 : decode cX6_lettersOver 13 = .ok (.ifCond .le 20, 3) := by decide +kernel
theorem dX6_lettersOver_16 : decode cX6_lettersOver 16 = .ok (.aload_n 0, 1) := by decide +kernel
theorem dX6_lettersOver_17 : decode cX6_lettersOver 17 = .ok (.aload_n 1, 1) := by decide +kernel
theorem dX6_lettersOver_18 : decode cX6_lettersOver 18 = .ok (.iload_n 2, 1) := by decide +kernel
theorem dX6_lettersOver_19 : decode cX6_lettersOver 19 = .ok (.invokevirtual 45, 3) := by decide +kernel
theorem dX6_lettersOver_22 : decode cX6_lettersOver 22 = .ok (.ifCond .eq 5, 3) := by decide +kernel
theorem dX6_lettersOver_25 : decode cX6_lettersOver 25 = .ok (.iload_n 2, 1) := by decide +kernel
theorem dX6_lettersOver_26 : decode cX6_lettersOver 26 = .ok (.ireturn, 1) := by decide +kernel
theorem dX6_lettersOver_27 : decode cX6_lettersOver 27 = .ok (.iinc 2 (-1), 3) := by decide +kernel
theorem dX6_lettersOver_30 : decode cX6_lettersOver 30 = .ok (.goto (-18), 3) := by decide +kernel
theorem dX6_lettersOver_33 : decode cX6_lettersOver 33 = .ok (.iconst 0, 1) := by decide +kernel
theorem dX6_lettersOver_34 : decode cX6_lettersOver 34 = .ok (.ireturn, 1) := by decide +kernel
theorem dX6_liesOver_0 : decode cX6_liesOver 0 = .ok (.iconst 0, 1) := by decide +kernel
theorem dX6_liesOver_1 : decode cX6_liesOver 1 = .ok (.istore_n 3, 1) := by decide +kernel
theorem dX6_liesOver_2 : decode cX6_liesOver 2 = .ok (.iload_n 3, 1) := by decide +kernel
theorem dX6_liesOver_3 : decode cX6_liesOver 3 = .ok (.iload_n 2, 1) := by decide +kernel
theorem dX6_liesOver_4 : decode cX6_liesOver 4 = .ok (.if_icmp .ge 33, 3) := by decide +kernel
theorem dX6_liesOver_7 : decode cX6_liesOver 7 = .ok (.aload_n 0, 1) := by decide +kernel
theorem dX6_liesOver_8 : decode cX6_liesOver 8 = .ok (.getfield 9, 3) := by decide +kernel
theorem dX6_liesOver_11 : decode cX6_liesOver 11 = .ok (.aload_n 0, 1) := by decide +kernel
theorem dX6_liesOver_12 : decode cX6_liesOver 12 = .ok (.getfield 19, 3) := by decide +kernel
theorem dX6_liesOver_15 : decode cX6_liesOver 15 = .ok (.iload_n 2, 1) := by decide +kernel
theorem dX6_liesOver_16 : decode cX6_liesOver 16 = .ok (.isub, 1) := by decide +kernel
theorem dX6_liesOver_17 : decode cX6_liesOver 17 = .ok (.iload_n 3, 1) := by decide +kernel
theorem dX6_liesOver_18 : decode cX6_liesOver 18 = .ok (.iadd, 1) := by decide +kernel
theorem dX6_liesOver_19 : decode cX6_liesOver 19 = .ok (.iaload, 1) := by decide +kernel
theorem dX6_liesOver_20 : decode cX6_liesOver 20 = .ok (.aload_n 1, 1) := by decide +kernel
theorem dX6_liesOver_21 : decode cX6_liesOver 21 = .ok (.getfield 9, 3) := by decide +kernel
theorem dX6_liesOver_24 : decode cX6_liesOver 24 = .ok (.iload_n 3, 1) := by decide +kernel
theorem dX6_liesOver_25 : decode cX6_liesOver 25 = .ok (.iaload, 1) := by decide +kernel
theorem dX6_liesOver_26 : decode cX6_liesOver 26 = .ok (.if_icmp .eq 5, 3) := by decide +kernel
theorem dX6_liesOver_29 : decode cX6_liesOver 29 = .ok (.iconst 0, 1) := by decide +kernel
theorem dX6_liesOver_30 : decode cX6_liesOver 30 = .ok (.ireturn, 1) := by decide +kernel
theorem dX6_liesOver_31 : decode cX6_liesOver 31 = .ok (.iinc 3 1, 3) := by decide +kernel
theorem dX6_liesOver_34 : decode cX6_liesOver 34 = .ok (.goto (-32), 3) := by decide +kernel
theorem dX6_liesOver_37 : decode cX6_liesOver 37 = .ok (.iconst 1, 1) := by decide +kernel
theorem dX6_liesOver_38 : decode cX6_liesOver 38 = .ok (.ireturn, 1) := by decide +kernel
theorem dX7_init_0 : decode cX7_init 0 = .ok (.aload_n 0, 1) := by decide +kernel
theorem dX7_init_1 : decode cX7_init 1 = .ok (.invokespecial 5, 3) := by decide +kernel
theorem dX7_init_4 : decode cX7_init 4 = .ok (.aload_n 0, 1) := by decide +kernel
theorem dX7_init_5 : decode cX7_init 5 = .ok (.iconst 4, 1) := by decide +kernel
theorem dX7_init_6 : decode cX7_init 6 = .ok (.anewarray 11, 3) := by decide +kernel
theorem dX7_init_9 : decode cX7_init 9 = .ok (.putfield 13, 3) := by decide +kernel
theorem dX7_init_12 : decode cX7_init 12 = .ok (.aload_n 0, 1) := by decide +kernel
theorem dX7_init_13 : decode cX7_init 13 = .ok (.new 17, 3) := by decide +kernel
theorem dX7_init_16 : decode cX7_init 16 = .ok (.dup, 1) := by decide +kernel
theorem dX7_init_17 : decode cX7_init 17 = .ok (.invokespecial 19, 3) := by decide +kernel
theorem dX7_init_20 : decode cX7_init 20 = .ok (.putfield 20, 3) := by decide +kernel
theorem dX7_init_23 : decode cX7_init 23 = .ok (.aload_n 0, 1) := by decide +kernel
theorem dX7_init_24 : decode cX7_init 24 = .ok (.invokestatic 24, 3) := by decide +kernel
theorem dX7_init_27 : decode cX7_init 27 = .ok (.putfield 28, 3) := by decide +kernel
theorem dX7_init_30 : decode cX7_init 30 = .ok (.aload_n 0, 1) := by decide +kernel
theorem dX7_init_31 : decode cX7_init 31 = .ok (.bipush 60, 2) := by decide +kernel
theorem dX7_init_33 : decode cX7_init 33 = .ok (.newarray .int, 2) := by decide +kernel
theorem dX7_init_35 : decode cX7_init 35 = .ok (.putfield 32, 3) := by decide +kernel
theorem dX7_init_38 : decode cX7_init 38 = .ok (.aload_n 0, 1) := by decide +kernel
theorem dX7_init_39 : decode cX7_init 39 = .ok (.bipush 40, 2) := by decide +kernel
theorem dX7_init_41 : decode cX7_init 41 = .ok (.newarray .int, 2) := by decide +kernel
theorem dX7_init_43 : decode cX7_init 43 = .ok (.putfield 36, 3) := by decide +kernel
theorem dX7_init_46 : decode cX7_init 46 = .ok (.aload_n 0, 1) := by decide +kernel
theorem dX7_init_47 : decode cX7_init 47 = .ok (.bipush 8, 2) := by decide +kernel
theorem dX7_init_49 : decode cX7_init 49 = .ok (.anewarray 39, 3) := by decide +kernel
theorem dX7_init_52 : decode cX7_init 52 = .ok (.putfield 41, 3) := by decide +kernel
theorem dX7_init_55 : decode cX7_init 55 = .ok (.aload_n 0, 1) := by decide +kernel
theorem dX7_init_56 : decode cX7_init 56 = .ok (.new 45, 3) := by decide +kernel
theorem dX7_init_59 : decode cX7_init 59 = .ok (.dup, 1) := by decide +kernel
theorem dX7_init_60 : decode cX7_init 60 = .ok (.invokespecial 47, 3) := by decide +kernel
theorem dX7_init_63 : decode cX7_init 63 = .ok (.putfield 48, 3) := by decide +kernel
theorem dX7_init_66 : decode cX7_init 66 = .ok (.aload_n 0, 1) := by decide +kernel
theorem dX7_init_67 : decode cX7_init 67 = .ok (.iconst 4, 1) := by decide +kernel
theorem dX7_init_68 : decode cX7_init 68 = .ok (.newarray .int, 2) := by decide +kernel
theorem dX7_init_70 : decode cX7_init 70 = .ok (.putfield 52, 3) := by decide +kernel
theorem dX7_init_73 : decode cX7_init 73 = .ok (.aload_n 0, 1) := by decide +kernel
theorem dX7_init_74 : decode cX7_init 74 = .ok (.new 55, 3) := by decide +kernel
theorem dX7_init_77 : decode cX7_init 77 = .ok (.dup, 1) := by decide +kernel
theorem dX7_init_78 : decode cX7_init 78 = .ok (.invokespecial 57, 3) := by decide +kernel
theorem dX7_init_81 : decode cX7_init 81 = .ok (.putfield 58, 3) := by decide +kernel
theorem dX7_init_84 : decode cX7_init 84 = .ok (.aload_n 0, 1) := by decide +kernel
theorem dX7_init_85 : decode cX7_init 85 = .ok (.new 62, 3) := by decide +kernel
theorem dX7_init_88 : decode cX7_init 88 = .ok (.dup, 1) := by decide +kernel
theorem dX7_init_89 : decode cX7_init 89 = .ok (.invokespecial 64, 3) := by decide +kernel
theorem dX7_init_92 : decode cX7_init 92 = .ok (.putfield 65, 3) := by decide +kernel
theorem dX7_init_95 : decode cX7_init 95 = .ok (.aload_n 0, 1) := by decide +kernel
theorem dX7_init_96 : decode cX7_init 96 = .ok (.new 69, 3) := by decide +kernel
theorem dX7_init_99 : decode cX7_init 99 = .ok (.dup, 1) := by decide +kernel
theorem dX7_init_100 : decode cX7_init 100 = .ok (.invokespecial 71, 3) := by decide +kernel
theorem dX7_init_103 : decode cX7_init 103 = .ok (.putfield 72, 3) := by decide +kernel
theorem dX7_init_106 : decode cX7_init 106 = .ok (.aload_n 0, 1) := by decide +kernel
theorem dX7_init_107 : decode cX7_init 107 = .ok (.iconst 1, 1) := by decide +kernel
theorem dX7_init_108 : decode cX7_init 108 = .ok (.putfield 76, 3) := by decide +kernel
theorem dX7_init_111 : decode cX7_init 111 = .ok (.iconst 0, 1) := by decide +kernel
theorem dX7_init_112 : decode cX7_init 112 = .ok (.istore_n 1, 1) := by decide +kernel
theorem dX7_init_113 : decode cX7_init 113 = .ok (.iload_n 1, 1) := by decide +kernel
theorem dX7_init_114 : decode cX7_init 114 = .ok (.iconst 4, 1) := by decide +kernel
theorem dX7_init_115 : decode cX7_init 115 = .ok (.if_icmp .ge 22, 3) := by decide +kernel
theorem dX7_init_118 : decode cX7_init 118 = .ok (.aload_n 0, 1) := by decide +kernel
theorem dX7_init_119 : decode cX7_init 119 = .ok (.getfield 13, 3) := by decide +kernel
theorem dX7_init_122 : decode cX7_init 122 = .ok (.iload_n 1, 1) := by decide +kernel
theorem dX7_init_123 : decode cX7_init 123 = .ok (.new 11, 3) := by decide +kernel
theorem dX7_init_126 : decode cX7_init 126 = .ok (.dup, 1) := by decide +kernel
theorem dX7_init_127 : decode cX7_init 127 = .ok (.invokespecial 80, 3) := by decide +kernel
theorem dX7_init_130 : decode cX7_init 130 = .ok (.aastore, 1) := by decide +kernel
theorem dX7_init_131 : decode cX7_init 131 = .ok (.iinc 1 1, 3) := by decide +kernel
theorem dX7_init_134 : decode cX7_init 134 = .ok (.goto (-21), 3) := by decide +kernel
theorem dX7_init_137 : decode cX7_init 137 = .ok (.iconst 0, 1) := by decide +kernel
theorem dX7_init_138 : decode cX7_init 138 = .ok (.istore_n 1, 1) := by decide +kernel
theorem dX7_init_139 : decode cX7_init 139 = .ok (.iload_n 1, 1) := by decide +kernel
theorem dX7_init_140 : decode cX7_init 140 = .ok (.bipush 8, 2) := by decide +kernel
theorem dX7_init_142 : decode cX7_init 142 = .ok (.if_icmp .ge 22, 3) := by decide +kernel
theorem dX7_init_145 : decode cX7_init 145 = .ok (.aload_n 0, 1) := by decide +kernel
theorem dX7_init_146 : decode cX7_init 146 = .ok (.getfield 41, 3) := by decide +kernel
theorem dX7_init_149 : decode cX7_init 149 = .ok (.iload_n 1, 1) := by decide +kernel
theorem dX7_init_150 : decode cX7_init 150 = .ok (.new 39, 3) := by decide +kernel
theorem dX7_init_153 : decode cX7_init 153 = .ok (.dup, 1) := by decide +kernel
theorem dX7_init_154 : decode cX7_init 154 = .ok (.invokespecial 81, 3) := by decide +kernel
theorem dX7_init_157 : decode cX7_init 157 = .ok (.aastore, 1) := by decide +kernel
theorem dX7_init_158 : decode cX7_init 158 = .ok (.iinc 1 1, 3) := by decide +kernel
theorem dX7_init_161 : decode cX7_init 161 = .ok (.goto (-22), 3) := by decide +kernel
theorem dX7_init_164 : decode cX7_init 164 = .ok (.return_, 1) := by decide +kernel
theorem dX7_words_0 : decode cX7_words 0 = .ok (.aload_n 0, 1) := by decide +kernel
theorem dX7_words_1 : decode cX7_words 1 = .ok (.iconst 0, 1) := by decide +kernel
theorem dX7_words_2 : decode cX7_words 2 = .ok (.putfield 82, 3) := by decide +kernel
theorem dX7_words_5 : decode cX7_words 5 = .ok (.iload_n 1, 1) := by decide +kernel
theorem dX7_words_6 : decode cX7_words 6 = .ok (.invokestatic 86, 3) := by decide +kernel
theorem dX7_words_9 : decode cX7_words 9 = .ok (.ifCond .ne 5, 3) := by decide +kernel
theorem dX7_words_12 : decode cX7_words 12 = .ok (.iconst (-1), 1) := by decide +kernel
theorem dX7_words_13 : decode cX7_words 13 = .ok (.ireturn, 1) := by decide +kernel
theorem dX7_words_14 : decode cX7_words 14 = .ok (.iload_n 2, 1) := by decide +kernel
theorem dX7_words_15 : decode cX7_words 15 = .ok (.iconst 3, 1) := by decide +kernel
theorem dX7_words_16 : decode cX7_words 16 = .ok (.invokestatic 90, 3) := by decide +kernel
theorem dX7_words_19 : decode cX7_words 19 = .ok (.ifCond .ne 6, 3) := by decide +kernel
theorem dX7_words_22 : decode cX7_words 22 = .ok (.bipush (-2), 2) := by decide +kernel
theorem dX7_words_24 : decode cX7_words 24 = .ok (.ireturn, 1) := by decide +kernel
theorem dX7_words_25 : decode cX7_words 25 = .ok (.aload_n 0, 1) := by decide +kernel
theorem dX7_words_26 : decode cX7_words 26 = .ok (.getfield 13, 3) := by decide +kernel
theorem dX7_words_29 : decode cX7_words 29 = .ok (.iload_n 1, 1) := by decide +kernel
theorem dX7_words_30 : decode cX7_words 30 = .ok (.aaload, 1) := by decide +kernel
theorem dX7_words_31 : decode cX7_words 31 = .ok (.iload_n 2, 1) := by decide +kernel
theorem dX7_words_32 : decode cX7_words 32 = .ok (.iload_n 3, 1) := by decide +kernel
theorem dX7_words_33 : decode cX7_words 33 = .ok (.iload 4, 2) := by decide +kernel
theorem dX7_words_35 : decode cX7_words 35 = .ok (.invokevirtual 94, 3) := by decide +kernel
theorem dX7_words_38 : decode cX7_words 38 = .ok (.istore 5, 2) := by decide +kernel
theorem dX7_words_40 : decode cX7_words 40 = .ok (.iload 5, 2) := by decide +kernel
theorem dX7_words_42 : decode cX7_words 42 = .ok (.ifCond .eq 10, 3) := by decide +kernel
theorem dX7_words_45 : decode cX7_words 45 = .ok (.aload_n 0, 1) := by decide +kernel
theorem dX7_words_46 : decode cX7_words 46 = .ok (.iload 5, 2) := by decide +kernel
theorem dX7_words_48 : decode cX7_words 48 = .ok (.invokevirtual 98, 3) := by decide +kernel
theorem dX7_words_51 : decode cX7_words 51 = .ok (.ireturn, 1) := by decide +kernel
theorem dX7_words_52 : decode cX7_words 52 = .ok (.aload_n 0, 1) := by decide +kernel
theorem dX7_words_53 : decode cX7_words 53 = .ok (.getfield 20, 3) := by decide +kernel
theorem dX7_words_56 : decode cX7_words 56 = .ok (.aload_n 0, 1) := by decide +kernel
theorem dX7_words_57 : decode cX7_words 57 = .ok (.getfield 13, 3) := by decide +kernel
theorem dX7_words_60 : decode cX7_words 60 = .ok (.iload_n 1, 1) := by decide +kernel
theorem dX7_words_61 : decode cX7_words 61 = .ok (.aaload, 1) := by decide +kernel
theorem dX7_words_62 : decode cX7_words 62 = .ok (.iload_n 3, 1) := by decide +kernel
theorem dX7_words_63 : decode cX7_words 63 = .ok (.iload 4, 2) := by decide +kernel
theorem dX7_words_65 : decode cX7_words 65 = .ok (.invokevirtual 102, 3) := by decide +kernel
theorem dX7_words_68 : decode cX7_words 68 = .ok (.istore 6, 2) := by decide +kernel
theorem dX7_words_70 : decode cX7_words 70 = .ok (.iload 6, 2) := by decide +kernel
theorem dX7_words_72 : decode cX7_words 72 = .ok (.bipush (-9), 2) := by decide +kernel
theorem dX7_words_74 : decode cX7_words 74 = .ok (.if_icmp .eq 9, 3) := by decide +kernel
theorem dX7_words_77 : decode cX7_words 77 = .ok (.bipush (-100), 2) := by decide +kernel
theorem dX7_words_79 : decode cX7_words 79 = .ok (.iload 6, 2) := by decide +kernel
theorem dX7_words_81 : decode cX7_words 81 = .ok (.isub, 1) := by decide +kernel
theorem dX7_words_82 : decode cX7_words 82 = .ok (.ireturn, 1) := by decide +kernel
theorem dX7_words_83 : decode cX7_words 83 = .ok (.aload_n 0, 1) := by decide +kernel
theorem dX7_words_84 : decode cX7_words 84 = .ok (.invokevirtual 106, 3) := by decide +kernel
theorem dX7_words_87 : decode cX7_words 87 = .ok (.aload_n 0, 1) := by decide +kernel
theorem dX7_words_88 : decode cX7_words 88 = .ok (.getfield 109, 3) := by decide +kernel
theorem dX7_words_91 : decode cX7_words 91 = .ok (.ireturn, 1) := by decide +kernel
theorem dX7_ofWord_0 : decode cX7_ofWord 0 = .ok (.aload_n 0, 1) := by decide +kernel
theorem dX7_ofWord_1 : decode cX7_ofWord 1 = .ok (.iload_n 1, 1) := by decide +kernel
theorem dX7_ofWord_2 : decode cX7_ofWord 2 = .ok (.invokevirtual 112, 3) := by decide +kernel
theorem dX7_ofWord_5 : decode cX7_ofWord 5 = .ok (.ifCond .ne 5, 3) := by decide +kernel
theorem dX7_ofWord_8 : decode cX7_ofWord 8 = .ok (.iconst (-1), 1) := by decide +kernel
theorem dX7_ofWord_9 : decode cX7_ofWord 9 = .ok (.ireturn, 1) := by decide +kernel
theorem dX7_ofWord_10 : decode cX7_ofWord 10 = .ok (.aload_n 0, 1) := by decide +kernel
theorem dX7_ofWord_11 : decode cX7_ofWord 11 = .ok (.getfield 28, 3) := by decide +kernel
theorem dX7_ofWord_14 : decode cX7_ofWord 14 = .ok (.iload_n 1, 1) := by decide +kernel
theorem dX7_ofWord_15 : decode cX7_ofWord 15 = .ok (.aaload, 1) := by decide +kernel
theorem dX7_ofWord_16 : decode cX7_ofWord 16 = .ok (.astore_n 3, 1) := by decide +kernel
theorem dX7_ofWord_17 : decode cX7_ofWord 17 = .ok (.iload_n 2, 1) := by decide +kernel
theorem dX7_ofWord_18 : decode cX7_ofWord 18 = .ok (.ifCond .ne 8, 3) := by decide +kernel
theorem dX7_ofWord_21 : decode cX7_ofWord 21 = .ok (.aload_n 3, 1) := by decide +kernel
theorem dX7_ofWord_22 : decode cX7_ofWord 22 = .ok (.getfield 115, 3) := by decide +kernel
theorem dX7_ofWord_25 : decode cX7_ofWord 25 = .ok (.ireturn, 1) := by decide +kernel
theorem dX7_ofWord_26 : decode cX7_ofWord 26 = .ok (.iload_n 2, 1) := by decide +kernel
theorem dX7_ofWord_27 : decode cX7_ofWord 27 = .ok (.iconst 1, 1) := by decide +kernel
theorem dX7_ofWord_28 : decode cX7_ofWord 28 = .ok (.if_icmp .ne 8, 3) := by decide +kernel
theorem dX7_ofWord_31 : decode cX7_ofWord 31 = .ok (.aload_n 3, 1) := by decide +kernel
theorem dX7_ofWord_32 : decode cX7_ofWord 32 = .ok (.getfield 118, 3) := by decide +kernel
theorem dX7_ofWord_35 : decode cX7_ofWord 35 = .ok (.ireturn, 1) := by decide +kernel
theorem dX7_ofWord_36 : decode cX7_ofWord 36 = .ok (.iload_n 2, 1) := by decide +kernel
theorem dX7_ofWord_37 : decode cX7_ofWord 37 = .ok (.iconst 2, 1) := by decide +kernel
theorem dX7_ofWord_38 : decode cX7_ofWord 38 = .ok (.if_icmp .ne 8, 3) := by decide +kernel
theorem dX7_ofWord_41 : decode cX7_ofWord 41 = .ok (.aload_n 3, 1) := by decide +kernel
theorem dX7_ofWord_42 : decode cX7_ofWord 42 = .ok (.invokevirtual 121, 3) := by decide +kernel
theorem dX7_ofWord_45 : decode cX7_ofWord 45 = .ok (.ireturn, 1) := by decide +kernel
theorem dX7_ofWord_46 : decode cX7_ofWord 46 = .ok (.iload_n 2, 1) := by decide +kernel
theorem dX7_ofWord_47 : decode cX7_ofWord 47 = .ok (.iconst 3, 1) := by decide +kernel
theorem dX7_ofWord_48 : decode cX7_ofWord 48 = .ok (.if_icmp .ne 16, 3) := by decide +kernel
theorem dX7_ofWord_51 : decode cX7_ofWord 51 = .ok (.aload_n 3, 1) := by decide +kernel
theorem dX7_ofWord_52 : decode cX7_ofWord 52 = .ok (.aload_n 0, 1) := by decide +kernel
theorem dX7_ofWord_53 : decode cX7_ofWord 53 = .ok (.getfield 32, 3) := by decide +kernel
theorem dX7_ofWord_56 : decode cX7_ofWord 56 = .ok (.aload_n 0, 1) := by decide +kernel
theorem dX7_ofWord_57 : decode cX7_ofWord 57 = .ok (.getfield 125, 3) := by decide +kernel
theorem dX7_ofWord_60 : decode cX7_ofWord 60 = .ok (.invokevirtual 128, 3) := by decide +kernel
theorem dX7_ofWord_63 : decode cX7_ofWord 63 = .ok (.ireturn, 1) := by decide +kernel
theorem dX7_ofWord_64 : decode cX7_ofWord 64 = .ok (.iload_n 2, 1) := by decide +kernel
theorem dX7_ofWord_65 : decode cX7_ofWord 65 = .ok (.bipush 10, 2) := by decide +kernel
theorem dX7_ofWord_67 : decode cX7_ofWord 67 = .ok (.if_icmp .lt 9, 3) := by decide +kernel
theorem dX7_ofWord_70 : decode cX7_ofWord 70 = .ok (.iload_n 2, 1) := by decide +kernel
theorem dX7_ofWord_71 : decode cX7_ofWord 71 = .ok (.bipush 14, 2) := by decide +kernel
theorem dX7_ofWord_73 : decode cX7_ofWord 73 = .ok (.if_icmp .lt 6, 3) := by decide +kernel
theorem dX7_ofWord_76 : decode cX7_ofWord 76 = .ok (.bipush (-2), 2) := by decide +kernel
theorem dX7_ofWord_78 : decode cX7_ofWord 78 = .ok (.ireturn, 1) := by decide +kernel
theorem dX7_ofWord_79 : decode cX7_ofWord 79 = .ok (.iload_n 2, 1) := by decide +kernel
theorem dX7_ofWord_80 : decode cX7_ofWord 80 = .ok (.bipush 10, 2) := by decide +kernel
theorem dX7_ofWord_82 : decode cX7_ofWord 82 = .ok (.isub, 1) := by decide +kernel
theorem dX7_ofWord_83 : decode cX7_ofWord 83 = .ok (.istore 4, 2) := by decide +kernel
theorem dX7_ofWord_85 : decode cX7_ofWord 85 = .ok (.iload 4, 2) := by decide +kernel
theorem dX7_ofWord_87 : decode cX7_ofWord 87 = .ok (.aload_n 3, 1) := by decide +kernel
theorem dX7_ofWord_88 : decode cX7_ofWord 88 = .ok (.getfield 118, 3) := by decide +kernel
theorem dX7_ofWord_91 : decode cX7_ofWord 91 = .ok (.if_icmp .ge 13, 3) := by decide +kernel
theorem dX7_ofWord_94 : decode cX7_ofWord 94 = .ok (.aload_n 3, 1) := by decide +kernel
theorem dX7_ofWord_95 : decode cX7_ofWord 95 = .ok (.getfield 132, 3) := by decide +kernel
theorem dX7_ofWord_98 : decode cX7_ofWord 98 = .ok (.iload 4, 2) := by decide +kernel
theorem dX7_ofWord_100 : decode cX7_ofWord 100 = .ok (.iaload, 1) := by decide +kernel
theorem dX7_ofWord_101 : decode cX7_ofWord 101 = .ok (.goto 5, 3) := by decide +kernel
theorem dX7_ofWord_104 : decode cX7_ofWord 104 = .ok (.bipush (-9), 2) := by decide +kernel
theorem dX7_ofWord_106 : decode cX7_ofWord 106 = .ok (.ireturn, 1) := by decide +kernel
theorem dX7_spell_0 : decode cX7_spell 0 = .ok (.aload_n 0, 1) := by decide +kernel
theorem dX7_spell_1 : decode cX7_spell 1 = .ok (.iload_n 1, 1) := by decide +kernel
theorem dX7_spell_2 : decode cX7_spell 2 = .ok (.invokevirtual 112, 3) := by decide +kernel
theorem dX7_spell_5 : decode cX7_spell 5 = .ok (.ifCond .eq 19, 3) := by decide +kernel
theorem dX7_spell_8 : decode cX7_spell 8 = .ok (.iload_n 2, 1) := by decide +kernel
theorem dX7_spell_9 : decode cX7_spell 9 = .ok (.aload_n 0, 1) := by decide +kernel
theorem dX7_spell_10 : decode cX7_spell 10 = .ok (.getfield 28, 3) := by decide +kernel
theorem dX7_spell_13 : decode cX7_spell 13 = .ok (.iload_n 1, 1) := by decide +kernel
theorem dX7_spell_14 : decode cX7_spell 14 = .ok (.aaload, 1) := by decide +kernel
theorem dX7_spell_15 : decode cX7_spell 15 = .ok (.getfield 118, 3) := by decide +kernel
theorem dX7_spell_18 : decode cX7_spell 18 = .ok (.invokestatic 90, 3) := by decide +kernel
theorem dX7_spell_21 : decode cX7_spell 21 = .ok (.ifCond .ne 5, 3) := by decide +kernel
theorem dX7_spell_24 : decode cX7_spell 24 = .ok (.iconst (-1), 1) := by decide +kernel
theorem dX7_spell_25 : decode cX7_spell 25 = .ok (.ireturn, 1) := by decide +kernel
theorem dX7_spell_26 : decode cX7_spell 26 = .ok (.iload_n 3, 1) := by decide +kernel
theorem dX7_spell_27 : decode cX7_spell 27 = .ok (.iconst 3, 1) := by decide +kernel
theorem dX7_spell_28 : decode cX7_spell 28 = .ok (.invokestatic 90, 3) := by decide +kernel
theorem dX7_spell_31 : decode cX7_spell 31 = .ok (.ifCond .ne 6, 3) := by decide +kernel
theorem dX7_spell_34 : decode cX7_spell 34 = .ok (.bipush (-2), 2) := by decide +kernel
theorem dX7_spell_36 : decode cX7_spell 36 = .ok (.ireturn, 1) := by decide +kernel
theorem dX7_spell_37 : decode cX7_spell 37 = .ok (.aload_n 0, 1) := by decide +kernel
theorem dX7_spell_38 : decode cX7_spell 38 = .ok (.getfield 28, 3) := by decide +kernel
theorem dX7_spell_41 : decode cX7_spell 41 = .ok (.iload_n 1, 1) := by decide +kernel
theorem dX7_spell_42 : decode cX7_spell 42 = .ok (.aaload, 1) := by decide +kernel
theorem dX7_spell_43 : decode cX7_spell 43 = .ok (.getfield 132, 3) := by decide +kernel
theorem dX7_spell_46 : decode cX7_spell 46 = .ok (.iload_n 2, 1) := by decide +kernel
theorem dX7_spell_47 : decode cX7_spell 47 = .ok (.iaload, 1) := by decide +kernel
theorem dX7_spell_48 : decode cX7_spell 48 = .ok (.istore 4, 2) := by decide +kernel
theorem dX7_spell_50 : decode cX7_spell 50 = .ok (.aload_n 0, 1) := by decide +kernel
theorem dX7_spell_51 : decode cX7_spell 51 = .ok (.getfield 28, 3) := by decide +kernel
theorem dX7_spell_54 : decode cX7_spell 54 = .ok (.iload_n 1, 1) := by decide +kernel
theorem dX7_spell_55 : decode cX7_spell 55 = .ok (.aaload, 1) := by decide +kernel
theorem dX7_spell_56 : decode cX7_spell 56 = .ok (.getfield 132, 3) := by decide +kernel
theorem dX7_spell_59 : decode cX7_spell 59 = .ok (.iload_n 2, 1) := by decide +kernel
theorem dX7_spell_60 : decode cX7_spell 60 = .ok (.iload_n 3, 1) := by decide +kernel
theorem dX7_spell_61 : decode cX7_spell 61 = .ok (.iastore, 1) := by decide +kernel
theorem dX7_spell_62 : decode cX7_spell 62 = .ok (.aload_n 0, 1) := by decide +kernel
theorem dX7_spell_63 : decode cX7_spell 63 = .ok (.iconst 1, 1) := by decide +kernel
theorem dX7_spell_64 : decode cX7_spell 64 = .ok (.putfield 76, 3) := by decide +kernel
theorem dX7_spell_67 : decode cX7_spell 67 = .ok (.iload 4, 2) := by decide +kernel
theorem dX7_spell_69 : decode cX7_spell 69 = .ok (.ireturn, 1) := by decide +kernel
theorem dX7_say_0 : decode cX7_say 0 = .ok (.iload_n 1, 1) := by decide +kernel
theorem dX7_say_1 : decode cX7_say 1 = .ok (.iconst 3, 1) := by decide +kernel
theorem dX7_say_2 : decode cX7_say 2 = .ok (.invokestatic 90, 3) := by decide +kernel
theorem dX7_say_5 : decode cX7_say 5 = .ok (.ifCond .ne 6, 3) := by decide +kernel
theorem dX7_say_8 : decode cX7_say 8 = .ok (.bipush (-2), 2) := by decide +kernel
theorem dX7_say_10 : decode cX7_say 10 = .ok (.ireturn, 1) := by decide +kernel
theorem dX7_say_11 : decode cX7_say 11 = .ok (.aload_n 0, 1) := by decide +kernel
theorem dX7_say_12 : decode cX7_say 12 = .ok (.getfield 109, 3) := by decide +kernel
theorem dX7_say_15 : decode cX7_say 15 = .ok (.ifCond .ne 6, 3) := by decide +kernel
theorem dX7_say_18 : decode cX7_say 18 = .ok (.bipush (-3), 2) := by decide +kernel
theorem dX7_say_20 : decode cX7_say 20 = .ok (.ireturn, 1) := by decide +kernel
theorem dX7_say_21 : decode cX7_say 21 = .ok (.aload_n 0, 1) := by decide +kernel
theorem dX7_say_22 : decode cX7_say 22 = .ok (.getfield 125, 3) := by decide +kernel
theorem dX7_say_25 : decode cX7_say 25 = .ok (.bipush 60, 2) := by decide +kernel
theorem dX7_say_27 : decode cX7_say 27 = .ok (.if_icmp .lt 6, 3) := by decide +kernel
theorem dX7_say_30 : decode cX7_say 30 = .ok (.bipush (-4), 2) := by decide +kernel
theorem dX7_say_32 : decode cX7_say 32 = .ok (.ireturn, 1) := by decide +kernel
theorem dX7_say_33 : decode cX7_say 33 = .ok (.aload_n 0, 1) := by decide +kernel
theorem dX7_say_34 : decode cX7_say 34 = .ok (.getfield 32, 3) := by decide +kernel
theorem dX7_say_37 : decode cX7_say 37 = .ok (.aload_n 0, 1) := by decide +kernel
theorem dX7_say_38 : decode cX7_say 38 = .ok (.getfield 125, 3) := by decide +kernel
theorem dX7_say_41 : decode cX7_say 41 = .ok (.iload_n 1, 1) := by decide +kernel
theorem dX7_say_42 : decode cX7_say 42 = .ok (.iastore, 1) := by decide +kernel
theorem dX7_say_43 : decode cX7_say 43 = .ok (.aload_n 0, 1) := by decide +kernel
theorem dX7_say_44 : decode cX7_say 44 = .ok (.dup, 1) := by decide +kernel
theorem dX7_say_45 : decode cX7_say 45 = .ok (.getfield 125, 3) := by decide +kernel
theorem dX7_say_48 : decode cX7_say 48 = .ok (.iconst 1, 1) := by decide +kernel
theorem dX7_say_49 : decode cX7_say 49 = .ok (.iadd, 1) := by decide +kernel
theorem dX7_say_50 : decode cX7_say 50 = .ok (.putfield 125, 3) := by decide +kernel
theorem dX7_say_53 : decode cX7_say 53 = .ok (.aload_n 0, 1) := by decide +kernel
theorem dX7_say_54 : decode cX7_say 54 = .ok (.getfield 28, 3) := by decide +kernel
theorem dX7_say_57 : decode cX7_say 57 = .ok (.aload_n 0, 1) := by decide +kernel
theorem dX7_say_58 : decode cX7_say 58 = .ok (.getfield 109, 3) := by decide +kernel
theorem dX7_say_61 : decode cX7_say 61 = .ok (.aload_n 0, 1) := by decide +kernel
theorem dX7_say_62 : decode cX7_say 62 = .ok (.getfield 32, 3) := by decide +kernel
theorem dX7_say_65 : decode cX7_say 65 = .ok (.aload_n 0, 1) := by decide +kernel
theorem dX7_say_66 : decode cX7_say 66 = .ok (.getfield 125, 3) := by decide +kernel
theorem dX7_say_69 : decode cX7_say 69 = .ok (.invokestatic 135, 3) := by decide +kernel
theorem dX7_say_72 : decode cX7_say 72 = .ok (.ireturn, 1) := by decide +kernel
theorem dX7_hush_0 : decode cX7_hush 0 = .ok (.aload_n 0, 1) := by decide +kernel
theorem dX7_hush_1 : decode cX7_hush 1 = .ok (.getfield 109, 3) := by decide +kernel
theorem dX7_hush_4 : decode cX7_hush 4 = .ok (.ifCond .ne 6, 3) := by decide +kernel
theorem dX7_hush_7 : decode cX7_hush 7 = .ok (.bipush (-3), 2) := by decide +kernel
theorem dX7_hush_9 : decode cX7_hush 9 = .ok (.ireturn, 1) := by decide +kernel
theorem dX7_hush_10 : decode cX7_hush 10 = .ok (.aload_n 0, 1) := by decide +kernel
theorem dX7_hush_11 : decode cX7_hush 11 = .ok (.getfield 125, 3) := by decide +kernel
theorem dX7_hush_14 : decode cX7_hush 14 = .ok (.istore_n 1, 1) := by decide +kernel
theorem dX7_hush_15 : decode cX7_hush 15 = .ok (.aload_n 0, 1) := by decide +kernel
theorem dX7_hush_16 : decode cX7_hush 16 = .ok (.iconst 0, 1) := by decide +kernel
theorem dX7_hush_17 : decode cX7_hush 17 = .ok (.putfield 125, 3) := by decide +kernel
theorem dX7_hush_20 : decode cX7_hush 20 = .ok (.iload_n 1, 1) := by decide +kernel
theorem dX7_hush_21 : decode cX7_hush 21 = .ok (.ireturn, 1) := by decide +kernel
theorem dX7_row_0 : decode cX7_row 0 = .ok (.aload_n 0, 1) := by decide +kernel
theorem dX7_row_1 : decode cX7_row 1 = .ok (.iconst 0, 1) := by decide +kernel
theorem dX7_row_2 : decode cX7_row 2 = .ok (.putfield 82, 3) := by decide +kernel
theorem dX7_row_5 : decode cX7_row 5 = .ok (.iload_n 1, 1) := by decide +kernel
theorem dX7_row_6 : decode cX7_row 6 = .ok (.invokestatic 86, 3) := by decide +kernel
theorem dX7_row_9 : decode cX7_row 9 = .ok (.ifCond .ne 5, 3) := by decide +kernel
theorem dX7_row_12 : decode cX7_row 12 = .ok (.iconst (-1), 1) := by decide +kernel
theorem dX7_row_13 : decode cX7_row 13 = .ok (.ireturn, 1) := by decide +kernel
theorem dX7_row_14 : decode cX7_row 14 = .ok (.iload_n 2, 1) := by decide +kernel
theorem dX7_row_15 : decode cX7_row 15 = .ok (.iconst 3, 1) := by decide +kernel
theorem dX7_row_16 : decode cX7_row 16 = .ok (.invokestatic 90, 3) := by decide +kernel
theorem dX7_row_19 : decode cX7_row 19 = .ok (.ifCond .eq 23, 3) := by decide +kernel
theorem dX7_row_22 : decode cX7_row 22 = .ok (.iload 4, 2) := by decide +kernel
theorem dX7_row_24 : decode cX7_row 24 = .ok (.ifCond .lt 18, 3) := by decide +kernel
theorem dX7_row_27 : decode cX7_row 27 = .ok (.iload 4, 2) := by decide +kernel
theorem dX7_row_29 : decode cX7_row 29 = .ok (.bipush 40, 2) := by decide +kernel
theorem dX7_row_31 : decode cX7_row 31 = .ok (.if_icmp .gt 11, 3) := by decide +kernel
theorem dX7_row_34 : decode cX7_row 34 = .ok (.iload 5, 2) := by decide +kernel
theorem dX7_row_36 : decode cX7_row 36 = .ok (.invokestatic 139, 3) := by decide +kernel
theorem dX7_row_39 : decode cX7_row 39 = .ok (.ifCond .ne 6, 3) := by decide +kernel
theorem dX7_row_42 : decode cX7_row 42 = .ok (.bipush (-2), 2) := by decide +kernel
theorem dX7_row_44 : decode cX7_row 44 = .ok (.ireturn, 1) := by decide +kernel
theorem dX7_row_45 : decode cX7_row 45 = .ok (.aload_n 0, 1) := by decide +kernel
theorem dX7_row_46 : decode cX7_row 46 = .ok (.getfield 13, 3) := by decide +kernel
theorem dX7_row_49 : decode cX7_row 49 = .ok (.iload_n 1, 1) := by decide +kernel
theorem dX7_row_50 : decode cX7_row 50 = .ok (.aaload, 1) := by decide +kernel
theorem dX7_row_51 : decode cX7_row 51 = .ok (.iload_n 2, 1) := by decide +kernel
theorem dX7_row_52 : decode cX7_row 52 = .ok (.iload_n 3, 1) := by decide +kernel
theorem dX7_row_53 : decode cX7_row 53 = .ok (.iload 4, 2) := by decide +kernel
theorem dX7_row_55 : decode cX7_row 55 = .ok (.invokevirtual 94, 3) := by decide +kernel
theorem dX7_row_58 : decode cX7_row 58 = .ok (.istore 6, 2) := by decide +kernel
theorem dX7_row_60 : decode cX7_row 60 = .ok (.iload 6, 2) := by decide +kernel
theorem dX7_row_62 : decode cX7_row 62 = .ok (.ifCond .eq 10, 3) := by decide +kernel
theorem dX7_row_65 : decode cX7_row 65 = .ok (.aload_n 0, 1) := by decide +kernel
theorem dX7_row_66 : decode cX7_row 66 = .ok (.iload 6, 2) := by decide +kernel
theorem dX7_row_68 : decode cX7_row 68 = .ok (.invokevirtual 98, 3) := by decide +kernel
theorem dX7_row_71 : decode cX7_row 71 = .ok (.ireturn, 1) := by decide +kernel
theorem dX7_row_72 : decode cX7_row 72 = .ok (.aload_n 0, 1) := by decide +kernel
theorem dX7_row_73 : decode cX7_row 73 = .ok (.getfield 109, 3) := by decide +kernel
theorem dX7_row_76 : decode cX7_row 76 = .ok (.ifCond .ne 6, 3) := by decide +kernel
theorem dX7_row_79 : decode cX7_row 79 = .ok (.bipush (-3), 2) := by decide +kernel
theorem dX7_row_81 : decode cX7_row 81 = .ok (.ireturn, 1) := by decide +kernel
theorem dX7_row_82 : decode cX7_row 82 = .ok (.aload_n 0, 1) := by decide +kernel
theorem dX7_row_83 : decode cX7_row 83 = .ok (.getfield 13, 3) := by decide +kernel
theorem dX7_row_86 : decode cX7_row 86 = .ok (.iload_n 1, 1) := by decide +kernel
theorem dX7_row_87 : decode cX7_row 87 = .ok (.aaload, 1) := by decide +kernel
theorem dX7_row_88 : decode cX7_row 88 = .ok (.aload_n 0, 1) := by decide +kernel
theorem dX7_row_89 : decode cX7_row 89 = .ok (.getfield 36, 3) := by decide +kernel
theorem dX7_row_92 : decode cX7_row 92 = .ok (.iload_n 3, 1) := by decide +kernel
theorem dX7_row_93 : decode cX7_row 93 = .ok (.iload 4, 2) := by decide +kernel
theorem dX7_row_95 : decode cX7_row 95 = .ok (.invokevirtual 142, 3) := by decide +kernel
theorem dX7_row_98 : decode cX7_row 98 = .ok (.ifCond .ne 6, 3) := by decide +kernel
theorem dX7_row_101 : decode cX7_row 101 = .ok (.bipush (-2), 2) := by decide +kernel
theorem dX7_row_103 : decode cX7_row 103 = .ok (.ireturn, 1) := by decide +kernel
theorem dX7_row_104 : decode cX7_row 104 = .ok (.iload 5, 2) := by decide +kernel
theorem dX7_row_106 : decode cX7_row 106 = .ok (.bipush 10, 2) := by decide +kernel
theorem dX7_row_108 : decode cX7_row 108 = .ok (.if_icmp .ge 12, 3) := by decide +kernel
theorem dX7_row_111 : decode cX7_row 111 = .ok (.aload_n 0, 1) := by decide +kernel
theorem dX7_row_112 : decode cX7_row 112 = .ok (.iload 4, 2) := by decide +kernel
theorem dX7_row_114 : decode cX7_row 114 = .ok (.iload 5, 2) := by decide +kernel
theorem dX7_row_116 : decode cX7_row 116 = .ok (.invokevirtual 146, 3) := by decide +kernel
theorem dX7_row_119 : decode cX7_row 119 = .ok (.ireturn, 1) := by decide +kernel
theorem dX7_row_120 : decode cX7_row 120 = .ok (.iload 5, 2) := by decide +kernel
theorem dX7_row_122 : decode cX7_row 122 = .ok (.bipush 10, 2) := by decide +kernel
theorem dX7_row_124 : decode cX7_row 124 = .ok (.isub, 1) := by decide +kernel
theorem dX7_row_125 : decode cX7_row 125 = .ok (.istore 7, 2) := by decide +kernel
theorem dX7_row_127 : decode cX7_row 127 = .ok (.aload_n 0, 1) := by decide +kernel
theorem dX7_row_128 : decode cX7_row 128 = .ok (.iload 7, 2) := by decide +kernel
theorem dX7_row_130 : decode cX7_row 130 = .ok (.invokevirtual 112, 3) := by decide +kernel
theorem dX7_row_133 : decode cX7_row 133 = .ok (.ifCond .eq 22, 3) := by decide +kernel
theorem dX7_row_136 : decode cX7_row 136 = .ok (.aload_n 0, 1) := by decide +kernel
theorem dX7_row_137 : decode cX7_row 137 = .ok (.getfield 28, 3) := by decide +kernel
theorem dX7_row_140 : decode cX7_row 140 = .ok (.iload 7, 2) := by decide +kernel
theorem dX7_row_142 : decode cX7_row 142 = .ok (.aaload, 1) := by decide +kernel
theorem dX7_row_143 : decode cX7_row 143 = .ok (.aload_n 0, 1) := by decide +kernel
theorem dX7_row_144 : decode cX7_row 144 = .ok (.getfield 36, 3) := by decide +kernel
theorem dX7_row_147 : decode cX7_row 147 = .ok (.iload 4, 2) := by decide +kernel
theorem dX7_row_149 : decode cX7_row 149 = .ok (.invokevirtual 128, 3) := by decide +kernel
theorem dX7_row_152 : decode cX7_row 152 = .ok (.goto 5, 3) := by decide +kernel
theorem dX7_row_155 : decode cX7_row 155 = .ok (.bipush (-9), 2) := by decide +kernel
theorem dX7_row_157 : decode cX7_row 157 = .ok (.ireturn, 1) := by decide +kernel
theorem dX7_over_0 : decode cX7_over 0 = .ok (.aload_n 0, 1) := by decide +kernel
theorem dX7_over_1 : decode cX7_over 1 = .ok (.iload_n 1, 1) := by decide +kernel
theorem dX7_over_2 : decode cX7_over 2 = .ok (.invokevirtual 112, 3) := by decide +kernel
theorem dX7_over_5 : decode cX7_over 5 = .ok (.ifCond .eq 11, 3) := by decide +kernel
theorem dX7_over_8 : decode cX7_over 8 = .ok (.aload_n 0, 1) := by decide +kernel
theorem dX7_over_9 : decode cX7_over 9 = .ok (.iload_n 2, 1) := by decide +kernel
theorem dX7_over_10 : decode cX7_over 10 = .ok (.invokevirtual 112, 3) := by decide +kernel
theorem dX7_over_13 : decode cX7_over 13 = .ok (.ifCond .ne 5, 3) := by decide +kernel
theorem dX7_over_16 : decode cX7_over 16 = .ok (.iconst (-1), 1) := by decide +kernel
theorem dX7_over_17 : decode cX7_over 17 = .ok (.ireturn, 1) := by decide +kernel
theorem dX7_over_18 : decode cX7_over 18 = .ok (.aload_n 0, 1) := by decide +kernel
theorem dX7_over_19 : decode cX7_over 19 = .ok (.getfield 28, 3) := by decide +kernel
theorem dX7_over_22 : decode cX7_over 22 = .ok (.iload_n 1, 1) := by decide +kernel
theorem dX7_over_23 : decode cX7_over 23 = .ok (.aaload, 1) := by decide +kernel
theorem dX7_over_24 : decode cX7_over 24 = .ok (.aload_n 0, 1) := by decide +kernel
theorem dX7_over_25 : decode cX7_over 25 = .ok (.getfield 28, 3) := by decide +kernel
theorem dX7_over_28 : decode cX7_over 28 = .ok (.iload_n 2, 1) := by decide +kernel
theorem dX7_over_29 : decode cX7_over 29 = .ok (.aaload, 1) := by decide +kernel
theorem dX7_over_30 : decode cX7_over 30 = .ok (.invokevirtual 150, 3) := by decide +kernel
theorem dX7_over_33 : decode cX7_over 33 = .ok (.ireturn, 1) := by decide +kernel
theorem dX7_all_0 : decode cX7_all 0 = .ok (.iload_n 1, 1) := by decide +kernel
theorem dX7_all_1 : decode cX7_all 1 = .ok (.iconst (-1), 1) := by decide +kernel
theorem dX7_all_2 : decode cX7_all 2 = .ok (.if_icmp .lt 9, 3) := by decide +kernel
theorem dX7_all_5 : decode cX7_all 5 = .ok (.iload_n 1, 1) := by decide +kernel
theorem dX7_all_6 : decode cX7_all 6 = .ok (.bipush 16, 2) := by decide +kernel
theorem dX7_all_8 : decode cX7_all 8 = .ok (.if_icmp .lt 6, 3) := by decide +kernel
theorem dX7_all_11 : decode cX7_all 11 = .ok (.bipush (-2), 2) := by decide +kernel
theorem dX7_all_13 : decode cX7_all 13 = .ok (.ireturn, 1) := by decide +kernel
theorem dX7_all_14 : decode cX7_all 14 = .ok (.aload_n 0, 1) := by decide +kernel
theorem dX7_all_15 : decode cX7_all 15 = .ok (.getfield 109, 3) := by decide +kernel
theorem dX7_all_18 : decode cX7_all 18 = .ok (.ifCond .ne 6, 3) := by decide +kernel
theorem dX7_all_21 : decode cX7_all 21 = .ok (.bipush (-3), 2) := by decide +kernel
theorem dX7_all_23 : decode cX7_all 23 = .ok (.ireturn, 1) := by decide +kernel
theorem dX7_all_24 : decode cX7_all 24 = .ok (.aload_n 0, 1) := by decide +kernel
theorem dX7_all_25 : decode cX7_all 25 = .ok (.invokevirtual 154, 3) := by decide +kernel
theorem dX7_all_28 : decode cX7_all 28 = .ok (.iload_n 1, 1) := by decide +kernel
theorem dX7_all_29 : decode cX7_all 29 = .ok (.ifCond .ge 11, 3) := by decide +kernel
theorem dX7_all_32 : decode cX7_all 32 = .ok (.aload_n 0, 1) := by decide +kernel
theorem dX7_all_33 : decode cX7_all 33 = .ok (.getfield 65, 3) := by decide +kernel
theorem dX7_all_36 : decode cX7_all 36 = .ok (.getfield 157, 3) := by decide +kernel
theorem dX7_all_39 : decode cX7_all 39 = .ok (.ireturn, 1) := by decide +kernel
theorem dX7_all_40 : decode cX7_all 40 = .ok (.iload_n 1, 1) := by decide +kernel
theorem dX7_all_41 : decode cX7_all 41 = .ok (.aload_n 0, 1) := by decide +kernel
theorem dX7_all_42 : decode cX7_all 42 = .ok (.getfield 65, 3) := by decide +kernel
theorem dX7_all_45 : decode cX7_all 45 = .ok (.getfield 157, 3) := by decide +kernel
theorem dX7_all_48 : decode cX7_all 48 = .ok (.if_icmp .ge 15, 3) := by decide +kernel
theorem dX7_all_51 : decode cX7_all 51 = .ok (.aload_n 0, 1) := by decide +kernel
theorem dX7_all_52 : decode cX7_all 52 = .ok (.getfield 65, 3) := by decide +kernel
theorem dX7_all_55 : decode cX7_all 55 = .ok (.getfield 158, 3) := by decide +kernel
theorem dX7_all_58 : decode cX7_all 58 = .ok (.iload_n 1, 1) := by decide +kernel
theorem dX7_all_59 : decode cX7_all 59 = .ok (.iaload, 1) := by decide +kernel
theorem dX7_all_60 : decode cX7_all 60 = .ok (.goto 5, 3) := by decide +kernel
theorem dX7_all_63 : decode cX7_all 63 = .ok (.bipush (-9), 2) := by decide +kernel
theorem dX7_all_65 : decode cX7_all 65 = .ok (.ireturn, 1) := by decide +kernel
theorem dX7_have_0 : decode cX7_have 0 = .ok (.iload_n 1, 1) := by decide +kernel
theorem dX7_have_1 : decode cX7_have 1 = .ok (.invokestatic 159, 3) := by decide +kernel
theorem dX7_have_4 : decode cX7_have 4 = .ok (.ifCond .eq 10, 3) := by decide +kernel
theorem dX7_have_7 : decode cX7_have 7 = .ok (.aload_n 0, 1) := by decide +kernel
theorem dX7_have_8 : decode cX7_have 8 = .ok (.getfield 109, 3) := by decide +kernel
theorem dX7_have_11 : decode cX7_have 11 = .ok (.ifCond .ne 7, 3) := by decide +kernel
theorem dX7_have_14 : decode cX7_have 14 = .ok (.ldc2_w 162, 3) := by decide +kernel
theorem dX7_have_17 : decode cX7_have 17 = .ok (.lreturn, 1) := by decide +kernel
theorem dX7_have_18 : decode cX7_have 18 = .ok (.aload_n 0, 1) := by decide +kernel
theorem dX7_have_19 : decode cX7_have 19 = .ok (.invokevirtual 154, 3) := by decide +kernel
theorem dX7_have_22 : decode cX7_have 22 = .ok (.aload_n 0, 1) := by decide +kernel
theorem dX7_have_23 : decode cX7_have 23 = .ok (.getfield 72, 3) := by decide +kernel
theorem dX7_have_26 : decode cX7_have 26 = .ok (.aload_n 0, 1) := by decide +kernel
theorem dX7_have_27 : decode cX7_have 27 = .ok (.getfield 65, 3) := by decide +kernel
theorem dX7_have_30 : decode cX7_have 30 = .ok (.iload_n 1, 1) := by decide +kernel
theorem dX7_have_31 : decode cX7_have 31 = .ok (.invokevirtual 164, 3) := by decide +kernel
theorem dX7_have_34 : decode cX7_have 34 = .ok (.aload_n 0, 1) := by decide +kernel
theorem dX7_have_35 : decode cX7_have 35 = .ok (.getfield 72, 3) := by decide +kernel
theorem dX7_have_38 : decode cX7_have 38 = .ok (.getfield 168, 3) := by decide +kernel
theorem dX7_have_41 : decode cX7_have 41 = .ok (.iload_n 1, 1) := by decide +kernel
theorem dX7_have_42 : decode cX7_have 42 = .ok (.laload, 1) := by decide +kernel
theorem dX7_have_43 : decode cX7_have 43 = .ok (.lreturn, 1) := by decide +kernel
theorem dX7_free_0 : decode cX7_free 0 = .ok (.iload_n 1, 1) := by decide +kernel
theorem dX7_free_1 : decode cX7_free 1 = .ok (.invokestatic 159, 3) := by decide +kernel
theorem dX7_free_4 : decode cX7_free 4 = .ok (.ifCond .eq 10, 3) := by decide +kernel
theorem dX7_free_7 : decode cX7_free 7 = .ok (.aload_n 0, 1) := by decide +kernel
theorem dX7_free_8 : decode cX7_free 8 = .ok (.getfield 109, 3) := by decide +kernel
theorem dX7_free_11 : decode cX7_free 11 = .ok (.ifCond .ne 7, 3) := by decide +kernel
theorem dX7_free_14 : decode cX7_free 14 = .ok (.ldc2_w 162, 3) := by decide +kernel
theorem dX7_free_17 : decode cX7_free 17 = .ok (.lreturn, 1) := by decide +kernel
theorem dX7_free_18 : decode cX7_free 18 = .ok (.aload_n 0, 1) := by decide +kernel
theorem dX7_free_19 : decode cX7_free 19 = .ok (.invokevirtual 154, 3) := by decide +kernel
theorem dX7_free_22 : decode cX7_free 22 = .ok (.aload_n 0, 1) := by decide +kernel
theorem dX7_free_23 : decode cX7_free 23 = .ok (.getfield 72, 3) := by decide +kernel
theorem dX7_free_26 : decode cX7_free 26 = .ok (.aload_n 0, 1) := by decide +kernel
theorem dX7_free_27 : decode cX7_free 27 = .ok (.getfield 65, 3) := by decide +kernel
theorem dX7_free_30 : decode cX7_free 30 = .ok (.iload_n 1, 1) := by decide +kernel
theorem dX7_free_31 : decode cX7_free 31 = .ok (.invokevirtual 164, 3) := by decide +kernel
theorem dX7_free_34 : decode cX7_free 34 = .ok (.aload_n 0, 1) := by decide +kernel
theorem dX7_free_35 : decode cX7_free 35 = .ok (.getfield 72, 3) := by decide +kernel
theorem dX7_free_38 : decode cX7_free 38 = .ok (.getfield 172, 3) := by decide +kernel
theorem dX7_free_41 : decode cX7_free 41 = .ok (.iload_n 1, 1) := by decide +kernel
theorem dX7_free_42 : decode cX7_free 42 = .ok (.laload, 1) := by decide +kernel
theorem dX7_free_43 : decode cX7_free 43 = .ok (.lreturn, 1) := by decide +kernel
theorem dX7_longest_0 : decode cX7_longest 0 = .ok (.aload_n 0, 1) := by decide +kernel
theorem dX7_longest_1 : decode cX7_longest 1 = .ok (.getfield 109, 3) := by decide +kernel
theorem dX7_longest_4 : decode cX7_longest 4 = .ok (.ifCond .ne 6, 3) := by decide +kernel
theorem dX7_longest_7 : decode cX7_longest 7 = .ok (.bipush (-3), 2) := by decide +kernel
theorem dX7_longest_9 : decode cX7_longest 9 = .ok (.ireturn, 1) := by decide +kernel
theorem dX7_longest_10 : decode cX7_longest 10 = .ok (.aload_n 0, 1) := by decide +kernel
theorem dX7_longest_11 : decode cX7_longest 11 = .ok (.invokevirtual 154, 3) := by decide +kernel
theorem dX7_longest_14 : decode cX7_longest 14 = .ok (.aload_n 0, 1) := by decide +kernel
theorem dX7_longest_15 : decode cX7_longest 15 = .ok (.getfield 58, 3) := by decide +kernel
theorem dX7_longest_18 : decode cX7_longest 18 = .ok (.invokevirtual 175, 3) := by decide +kernel
theorem dX7_longest_21 : decode cX7_longest 21 = .ok (.ireturn, 1) := by decide +kernel
theorem dX7_spare_0 : decode cX7_spare 0 = .ok (.aload_n 0, 1) := by decide +kernel
theorem dX7_spare_1 : decode cX7_spare 1 = .ok (.getfield 109, 3) := by decide +kernel
theorem dX7_spare_4 : decode cX7_spare 4 = .ok (.ifCond .ne 6, 3) := by decide +kernel
theorem dX7_spare_7 : decode cX7_spare 7 = .ok (.bipush (-3), 2) := by decide +kernel
theorem dX7_spare_9 : decode cX7_spare 9 = .ok (.ireturn, 1) := by decide +kernel
theorem dX7_spare_10 : decode cX7_spare 10 = .ok (.iconst 0, 1) := by decide +kernel
theorem dX7_spare_11 : decode cX7_spare 11 = .ok (.istore_n 1, 1) := by decide +kernel
theorem dX7_spare_12 : decode cX7_spare 12 = .ok (.iconst 0, 1) := by decide +kernel
theorem dX7_spare_13 : decode cX7_spare 13 = .ok (.istore_n 2, 1) := by decide +kernel
theorem dX7_spare_14 : decode cX7_spare 14 = .ok (.iload_n 2, 1) := by decide +kernel
theorem dX7_spare_15 : decode cX7_spare 15 = .ok (.aload_n 0, 1) := by decide +kernel
theorem dX7_spare_16 : decode cX7_spare 16 = .ok (.getfield 109, 3) := by decide +kernel
theorem dX7_spare_19 : decode cX7_spare 19 = .ok (.if_icmp .ge 55, 3) := by decide +kernel
theorem dX7_spare_22 : decode cX7_spare 22 = .ok (.iconst 0, 1) := by decide +kernel
theorem dX7_spare_23 : decode cX7_spare 23 = .ok (.istore_n 3, 1) := by decide +kernel
theorem dX7_spare_24 : decode cX7_spare 24 = .ok (.iload_n 3, 1) := by decide +kernel
theorem dX7_spare_25 : decode cX7_spare 25 = .ok (.aload_n 0, 1) := by decide +kernel
theorem dX7_spare_26 : decode cX7_spare 26 = .ok (.getfield 109, 3) := by decide +kernel
theorem dX7_spare_29 : decode cX7_spare 29 = .ok (.if_icmp .ge 39, 3) := by decide +kernel
theorem dX7_spare_32 : decode cX7_spare 32 = .ok (.iload_n 3, 1) := by decide +kernel
theorem dX7_spare_33 : decode cX7_spare 33 = .ok (.iload_n 2, 1) := by decide +kernel
theorem dX7_spare_34 : decode cX7_spare 34 = .ok (.if_icmp .eq 28, 3) := by decide +kernel
theorem dX7_spare_37 : decode cX7_spare 37 = .ok (.aload_n 0, 1) := by decide +kernel
theorem dX7_spare_38 : decode cX7_spare 38 = .ok (.aload_n 0, 1) := by decide +kernel
theorem dX7_spare_39 : decode cX7_spare 39 = .ok (.getfield 28, 3) := by decide +kernel
theorem dX7_spare_42 : decode cX7_spare 42 = .ok (.iload_n 2, 1) := by decide +kernel
theorem dX7_spare_43 : decode cX7_spare 43 = .ok (.aaload, 1) := by decide +kernel
theorem dX7_spare_44 : decode cX7_spare 44 = .ok (.aload_n 0, 1) := by decide +kernel
theorem dX7_spare_45 : decode cX7_spare 45 = .ok (.getfield 28, 3) := by decide +kernel
theorem dX7_spare_48 : decode cX7_spare 48 = .ok (.iload_n 3, 1) := by decide +kernel
theorem dX7_spare_49 : decode cX7_spare 49 = .ok (.aaload, 1) := by decide +kernel
theorem dX7_spare_50 : decode cX7_spare 50 = .ok (.invokevirtual 178, 3) := by decide +kernel
theorem dX7_spare_53 : decode cX7_spare 53 = .ok (.ifCond .eq 9, 3) := by decide +kernel
theorem dX7_spare_56 : decode cX7_spare 56 = .ok (.iload_n 1, 1) := by decide +kernel
theorem dX7_spare_57 : decode cX7_spare 57 = .ok (.iconst 1, 1) := by decide +kernel
theorem dX7_spare_58 : decode cX7_spare 58 = .ok (.iload_n 2, 1) := by decide +kernel
theorem dX7_spare_59 : decode cX7_spare 59 = .ok (.ishl, 1) := by decide +kernel
theorem dX7_spare_60 : decode cX7_spare 60 = .ok (.ior, 1) := by decide +kernel
theorem dX7_spare_61 : decode cX7_spare 61 = .ok (.istore_n 1, 1) := by decide +kernel
theorem dX7_spare_62 : decode cX7_spare 62 = .ok (.iinc 3 1, 3) := by decide +kernel
theorem dX7_spare_65 : decode cX7_spare 65 = .ok (.goto (-41), 3) := by decide +kernel
theorem dX7_spare_68 : decode cX7_spare 68 = .ok (.iinc 2 1, 3) := by decide +kernel
theorem dX7_spare_71 : decode cX7_spare 71 = .ok (.goto (-57), 3) := by decide +kernel
theorem dX7_spare_74 : decode cX7_spare 74 = .ok (.iload_n 1, 1) := by decide +kernel
theorem dX7_spare_75 : decode cX7_spare 75 = .ok (.ireturn, 1) := by decide +kernel
theorem dX7_reading_0 : decode cX7_reading 0 = .ok (.aload_n 0, 1) := by decide +kernel
theorem dX7_reading_1 : decode cX7_reading 1 = .ok (.iconst 0, 1) := by decide +kernel
theorem dX7_reading_2 : decode cX7_reading 2 = .ok (.putfield 82, 3) := by decide +kernel
theorem dX7_reading_5 : decode cX7_reading 5 = .ok (.aload_n 0, 1) := by decide +kernel
theorem dX7_reading_6 : decode cX7_reading 6 = .ok (.iload_n 1, 1) := by decide +kernel
theorem dX7_reading_7 : decode cX7_reading 7 = .ok (.invokevirtual 112, 3) := by decide +kernel
theorem dX7_reading_10 : decode cX7_reading 10 = .ok (.ifCond .eq 10, 3) := by decide +kernel
theorem dX7_reading_13 : decode cX7_reading 13 = .ok (.iload_n 2, 1) := by decide +kernel
theorem dX7_reading_14 : decode cX7_reading 14 = .ok (.invokestatic 86, 3) := by decide +kernel
theorem dX7_reading_17 : decode cX7_reading 17 = .ok (.ifCond .ne 5, 3) := by decide +kernel
theorem dX7_reading_20 : decode cX7_reading 20 = .ok (.iconst (-1), 1) := by decide +kernel
theorem dX7_reading_21 : decode cX7_reading 21 = .ok (.ireturn, 1) := by decide +kernel
theorem dX7_reading_22 : decode cX7_reading 22 = .ok (.iload_n 3, 1) := by decide +kernel
theorem dX7_reading_23 : decode cX7_reading 23 = .ok (.iconst 3, 1) := by decide +kernel
theorem dX7_reading_24 : decode cX7_reading 24 = .ok (.invokestatic 90, 3) := by decide +kernel
theorem dX7_reading_27 : decode cX7_reading 27 = .ok (.ifCond .eq 24, 3) := by decide +kernel
theorem dX7_reading_30 : decode cX7_reading 30 = .ok (.iload 5, 2) := by decide +kernel
theorem dX7_reading_32 : decode cX7_reading 32 = .ok (.ifCond .lt 19, 3) := by decide +kernel
theorem dX7_reading_35 : decode cX7_reading 35 = .ok (.iload 5, 2) := by decide +kernel
theorem dX7_reading_37 : decode cX7_reading 37 = .ok (.bipush 8, 2) := by decide +kernel
theorem dX7_reading_39 : decode cX7_reading 39 = .ok (.if_icmp .gt 12, 3) := by decide +kernel
theorem dX7_reading_42 : decode cX7_reading 42 = .ok (.iload 6, 2) := by decide +kernel
theorem dX7_reading_44 : decode cX7_reading 44 = .ok (.iconst 2, 1) := by decide +kernel
theorem dX7_reading_45 : decode cX7_reading 45 = .ok (.invokestatic 90, 3) := by decide +kernel
theorem dX7_reading_48 : decode cX7_reading 48 = .ok (.ifCond .ne 6, 3) := by decide +kernel
theorem dX7_reading_51 : decode cX7_reading 51 = .ok (.bipush (-2), 2) := by decide +kernel
theorem dX7_reading_53 : decode cX7_reading 53 = .ok (.ireturn, 1) := by decide +kernel
theorem dX7_reading_54 : decode cX7_reading 54 = .ok (.aload_n 0, 1) := by decide +kernel
theorem dX7_reading_55 : decode cX7_reading 55 = .ok (.getfield 13, 3) := by decide +kernel
theorem dX7_reading_58 : decode cX7_reading 58 = .ok (.iload_n 2, 1) := by decide +kernel
theorem dX7_reading_59 : decode cX7_reading 59 = .ok (.aaload, 1) := by decide +kernel
theorem dX7_reading_60 : decode cX7_reading 60 = .ok (.iload_n 3, 1) := by decide +kernel
theorem dX7_reading_61 : decode cX7_reading 61 = .ok (.iload 4, 2) := by decide +kernel
theorem dX7_reading_63 : decode cX7_reading 63 = .ok (.iload 5, 2) := by decide +kernel
theorem dX7_reading_65 : decode cX7_reading 65 = .ok (.invokevirtual 94, 3) := by decide +kernel
theorem dX7_reading_68 : decode cX7_reading 68 = .ok (.istore 7, 2) := by decide +kernel
theorem dX7_reading_70 : decode cX7_reading 70 = .ok (.iload 7, 2) := by decide +kernel
theorem dX7_reading_72 : decode cX7_reading 72 = .ok (.ifCond .eq 10, 3) := by decide +kernel
theorem dX7_reading_75 : decode cX7_reading 75 = .ok (.aload_n 0, 1) := by decide +kernel
theorem dX7_reading_76 : decode cX7_reading 76 = .ok (.iload 7, 2) := by decide +kernel
theorem dX7_reading_78 : decode cX7_reading 78 = .ok (.invokevirtual 98, 3) := by decide +kernel
theorem dX7_reading_81 : decode cX7_reading 81 = .ok (.ireturn, 1) := by decide +kernel
theorem dX7_reading_82 : decode cX7_reading 82 = .ok (.aload_n 0, 1) := by decide +kernel
theorem dX7_reading_83 : decode cX7_reading 83 = .ok (.getfield 13, 3) := by decide +kernel
theorem dX7_reading_86 : decode cX7_reading 86 = .ok (.iload_n 2, 1) := by decide +kernel
theorem dX7_reading_87 : decode cX7_reading 87 = .ok (.aaload, 1) := by decide +kernel
theorem dX7_reading_88 : decode cX7_reading 88 = .ok (.aload_n 0, 1) := by decide +kernel
theorem dX7_reading_89 : decode cX7_reading 89 = .ok (.getfield 36, 3) := by decide +kernel
theorem dX7_reading_92 : decode cX7_reading 92 = .ok (.iload 4, 2) := by decide +kernel
theorem dX7_reading_94 : decode cX7_reading 94 = .ok (.iload 5, 2) := by decide +kernel
theorem dX7_reading_96 : decode cX7_reading 96 = .ok (.invokevirtual 142, 3) := by decide +kernel
theorem dX7_reading_99 : decode cX7_reading 99 = .ok (.ifCond .ne 6, 3) := by decide +kernel
theorem dX7_reading_102 : decode cX7_reading 102 = .ok (.bipush (-2), 2) := by decide +kernel
theorem dX7_reading_104 : decode cX7_reading 104 = .ok (.ireturn, 1) := by decide +kernel
theorem dX7_reading_105 : decode cX7_reading 105 = .ok (.aload_n 0, 1) := by decide +kernel
theorem dX7_reading_106 : decode cX7_reading 106 = .ok (.getfield 182, 3) := by decide +kernel
theorem dX7_reading_109 : decode cX7_reading 109 = .ok (.bipush 8, 2) := by decide +kernel
theorem dX7_reading_111 : decode cX7_reading 111 = .ok (.if_icmp .lt 6, 3) := by decide +kernel
theorem dX7_reading_114 : decode cX7_reading 114 = .ok (.bipush (-4), 2) := by decide +kernel
theorem dX7_reading_116 : decode cX7_reading 116 = .ok (.ireturn, 1) := by decide +kernel
theorem dX7_reading_117 : decode cX7_reading 117 = .ok (.aload_n 0, 1) := by decide +kernel
theorem dX7_reading_118 : decode cX7_reading 118 = .ok (.getfield 41, 3) := by decide +kernel
theorem dX7_reading_121 : decode cX7_reading 121 = .ok (.aload_n 0, 1) := by decide +kernel
theorem dX7_reading_122 : decode cX7_reading 122 = .ok (.getfield 182, 3) := by decide +kernel
theorem dX7_reading_125 : decode cX7_reading 125 = .ok (.aaload, 1) := by decide +kernel
theorem dX7_reading_126 : decode cX7_reading 126 = .ok (.iload_n 1, 1) := by decide +kernel
theorem dX7_reading_127 : decode cX7_reading 127 = .ok (.aload_n 0, 1) := by decide +kernel
theorem dX7_reading_128 : decode cX7_reading 128 = .ok (.getfield 36, 3) := by decide +kernel
theorem dX7_reading_131 : decode cX7_reading 131 = .ok (.iload 5, 2) := by decide +kernel
theorem dX7_reading_133 : decode cX7_reading 133 = .ok (.iload 6, 2) := by decide +kernel
theorem dX7_reading_135 : decode cX7_reading 135 = .ok (.iconst 1, 1) := by decide +kernel
theorem dX7_reading_136 : decode cX7_reading 136 = .ok (.if_icmp .ne 7, 3) := by decide +kernel
theorem dX7_reading_139 : decode cX7_reading 139 = .ok (.iconst 1, 1) := by decide +kernel
theorem dX7_reading_140 : decode cX7_reading 140 = .ok (.goto 4, 3) := by decide +kernel
theorem dX7_reading_143 : decode cX7_reading 143 = .ok (.iconst 0, 1) := by decide +kernel
theorem dX7_reading_144 : decode cX7_reading 144 = .ok (.invokevirtual 185, 3) := by decide +kernel
theorem dX7_reading_147 : decode cX7_reading 147 = .ok (.aload_n 0, 1) := by decide +kernel
theorem dX7_reading_148 : decode cX7_reading 148 = .ok (.dup, 1) := by decide +kernel
theorem dX7_reading_149 : decode cX7_reading 149 = .ok (.getfield 182, 3) := by decide +kernel
theorem dX7_reading_152 : decode cX7_reading 152 = .ok (.iconst 1, 1) := by decide +kernel
theorem dX7_reading_153 : decode cX7_reading 153 = .ok (.iadd, 1) := by decide +kernel
theorem dX7_reading_154 : decode cX7_reading 154 = .ok (.putfield 182, 3) := by decide +kernel
theorem dX7_reading_157 : decode cX7_reading 157 = .ok (.aload_n 0, 1) := by decide +kernel
theorem dX7_reading_158 : decode cX7_reading 158 = .ok (.getfield 182, 3) := by decide +kernel
theorem dX7_reading_161 : decode cX7_reading 161 = .ok (.iconst 1, 1) := by decide +kernel
theorem dX7_reading_162 : decode cX7_reading 162 = .ok (.isub, 1) := by decide +kernel
theorem dX7_reading_163 : decode cX7_reading 163 = .ok (.ireturn, 1) := by decide +kernel
theorem dX7_back_0 : decode cX7_back 0 = .ok (.iload_n 1, 1) := by decide +kernel
theorem dX7_back_1 : decode cX7_back 1 = .ok (.ifCond .lt 11, 3) := by decide +kernel
theorem dX7_back_4 : decode cX7_back 4 = .ok (.iload_n 1, 1) := by decide +kernel
theorem dX7_back_5 : decode cX7_back 5 = .ok (.aload_n 0, 1) := by decide +kernel
theorem dX7_back_6 : decode cX7_back 6 = .ok (.getfield 182, 3) := by decide +kernel
theorem dX7_back_9 : decode cX7_back 9 = .ok (.if_icmp .le 6, 3) := by decide +kernel
theorem dX7_back_12 : decode cX7_back 12 = .ok (.bipush (-2), 2) := by decide +kernel
theorem dX7_back_14 : decode cX7_back 14 = .ok (.ireturn, 1) := by decide +kernel
theorem dX7_back_15 : decode cX7_back 15 = .ok (.aload_n 0, 1) := by decide +kernel
theorem dX7_back_16 : decode cX7_back 16 = .ok (.dup, 1) := by decide +kernel
theorem dX7_back_17 : decode cX7_back 17 = .ok (.getfield 182, 3) := by decide +kernel
theorem dX7_back_20 : decode cX7_back 20 = .ok (.iload_n 1, 1) := by decide +kernel
theorem dX7_back_21 : decode cX7_back 21 = .ok (.isub, 1) := by decide +kernel
theorem dX7_back_22 : decode cX7_back 22 = .ok (.putfield 182, 3) := by decide +kernel
theorem dX7_back_25 : decode cX7_back 25 = .ok (.aload_n 0, 1) := by decide +kernel
theorem dX7_back_26 : decode cX7_back 26 = .ok (.getfield 182, 3) := by decide +kernel
theorem dX7_back_29 : decode cX7_back 29 = .ok (.ireturn, 1) := by decide +kernel
theorem dX7_kinds_0 : decode cX7_kinds 0 = .ok (.aload_n 0, 1) := by decide +kernel
theorem dX7_kinds_1 : decode cX7_kinds 1 = .ok (.iload_n 1, 1) := by decide +kernel
theorem dX7_kinds_2 : decode cX7_kinds 2 = .ok (.invokevirtual 112, 3) := by decide +kernel
theorem dX7_kinds_5 : decode cX7_kinds 5 = .ok (.ifCond .ne 5, 3) := by decide +kernel
theorem dX7_kinds_8 : decode cX7_kinds 8 = .ok (.iconst (-1), 1) := by decide +kernel
theorem dX7_kinds_9 : decode cX7_kinds 9 = .ok (.ireturn, 1) := by decide +kernel
theorem dX7_kinds_10 : decode cX7_kinds 10 = .ok (.aload_n 0, 1) := by decide +kernel
theorem dX7_kinds_11 : decode cX7_kinds 11 = .ok (.getfield 48, 3) := by decide +kernel
theorem dX7_kinds_14 : decode cX7_kinds 14 = .ok (.aload_n 0, 1) := by decide +kernel
theorem dX7_kinds_15 : decode cX7_kinds 15 = .ok (.getfield 28, 3) := by decide +kernel
theorem dX7_kinds_18 : decode cX7_kinds 18 = .ok (.iload_n 1, 1) := by decide +kernel
theorem dX7_kinds_19 : decode cX7_kinds 19 = .ok (.aaload, 1) := by decide +kernel
theorem dX7_kinds_20 : decode cX7_kinds 20 = .ok (.invokevirtual 189, 3) := by decide +kernel
theorem dX7_kinds_23 : decode cX7_kinds 23 = .ok (.iconst 0, 1) := by decide +kernel
theorem dX7_kinds_24 : decode cX7_kinds 24 = .ok (.istore_n 2, 1) := by decide +kernel
theorem dX7_kinds_25 : decode cX7_kinds 25 = .ok (.iconst 0, 1) := by decide +kernel
theorem dX7_kinds_26 : decode cX7_kinds 26 = .ok (.istore_n 3, 1) := by decide +kernel
theorem dX7_kinds_27 : decode cX7_kinds 27 = .ok (.iload_n 3, 1) := by decide +kernel
theorem dX7_kinds_28 : decode cX7_kinds 28 = .ok (.iconst 3, 1) := by decide +kernel
theorem dX7_kinds_29 : decode cX7_kinds 29 = .ok (.if_icmp .ge 31, 3) := by decide +kernel
theorem dX7_kinds_32 : decode cX7_kinds 32 = .ok (.aload_n 0, 1) := by decide +kernel
theorem dX7_kinds_33 : decode cX7_kinds 33 = .ok (.getfield 48, 3) := by decide +kernel
theorem dX7_kinds_36 : decode cX7_kinds 36 = .ok (.iload_n 3, 1) := by decide +kernel
theorem dX7_kinds_37 : decode cX7_kinds 37 = .ok (.putfield 115, 3) := by decide +kernel
theorem dX7_kinds_40 : decode cX7_kinds 40 = .ok (.aload_n 0, 1) := by decide +kernel
theorem dX7_kinds_41 : decode cX7_kinds 41 = .ok (.iload_n 1, 1) := by decide +kernel
theorem dX7_kinds_42 : decode cX7_kinds 42 = .ok (.invokevirtual 193, 3) := by decide +kernel
theorem dX7_kinds_45 : decode cX7_kinds 45 = .ok (.ifCond .eq 9, 3) := by decide +kernel
theorem dX7_kinds_48 : decode cX7_kinds 48 = .ok (.iload_n 2, 1) := by decide +kernel
theorem dX7_kinds_49 : decode cX7_kinds 49 = .ok (.iconst 1, 1) := by decide +kernel
theorem dX7_kinds_50 : decode cX7_kinds 50 = .ok (.iload_n 3, 1) := by decide +kernel
theorem dX7_kinds_51 : decode cX7_kinds 51 = .ok (.ishl, 1) := by decide +kernel
theorem dX7_kinds_52 : decode cX7_kinds 52 = .ok (.ior, 1) := by decide +kernel
theorem dX7_kinds_53 : decode cX7_kinds 53 = .ok (.istore_n 2, 1) := by decide +kernel
theorem dX7_kinds_54 : decode cX7_kinds 54 = .ok (.iinc 3 1, 3) := by decide +kernel
theorem dX7_kinds_57 : decode cX7_kinds 57 = .ok (.goto (-30), 3) := by decide +kernel
theorem dX7_kinds_60 : decode cX7_kinds 60 = .ok (.iload_n 2, 1) := by decide +kernel
theorem dX7_kinds_61 : decode cX7_kinds 61 = .ok (.ireturn, 1) := by decide +kernel
theorem dX7_lasts_0 : decode cX7_lasts 0 = .ok (.aload_n 0, 1) := by decide +kernel
theorem dX7_lasts_1 : decode cX7_lasts 1 = .ok (.iload_n 1, 1) := by decide +kernel
theorem dX7_lasts_2 : decode cX7_lasts 2 = .ok (.invokevirtual 112, 3) := by decide +kernel
theorem dX7_lasts_5 : decode cX7_lasts 5 = .ok (.ifCond .ne 5, 3) := by decide +kernel
theorem dX7_lasts_8 : decode cX7_lasts 8 = .ok (.iconst (-1), 1) := by decide +kernel
theorem dX7_lasts_9 : decode cX7_lasts 9 = .ok (.ireturn, 1) := by decide +kernel
theorem dX7_lasts_10 : decode cX7_lasts 10 = .ok (.aload_n 0, 1) := by decide +kernel
theorem dX7_lasts_11 : decode cX7_lasts 11 = .ok (.getfield 48, 3) := by decide +kernel
theorem dX7_lasts_14 : decode cX7_lasts 14 = .ok (.aload_n 0, 1) := by decide +kernel
theorem dX7_lasts_15 : decode cX7_lasts 15 = .ok (.getfield 28, 3) := by decide +kernel
theorem dX7_lasts_18 : decode cX7_lasts 18 = .ok (.iload_n 1, 1) := by decide +kernel
theorem dX7_lasts_19 : decode cX7_lasts 19 = .ok (.aaload, 1) := by decide +kernel
theorem dX7_lasts_20 : decode cX7_lasts 20 = .ok (.invokevirtual 189, 3) := by decide +kernel
theorem dX7_lasts_23 : decode cX7_lasts 23 = .ok (.iconst 0, 1) := by decide +kernel
theorem dX7_lasts_24 : decode cX7_lasts 24 = .ok (.istore_n 2, 1) := by decide +kernel
theorem dX7_lasts_25 : decode cX7_lasts 25 = .ok (.iconst 0, 1) := by decide +kernel
theorem dX7_lasts_26 : decode cX7_lasts 26 = .ok (.istore_n 3, 1) := by decide +kernel
theorem dX7_lasts_27 : decode cX7_lasts 27 = .ok (.iload_n 3, 1) := by decide +kernel
theorem dX7_lasts_28 : decode cX7_lasts 28 = .ok (.iconst 3, 1) := by decide +kernel
theorem dX7_lasts_29 : decode cX7_lasts 29 = .ok (.if_icmp .ge 31, 3) := by decide +kernel
theorem dX7_lasts_32 : decode cX7_lasts 32 = .ok (.aload_n 0, 1) := by decide +kernel
theorem dX7_lasts_33 : decode cX7_lasts 33 = .ok (.getfield 48, 3) := by decide +kernel
theorem dX7_lasts_36 : decode cX7_lasts 36 = .ok (.iload_n 3, 1) := by decide +kernel
theorem dX7_lasts_37 : decode cX7_lasts 37 = .ok (.invokevirtual 196, 3) := by decide +kernel
theorem dX7_lasts_40 : decode cX7_lasts 40 = .ok (.aload_n 0, 1) := by decide +kernel
theorem dX7_lasts_41 : decode cX7_lasts 41 = .ok (.iload_n 1, 1) := by decide +kernel
theorem dX7_lasts_42 : decode cX7_lasts 42 = .ok (.invokevirtual 193, 3) := by decide +kernel
theorem dX7_lasts_45 : decode cX7_lasts 45 = .ok (.ifCond .eq 9, 3) := by decide +kernel
theorem dX7_lasts_48 : decode cX7_lasts 48 = .ok (.iload_n 2, 1) := by decide +kernel
theorem dX7_lasts_49 : decode cX7_lasts 49 = .ok (.iconst 1, 1) := by decide +kernel
theorem dX7_lasts_50 : decode cX7_lasts 50 = .ok (.iload_n 3, 1) := by decide +kernel
theorem dX7_lasts_51 : decode cX7_lasts 51 = .ok (.ishl, 1) := by decide +kernel
theorem dX7_lasts_52 : decode cX7_lasts 52 = .ok (.ior, 1) := by decide +kernel
theorem dX7_lasts_53 : decode cX7_lasts 53 = .ok (.istore_n 2, 1) := by decide +kernel
theorem dX7_lasts_54 : decode cX7_lasts 54 = .ok (.iinc 3 1, 3) := by decide +kernel
theorem dX7_lasts_57 : decode cX7_lasts 57 = .ok (.goto (-30), 3) := by decide +kernel
theorem dX7_lasts_60 : decode cX7_lasts 60 = .ok (.iload_n 2, 1) := by decide +kernel
theorem dX7_lasts_61 : decode cX7_lasts 61 = .ok (.ireturn, 1) := by decide +kernel
theorem dX7_odds_0 : decode cX7_odds 0 = .ok (.iload_n 1, 1) := by decide +kernel
theorem dX7_odds_1 : decode cX7_odds 1 = .ok (.invokestatic 159, 3) := by decide +kernel
theorem dX7_odds_4 : decode cX7_odds 4 = .ok (.ifCond .eq 18, 3) := by decide +kernel
theorem dX7_odds_7 : decode cX7_odds 7 = .ok (.iload_n 2, 1) := by decide +kernel
theorem dX7_odds_8 : decode cX7_odds 8 = .ok (.iconst 2, 1) := by decide +kernel
theorem dX7_odds_9 : decode cX7_odds 9 = .ok (.invokestatic 90, 3) := by decide +kernel
theorem dX7_odds_12 : decode cX7_odds 12 = .ok (.ifCond .eq 10, 3) := by decide +kernel
theorem dX7_odds_15 : decode cX7_odds 15 = .ok (.aload_n 0, 1) := by decide +kernel
theorem dX7_odds_16 : decode cX7_odds 16 = .ok (.getfield 109, 3) := by decide +kernel
theorem dX7_odds_19 : decode cX7_odds 19 = .ok (.ifCond .ne 7, 3) := by decide +kernel
theorem dX7_odds_22 : decode cX7_odds 22 = .ok (.ldc2_w 162, 3) := by decide +kernel
theorem dX7_odds_25 : decode cX7_odds 25 = .ok (.lreturn, 1) := by decide +kernel
theorem dX7_odds_26 : decode cX7_odds 26 = .ok (.aload_n 0, 1) := by decide +kernel
theorem dX7_odds_27 : decode cX7_odds 27 = .ok (.invokevirtual 154, 3) := by decide +kernel
theorem dX7_odds_30 : decode cX7_odds 30 = .ok (.aload_n 0, 1) := by decide +kernel
theorem dX7_odds_31 : decode cX7_odds 31 = .ok (.getfield 72, 3) := by decide +kernel
theorem dX7_odds_34 : decode cX7_odds 34 = .ok (.aload_n 0, 1) := by decide +kernel
theorem dX7_odds_35 : decode cX7_odds 35 = .ok (.getfield 65, 3) := by decide +kernel
theorem dX7_odds_38 : decode cX7_odds 38 = .ok (.iload_n 1, 1) := by decide +kernel
theorem dX7_odds_39 : decode cX7_odds 39 = .ok (.invokevirtual 164, 3) := by decide +kernel
theorem dX7_odds_42 : decode cX7_odds 42 = .ok (.aload_n 0, 1) := by decide +kernel
theorem dX7_odds_43 : decode cX7_odds 43 = .ok (.getfield 72, 3) := by decide +kernel
theorem dX7_odds_46 : decode cX7_odds 46 = .ok (.getfield 168, 3) := by decide +kernel
theorem dX7_odds_49 : decode cX7_odds 49 = .ok (.iload_n 1, 1) := by decide +kernel
theorem dX7_odds_50 : decode cX7_odds 50 = .ok (.laload, 1) := by decide +kernel
theorem dX7_odds_51 : decode cX7_odds 51 = .ok (.lstore_n 3, 1) := by decide +kernel
theorem dX7_odds_52 : decode cX7_odds 52 = .ok (.lconst 1, 1) := by decide +kernel
theorem dX7_odds_53 : decode cX7_odds 53 = .ok (.lstore 5, 2) := by decide +kernel
theorem dX7_odds_55 : decode cX7_odds 55 = .ok (.iconst 0, 1) := by decide +kernel
theorem dX7_odds_56 : decode cX7_odds 56 = .ok (.istore 7, 2) := by decide +kernel
theorem dX7_odds_58 : decode cX7_odds 58 = .ok (.iload 7, 2) := by decide +kernel
theorem dX7_odds_60 : decode cX7_odds 60 = .ok (.iload_n 1, 1) := by decide +kernel
theorem dX7_odds_61 : decode cX7_odds 61 = .ok (.if_icmp .ge 36, 3) := by decide +kernel
theorem dX7_odds_64 : decode cX7_odds 64 = .ok (.lload_n 3, 1) := by decide +kernel
theorem dX7_odds_65 : decode cX7_odds 65 = .ok (.ldc2_w 200, 3) := by decide +kernel
theorem dX7_odds_68 : decode cX7_odds 68 = .ok (.lrem, 1) := by decide +kernel
theorem dX7_odds_69 : decode cX7_odds 69 = .ok (.lconst 0, 1) := by decide +kernel
theorem dX7_odds_70 : decode cX7_odds 70 = .ok (.lcmp, 1) := by decide +kernel
theorem dX7_odds_71 : decode cX7_odds 71 = .ok (.ifCond .ne 12, 3) := by decide +kernel
theorem dX7_odds_74 : decode cX7_odds 74 = .ok (.lload_n 3, 1) := by decide +kernel
theorem dX7_odds_75 : decode cX7_odds 75 = .ok (.ldc2_w 200, 3) := by decide +kernel
theorem dX7_odds_78 : decode cX7_odds 78 = .ok (.ldiv, 1) := by decide +kernel
theorem dX7_odds_79 : decode cX7_odds 79 = .ok (.lstore_n 3, 1) := by decide +kernel
theorem dX7_odds_80 : decode cX7_odds 80 = .ok (.goto 11, 3) := by decide +kernel
theorem dX7_odds_83 : decode cX7_odds 83 = .ok (.lload 5, 2) := by decide +kernel
theorem dX7_odds_85 : decode cX7_odds 85 = .ok (.ldc2_w 200, 3) := by decide +kernel
theorem dX7_odds_88 : decode cX7_odds 88 = .ok (.lmul, 1) := by decide +kernel
theorem dX7_odds_89 : decode cX7_odds 89 = .ok (.lstore 5, 2) := by decide +kernel
theorem dX7_odds_91 : decode cX7_odds 91 = .ok (.iinc 7 1, 3) := by decide +kernel
theorem dX7_odds_94 : decode cX7_odds 94 = .ok (.goto (-36), 3) := by decide +kernel
theorem dX7_odds_97 : decode cX7_odds 97 = .ok (.iload_n 2, 1) := by decide +kernel
theorem dX7_odds_98 : decode cX7_odds 98 = .ok (.ifCond .ne 7, 3) := by decide +kernel
theorem dX7_odds_101 : decode cX7_odds 101 = .ok (.lload_n 3, 1) := by decide +kernel
theorem dX7_odds_102 : decode cX7_odds 102 = .ok (.goto 5, 3) := by decide +kernel
theorem dX7_odds_105 : decode cX7_odds 105 = .ok (.lload 5, 2) := by decide +kernel
theorem dX7_odds_107 : decode cX7_odds 107 = .ok (.lreturn, 1) := by decide +kernel
theorem dX7_sheet_0 : decode cX7_sheet 0 = .ok (.aload_n 0, 1) := by decide +kernel
theorem dX7_sheet_1 : decode cX7_sheet 1 = .ok (.iconst 0, 1) := by decide +kernel
theorem dX7_sheet_2 : decode cX7_sheet 2 = .ok (.putfield 82, 3) := by decide +kernel
theorem dX7_sheet_5 : decode cX7_sheet 5 = .ok (.iload_n 1, 1) := by decide +kernel
theorem dX7_sheet_6 : decode cX7_sheet 6 = .ok (.invokestatic 86, 3) := by decide +kernel
theorem dX7_sheet_9 : decode cX7_sheet 9 = .ok (.ifCond .ne 5, 3) := by decide +kernel
theorem dX7_sheet_12 : decode cX7_sheet 12 = .ok (.iconst (-1), 1) := by decide +kernel
theorem dX7_sheet_13 : decode cX7_sheet 13 = .ok (.ireturn, 1) := by decide +kernel
theorem dX7_sheet_14 : decode cX7_sheet 14 = .ok (.iload_n 2, 1) := by decide +kernel
theorem dX7_sheet_15 : decode cX7_sheet 15 = .ok (.iconst 3, 1) := by decide +kernel
theorem dX7_sheet_16 : decode cX7_sheet 16 = .ok (.invokestatic 90, 3) := by decide +kernel
theorem dX7_sheet_19 : decode cX7_sheet 19 = .ok (.ifCond .eq 9, 3) := by decide +kernel
theorem dX7_sheet_22 : decode cX7_sheet 22 = .ok (.iload_n 3, 1) := by decide +kernel
theorem dX7_sheet_23 : decode cX7_sheet 23 = .ok (.bipush 60, 2) := by decide +kernel
theorem dX7_sheet_25 : decode cX7_sheet 25 = .ok (.if_icmp .le 6, 3) := by decide +kernel
theorem dX7_sheet_28 : decode cX7_sheet 28 = .ok (.bipush (-2), 2) := by decide +kernel
theorem dX7_sheet_30 : decode cX7_sheet 30 = .ok (.ireturn, 1) := by decide +kernel
theorem dX7_sheet_31 : decode cX7_sheet 31 = .ok (.iload_n 3, 1) := by decide +kernel
theorem dX7_sheet_32 : decode cX7_sheet 32 = .ok (.ifCond .ge 9, 3) := by decide +kernel
theorem dX7_sheet_35 : decode cX7_sheet 35 = .ok (.aload_n 0, 1) := by decide +kernel
theorem dX7_sheet_36 : decode cX7_sheet 36 = .ok (.iconst 4, 1) := by decide +kernel
theorem dX7_sheet_37 : decode cX7_sheet 37 = .ok (.invokevirtual 98, 3) := by decide +kernel
theorem dX7_sheet_40 : decode cX7_sheet 40 = .ok (.ireturn, 1) := by decide +kernel
theorem dX7_sheet_41 : decode cX7_sheet 41 = .ok (.aload_n 0, 1) := by decide +kernel
theorem dX7_sheet_42 : decode cX7_sheet 42 = .ok (.getfield 13, 3) := by decide +kernel
theorem dX7_sheet_45 : decode cX7_sheet 45 = .ok (.iload_n 1, 1) := by decide +kernel
theorem dX7_sheet_46 : decode cX7_sheet 46 = .ok (.aaload, 1) := by decide +kernel
theorem dX7_sheet_47 : decode cX7_sheet 47 = .ok (.iload_n 2, 1) := by decide +kernel
theorem dX7_sheet_48 : decode cX7_sheet 48 = .ok (.iload_n 3, 1) := by decide +kernel
theorem dX7_sheet_49 : decode cX7_sheet 49 = .ok (.invokevirtual 202, 3) := by decide +kernel
theorem dX7_sheet_52 : decode cX7_sheet 52 = .ok (.iconst 1, 1) := by decide +kernel
theorem dX7_sheet_53 : decode cX7_sheet 53 = .ok (.ireturn, 1) := by decide +kernel
theorem dX7_lose_0 : decode cX7_lose 0 = .ok (.iload_n 1, 1) := by decide +kernel
theorem dX7_lose_1 : decode cX7_lose 1 = .ok (.invokestatic 86, 3) := by decide +kernel
theorem dX7_lose_4 : decode cX7_lose 4 = .ok (.ifCond .ne 5, 3) := by decide +kernel
theorem dX7_lose_7 : decode cX7_lose 7 = .ok (.iconst (-1), 1) := by decide +kernel
theorem dX7_lose_8 : decode cX7_lose 8 = .ok (.ireturn, 1) := by decide +kernel
theorem dX7_lose_9 : decode cX7_lose 9 = .ok (.aload_n 0, 1) := by decide +kernel
theorem dX7_lose_10 : decode cX7_lose 10 = .ok (.getfield 13, 3) := by decide +kernel
theorem dX7_lose_13 : decode cX7_lose 13 = .ok (.iload_n 1, 1) := by decide +kernel
theorem dX7_lose_14 : decode cX7_lose 14 = .ok (.aaload, 1) := by decide +kernel
theorem dX7_lose_15 : decode cX7_lose 15 = .ok (.getfield 206, 3) := by decide +kernel
theorem dX7_lose_18 : decode cX7_lose 18 = .ok (.ifCond .eq 7, 3) := by decide +kernel
theorem dX7_lose_21 : decode cX7_lose 21 = .ok (.iconst 1, 1) := by decide +kernel
theorem dX7_lose_22 : decode cX7_lose 22 = .ok (.goto 4, 3) := by decide +kernel
theorem dX7_lose_25 : decode cX7_lose 25 = .ok (.iconst 0, 1) := by decide +kernel
theorem dX7_lose_26 : decode cX7_lose 26 = .ok (.istore_n 2, 1) := by decide +kernel
theorem dX7_lose_27 : decode cX7_lose 27 = .ok (.aload_n 0, 1) := by decide +kernel
theorem dX7_lose_28 : decode cX7_lose 28 = .ok (.getfield 13, 3) := by decide +kernel
theorem dX7_lose_31 : decode cX7_lose 31 = .ok (.iload_n 1, 1) := by decide +kernel
theorem dX7_lose_32 : decode cX7_lose 32 = .ok (.aaload, 1) := by decide +kernel
theorem dX7_lose_33 : decode cX7_lose 33 = .ok (.iconst 0, 1) := by decide +kernel
end
section
theorem dX7_lose_34 : decode cX7_lose 34 = .ok (.putfield 206, 3) := by decide +kernel
theorem dX7_lose_37 : decode cX7_lose 37 = .ok (.iload_n 2, 1) := by decide +kernel
theorem dX7_lose_38 : decode cX7_lose 38 = .ok (.ireturn, 1) := by decide +kernel
theorem dX7_put_0 : decode cX7_put 0 = .ok (.aload_n 0, 1) := by decide +kernel
theorem dX7_put_1 : decode cX7_put 1 = .ok (.iconst 0, 1) := by decide +kernel
theorem dX7_put_2 : decode cX7_put 2 = .ok (.putfield 82, 3) := by decide +kernel
theorem dX7_put_5 : decode cX7_put 5 = .ok (.iload_n 1, 1) := by decide +kernel
theorem dX7_put_6 : decode cX7_put 6 = .ok (.invokestatic 86, 3) := by decide +kernel
theorem dX7_put_9 : decode cX7_put 9 = .ok (.ifCond .ne 5, 3) := by decide +kernel
theorem dX7_put_12 : decode cX7_put 12 = .ok (.iconst (-1), 1) := by decide +kernel
theorem dX7_put_13 : decode cX7_put 13 = .ok (.ireturn, 1) := by decide +kernel
theorem dX7_put_14 : decode cX7_put 14 = .ok (.aload_n 0, 1) := by decide +kernel
theorem dX7_put_15 : decode cX7_put 15 = .ok (.getfield 13, 3) := by decide +kernel
theorem dX7_put_18 : decode cX7_put 18 = .ok (.iload_n 1, 1) := by decide +kernel
theorem dX7_put_19 : decode cX7_put 19 = .ok (.aaload, 1) := by decide +kernel
theorem dX7_put_20 : decode cX7_put 20 = .ok (.getfield 206, 3) := by decide +kernel
theorem dX7_put_23 : decode cX7_put 23 = .ok (.ifCond .ne 9, 3) := by decide +kernel
theorem dX7_put_26 : decode cX7_put 26 = .ok (.aload_n 0, 1) := by decide +kernel
theorem dX7_put_27 : decode cX7_put 27 = .ok (.iconst 1, 1) := by decide +kernel
theorem dX7_put_28 : decode cX7_put 28 = .ok (.invokevirtual 98, 3) := by decide +kernel
theorem dX7_put_31 : decode cX7_put 31 = .ok (.ireturn, 1) := by decide +kernel
theorem dX7_put_32 : decode cX7_put 32 = .ok (.iload_n 2, 1) := by decide +kernel
theorem dX7_put_33 : decode cX7_put 33 = .ok (.aload_n 0, 1) := by decide +kernel
theorem dX7_put_34 : decode cX7_put 34 = .ok (.getfield 13, 3) := by decide +kernel
theorem dX7_put_37 : decode cX7_put 37 = .ok (.iload_n 1, 1) := by decide +kernel
theorem dX7_put_38 : decode cX7_put 38 = .ok (.aaload, 1) := by decide +kernel
theorem dX7_put_39 : decode cX7_put 39 = .ok (.getfield 209, 3) := by decide +kernel
theorem dX7_put_42 : decode cX7_put 42 = .ok (.invokestatic 90, 3) := by decide +kernel
theorem dX7_put_45 : decode cX7_put 45 = .ok (.ifCond .ne 9, 3) := by decide +kernel
theorem dX7_put_48 : decode cX7_put 48 = .ok (.aload_n 0, 1) := by decide +kernel
theorem dX7_put_49 : decode cX7_put 49 = .ok (.iconst 3, 1) := by decide +kernel
theorem dX7_put_50 : decode cX7_put 50 = .ok (.invokevirtual 98, 3) := by decide +kernel
theorem dX7_put_53 : decode cX7_put 53 = .ok (.ireturn, 1) := by decide +kernel
theorem dX7_put_54 : decode cX7_put 54 = .ok (.aload_n 0, 1) := by decide +kernel
theorem dX7_put_55 : decode cX7_put 55 = .ok (.getfield 13, 3) := by decide +kernel
theorem dX7_put_58 : decode cX7_put 58 = .ok (.iload_n 1, 1) := by decide +kernel
theorem dX7_put_59 : decode cX7_put 59 = .ok (.aaload, 1) := by decide +kernel
theorem dX7_put_60 : decode cX7_put 60 = .ok (.iload_n 2, 1) := by decide +kernel
theorem dX7_put_61 : decode cX7_put 61 = .ok (.iload_n 3, 1) := by decide +kernel
theorem dX7_put_62 : decode cX7_put 62 = .ok (.invokevirtual 210, 3) := by decide +kernel
theorem dX7_put_65 : decode cX7_put 65 = .ok (.iconst 1, 1) := by decide +kernel
theorem dX7_put_66 : decode cX7_put 66 = .ok (.ireturn, 1) := by decide +kernel
theorem dX7_cell_0 : decode cX7_cell 0 = .ok (.aload_n 0, 1) := by decide +kernel
theorem dX7_cell_1 : decode cX7_cell 1 = .ok (.iconst 0, 1) := by decide +kernel
theorem dX7_cell_2 : decode cX7_cell 2 = .ok (.putfield 82, 3) := by decide +kernel
theorem dX7_cell_5 : decode cX7_cell 5 = .ok (.iload_n 1, 1) := by decide +kernel
theorem dX7_cell_6 : decode cX7_cell 6 = .ok (.invokestatic 86, 3) := by decide +kernel
theorem dX7_cell_9 : decode cX7_cell 9 = .ok (.ifCond .eq 11, 3) := by decide +kernel
theorem dX7_cell_12 : decode cX7_cell 12 = .ok (.iload_n 3, 1) := by decide +kernel
theorem dX7_cell_13 : decode cX7_cell 13 = .ok (.iconst 3, 1) := by decide +kernel
theorem dX7_cell_14 : decode cX7_cell 14 = .ok (.invokestatic 90, 3) := by decide +kernel
theorem dX7_cell_17 : decode cX7_cell 17 = .ok (.ifCond .ne 7, 3) := by decide +kernel
theorem dX7_cell_20 : decode cX7_cell 20 = .ok (.ldc2_w 162, 3) := by decide +kernel
theorem dX7_cell_23 : decode cX7_cell 23 = .ok (.lreturn, 1) := by decide +kernel
theorem dX7_cell_24 : decode cX7_cell 24 = .ok (.aload_n 0, 1) := by decide +kernel
theorem dX7_cell_25 : decode cX7_cell 25 = .ok (.getfield 13, 3) := by decide +kernel
theorem dX7_cell_28 : decode cX7_cell 28 = .ok (.iload_n 1, 1) := by decide +kernel
theorem dX7_cell_29 : decode cX7_cell 29 = .ok (.aaload, 1) := by decide +kernel
theorem dX7_cell_30 : decode cX7_cell 30 = .ok (.iload_n 3, 1) := by decide +kernel
theorem dX7_cell_31 : decode cX7_cell 31 = .ok (.invokevirtual 213, 3) := by decide +kernel
theorem dX7_cell_34 : decode cX7_cell 34 = .ok (.istore 4, 2) := by decide +kernel
theorem dX7_cell_36 : decode cX7_cell 36 = .ok (.iload 4, 2) := by decide +kernel
theorem dX7_cell_38 : decode cX7_cell 38 = .ok (.ifCond .ne 22, 3) := by decide +kernel
theorem dX7_cell_41 : decode cX7_cell 41 = .ok (.iload_n 2, 1) := by decide +kernel
theorem dX7_cell_42 : decode cX7_cell 42 = .ok (.aload_n 0, 1) := by decide +kernel
theorem dX7_cell_43 : decode cX7_cell 43 = .ok (.getfield 13, 3) := by decide +kernel
theorem dX7_cell_46 : decode cX7_cell 46 = .ok (.iload_n 1, 1) := by decide +kernel
theorem dX7_cell_47 : decode cX7_cell 47 = .ok (.aaload, 1) := by decide +kernel
theorem dX7_cell_48 : decode cX7_cell 48 = .ok (.getfield 209, 3) := by decide +kernel
theorem dX7_cell_51 : decode cX7_cell 51 = .ok (.invokestatic 90, 3) := by decide +kernel
theorem dX7_cell_54 : decode cX7_cell 54 = .ok (.ifCond .ne 6, 3) := by decide +kernel
theorem dX7_cell_57 : decode cX7_cell 57 = .ok (.iconst 3, 1) := by decide +kernel
theorem dX7_cell_58 : decode cX7_cell 58 = .ok (.istore 4, 2) := by decide +kernel
theorem dX7_cell_60 : decode cX7_cell 60 = .ok (.iload 4, 2) := by decide +kernel
theorem dX7_cell_62 : decode cX7_cell 62 = .ok (.ifCond .eq 13, 3) := by decide +kernel
theorem dX7_cell_65 : decode cX7_cell 65 = .ok (.aload_n 0, 1) := by decide +kernel
theorem dX7_cell_66 : decode cX7_cell 66 = .ok (.iload 4, 2) := by decide +kernel
theorem dX7_cell_68 : decode cX7_cell 68 = .ok (.putfield 82, 3) := by decide +kernel
theorem dX7_cell_71 : decode cX7_cell 71 = .ok (.ldc2_w 162, 3) := by decide +kernel
theorem dX7_cell_74 : decode cX7_cell 74 = .ok (.lreturn, 1) := by decide +kernel
theorem dX7_cell_75 : decode cX7_cell 75 = .ok (.aload_n 0, 1) := by decide +kernel
theorem dX7_cell_76 : decode cX7_cell 76 = .ok (.getfield 13, 3) := by decide +kernel
theorem dX7_cell_79 : decode cX7_cell 79 = .ok (.iload_n 1, 1) := by decide +kernel
theorem dX7_cell_80 : decode cX7_cell 80 = .ok (.aaload, 1) := by decide +kernel
theorem dX7_cell_81 : decode cX7_cell 81 = .ok (.getfield 216, 3) := by decide +kernel
theorem dX7_cell_84 : decode cX7_cell 84 = .ok (.iload_n 2, 1) := by decide +kernel
theorem dX7_cell_85 : decode cX7_cell 85 = .ok (.iaload, 1) := by decide +kernel
theorem dX7_cell_86 : decode cX7_cell 86 = .ok (.i2l, 1) := by decide +kernel
theorem dX7_cell_87 : decode cX7_cell 87 = .ok (.lreturn, 1) := by decide +kernel
theorem dX7_copy_0 : decode cX7_copy 0 = .ok (.aload_n 0, 1) := by decide +kernel
theorem dX7_copy_1 : decode cX7_copy 1 = .ok (.iconst 0, 1) := by decide +kernel
theorem dX7_copy_2 : decode cX7_copy 2 = .ok (.putfield 82, 3) := by decide +kernel
theorem dX7_copy_5 : decode cX7_copy 5 = .ok (.iload_n 1, 1) := by decide +kernel
theorem dX7_copy_6 : decode cX7_copy 6 = .ok (.invokestatic 86, 3) := by decide +kernel
theorem dX7_copy_9 : decode cX7_copy 9 = .ok (.ifCond .eq 10, 3) := by decide +kernel
theorem dX7_copy_12 : decode cX7_copy 12 = .ok (.iload_n 3, 1) := by decide +kernel
theorem dX7_copy_13 : decode cX7_copy 13 = .ok (.invokestatic 86, 3) := by decide +kernel
theorem dX7_copy_16 : decode cX7_copy 16 = .ok (.ifCond .ne 5, 3) := by decide +kernel
theorem dX7_copy_19 : decode cX7_copy 19 = .ok (.iconst (-1), 1) := by decide +kernel
theorem dX7_copy_20 : decode cX7_copy 20 = .ok (.ireturn, 1) := by decide +kernel
theorem dX7_copy_21 : decode cX7_copy 21 = .ok (.aload_n 0, 1) := by decide +kernel
theorem dX7_copy_22 : decode cX7_copy 22 = .ok (.getfield 13, 3) := by decide +kernel
theorem dX7_copy_25 : decode cX7_copy 25 = .ok (.iload_n 1, 1) := by decide +kernel
theorem dX7_copy_26 : decode cX7_copy 26 = .ok (.aaload, 1) := by decide +kernel
theorem dX7_copy_27 : decode cX7_copy 27 = .ok (.astore 6, 2) := by decide +kernel
theorem dX7_copy_29 : decode cX7_copy 29 = .ok (.aload_n 0, 1) := by decide +kernel
theorem dX7_copy_30 : decode cX7_copy 30 = .ok (.getfield 13, 3) := by decide +kernel
theorem dX7_copy_33 : decode cX7_copy 33 = .ok (.iload_n 3, 1) := by decide +kernel
theorem dX7_copy_34 : decode cX7_copy 34 = .ok (.aaload, 1) := by decide +kernel
theorem dX7_copy_35 : decode cX7_copy 35 = .ok (.astore 7, 2) := by decide +kernel
theorem dX7_copy_37 : decode cX7_copy 37 = .ok (.aload 6, 2) := by decide +kernel
theorem dX7_copy_39 : decode cX7_copy 39 = .ok (.getfield 206, 3) := by decide +kernel
theorem dX7_copy_42 : decode cX7_copy 42 = .ok (.ifCond .eq 11, 3) := by decide +kernel
theorem dX7_copy_45 : decode cX7_copy 45 = .ok (.aload 7, 2) := by decide +kernel
theorem dX7_copy_47 : decode cX7_copy 47 = .ok (.getfield 206, 3) := by decide +kernel
theorem dX7_copy_50 : decode cX7_copy 50 = .ok (.ifCond .ne 9, 3) := by decide +kernel
theorem dX7_copy_53 : decode cX7_copy 53 = .ok (.aload_n 0, 1) := by decide +kernel
theorem dX7_copy_54 : decode cX7_copy 54 = .ok (.iconst 1, 1) := by decide +kernel
theorem dX7_copy_55 : decode cX7_copy 55 = .ok (.invokevirtual 98, 3) := by decide +kernel
theorem dX7_copy_58 : decode cX7_copy 58 = .ok (.ireturn, 1) := by decide +kernel
theorem dX7_copy_59 : decode cX7_copy 59 = .ok (.aload 6, 2) := by decide +kernel
theorem dX7_copy_61 : decode cX7_copy 61 = .ok (.getfield 219, 3) := by decide +kernel
theorem dX7_copy_64 : decode cX7_copy 64 = .ok (.aload 7, 2) := by decide +kernel
theorem dX7_copy_66 : decode cX7_copy 66 = .ok (.getfield 219, 3) := by decide +kernel
theorem dX7_copy_69 : decode cX7_copy 69 = .ok (.if_icmp .eq 9, 3) := by decide +kernel
theorem dX7_copy_72 : decode cX7_copy 72 = .ok (.aload_n 0, 1) := by decide +kernel
theorem dX7_copy_73 : decode cX7_copy 73 = .ok (.iconst 2, 1) := by decide +kernel
theorem dX7_copy_74 : decode cX7_copy 74 = .ok (.invokevirtual 98, 3) := by decide +kernel
theorem dX7_copy_77 : decode cX7_copy 77 = .ok (.ireturn, 1) := by decide +kernel
theorem dX7_copy_78 : decode cX7_copy 78 = .ok (.aload 6, 2) := by decide +kernel
theorem dX7_copy_80 : decode cX7_copy 80 = .ok (.iload_n 2, 1) := by decide +kernel
theorem dX7_copy_81 : decode cX7_copy 81 = .ok (.iload 5, 2) := by decide +kernel
theorem dX7_copy_83 : decode cX7_copy 83 = .ok (.invokevirtual 222, 3) := by decide +kernel
theorem dX7_copy_86 : decode cX7_copy 86 = .ok (.ifCond .eq 15, 3) := by decide +kernel
theorem dX7_copy_89 : decode cX7_copy 89 = .ok (.aload 7, 2) := by decide +kernel
theorem dX7_copy_91 : decode cX7_copy 91 = .ok (.iload 4, 2) := by decide +kernel
theorem dX7_copy_93 : decode cX7_copy 93 = .ok (.iload 5, 2) := by decide +kernel
theorem dX7_copy_95 : decode cX7_copy 95 = .ok (.invokevirtual 222, 3) := by decide +kernel
theorem dX7_copy_98 : decode cX7_copy 98 = .ok (.ifCond .ne 9, 3) := by decide +kernel
theorem dX7_copy_101 : decode cX7_copy 101 = .ok (.aload_n 0, 1) := by decide +kernel
theorem dX7_copy_102 : decode cX7_copy 102 = .ok (.iconst 3, 1) := by decide +kernel
theorem dX7_copy_103 : decode cX7_copy 103 = .ok (.invokevirtual 98, 3) := by decide +kernel
theorem dX7_copy_106 : decode cX7_copy 106 = .ok (.ireturn, 1) := by decide +kernel
theorem dX7_copy_107 : decode cX7_copy 107 = .ok (.aload 6, 2) := by decide +kernel
theorem dX7_copy_109 : decode cX7_copy 109 = .ok (.getfield 216, 3) := by decide +kernel
theorem dX7_copy_112 : decode cX7_copy 112 = .ok (.iload_n 2, 1) := by decide +kernel
theorem dX7_copy_113 : decode cX7_copy 113 = .ok (.aload 7, 2) := by decide +kernel
theorem dX7_copy_115 : decode cX7_copy 115 = .ok (.getfield 216, 3) := by decide +kernel
theorem dX7_copy_118 : decode cX7_copy 118 = .ok (.iload 4, 2) := by decide +kernel
theorem dX7_copy_120 : decode cX7_copy 120 = .ok (.iload 5, 2) := by decide +kernel
theorem dX7_copy_122 : decode cX7_copy 122 = .ok (.invokestatic 225, 3) := by decide +kernel
theorem dX7_copy_125 : decode cX7_copy 125 = .ok (.iload 5, 2) := by decide +kernel
theorem dX7_copy_127 : decode cX7_copy 127 = .ok (.ireturn, 1) := by decide +kernel
theorem dX7_tell_0 : decode cX7_tell 0 = .ok (.aload_n 0, 1) := by decide +kernel
theorem dX7_tell_1 : decode cX7_tell 1 = .ok (.iload_n 1, 1) := by decide +kernel
theorem dX7_tell_2 : decode cX7_tell 2 = .ok (.invokevirtual 112, 3) := by decide +kernel
theorem dX7_tell_5 : decode cX7_tell 5 = .ok (.ifCond .ne 5, 3) := by decide +kernel
theorem dX7_tell_8 : decode cX7_tell 8 = .ok (.iconst (-1), 1) := by decide +kernel
theorem dX7_tell_9 : decode cX7_tell 9 = .ok (.ireturn, 1) := by decide +kernel
theorem dX7_tell_10 : decode cX7_tell 10 = .ok (.aload_n 0, 1) := by decide +kernel
theorem dX7_tell_11 : decode cX7_tell 11 = .ok (.getfield 28, 3) := by decide +kernel
theorem dX7_tell_14 : decode cX7_tell 14 = .ok (.iload_n 1, 1) := by decide +kernel
theorem dX7_tell_15 : decode cX7_tell 15 = .ok (.aaload, 1) := by decide +kernel
theorem dX7_tell_16 : decode cX7_tell 16 = .ok (.astore_n 2, 1) := by decide +kernel
theorem dX7_tell_17 : decode cX7_tell 17 = .ok (.aload_n 2, 1) := by decide +kernel
theorem dX7_tell_18 : decode cX7_tell 18 = .ok (.getfield 115, 3) := by decide +kernel
theorem dX7_tell_21 : decode cX7_tell 21 = .ok (.iconst 2, 1) := by decide +kernel
theorem dX7_tell_22 : decode cX7_tell 22 = .ok (.if_icmp .ne 9, 3) := by decide +kernel
theorem dX7_tell_25 : decode cX7_tell 25 = .ok (.aload_n 0, 1) := by decide +kernel
theorem dX7_tell_26 : decode cX7_tell 26 = .ok (.aload_n 2, 1) := by decide +kernel
theorem dX7_tell_27 : decode cX7_tell 27 = .ok (.invokevirtual 231, 3) := by decide +kernel
theorem dX7_tell_30 : decode cX7_tell 30 = .ok (.ireturn, 1) := by decide +kernel
theorem dX7_tell_31 : decode cX7_tell 31 = .ok (.aload_n 2, 1) := by decide +kernel
theorem dX7_tell_32 : decode cX7_tell 32 = .ok (.getfield 115, 3) := by decide +kernel
theorem dX7_tell_35 : decode cX7_tell 35 = .ok (.iconst 1, 1) := by decide +kernel
theorem dX7_tell_36 : decode cX7_tell 36 = .ok (.if_icmp .ne 11, 3) := by decide +kernel
theorem dX7_tell_39 : decode cX7_tell 39 = .ok (.aload_n 0, 1) := by decide +kernel
theorem dX7_tell_40 : decode cX7_tell 40 = .ok (.aload_n 2, 1) := by decide +kernel
theorem dX7_tell_41 : decode cX7_tell 41 = .ok (.invokevirtual 234, 3) := by decide +kernel
theorem dX7_tell_44 : decode cX7_tell 44 = .ok (.goto 8, 3) := by decide +kernel
theorem dX7_tell_47 : decode cX7_tell 47 = .ok (.aload_n 0, 1) := by decide +kernel
theorem dX7_tell_48 : decode cX7_tell 48 = .ok (.aload_n 2, 1) := by decide +kernel
theorem dX7_tell_49 : decode cX7_tell 49 = .ok (.invokevirtual 237, 3) := by decide +kernel
theorem dX7_tell_52 : decode cX7_tell 52 = .ok (.ireturn, 1) := by decide +kernel
theorem dX7_spelt_0 : decode cX7_spelt 0 = .ok (.aload_n 0, 1) := by decide +kernel
theorem dX7_spelt_1 : decode cX7_spelt 1 = .ok (.iload_n 1, 1) := by decide +kernel
theorem dX7_spelt_2 : decode cX7_spelt 2 = .ok (.invokevirtual 112, 3) := by decide +kernel
theorem dX7_spelt_5 : decode cX7_spelt 5 = .ok (.ifCond .ne 5, 3) := by decide +kernel
theorem dX7_spelt_8 : decode cX7_spelt 8 = .ok (.iconst (-1), 1) := by decide +kernel
theorem dX7_spelt_9 : decode cX7_spelt 9 = .ok (.ireturn, 1) := by decide +kernel
theorem dX7_spelt_10 : decode cX7_spelt 10 = .ok (.aload_n 0, 1) := by decide +kernel
theorem dX7_spelt_11 : decode cX7_spelt 11 = .ok (.getfield 28, 3) := by decide +kernel
theorem dX7_spelt_14 : decode cX7_spelt 14 = .ok (.iload_n 1, 1) := by decide +kernel
theorem dX7_spelt_15 : decode cX7_spelt 15 = .ok (.aaload, 1) := by decide +kernel
theorem dX7_spelt_16 : decode cX7_spelt 16 = .ok (.getfield 115, 3) := by decide +kernel
theorem dX7_spelt_19 : decode cX7_spelt 19 = .ok (.iconst 2, 1) := by decide +kernel
theorem dX7_spelt_20 : decode cX7_spelt 20 = .ok (.if_icmp .ne 11, 3) := by decide +kernel
theorem dX7_spelt_23 : decode cX7_spelt 23 = .ok (.aload_n 0, 1) := by decide +kernel
theorem dX7_spelt_24 : decode cX7_spelt 24 = .ok (.iconst 5, 1) := by decide +kernel
theorem dX7_spelt_25 : decode cX7_spelt 25 = .ok (.invokevirtual 240, 3) := by decide +kernel
theorem dX7_spelt_28 : decode cX7_spelt 28 = .ok (.bipush 30, 2) := by decide +kernel
theorem dX7_spelt_30 : decode cX7_spelt 30 = .ok (.ireturn, 1) := by decide +kernel
theorem dX7_spelt_31 : decode cX7_spelt 31 = .ok (.aload_n 0, 1) := by decide +kernel
theorem dX7_spelt_32 : decode cX7_spelt 32 = .ok (.iconst 4, 1) := by decide +kernel
theorem dX7_spelt_33 : decode cX7_spelt 33 = .ok (.invokevirtual 240, 3) := by decide +kernel
theorem dX7_spelt_36 : decode cX7_spelt 36 = .ok (.aload_n 0, 1) := by decide +kernel
theorem dX7_spelt_37 : decode cX7_spelt 37 = .ok (.getfield 28, 3) := by decide +kernel
theorem dX7_spelt_40 : decode cX7_spelt 40 = .ok (.iload_n 1, 1) := by decide +kernel
theorem dX7_spelt_41 : decode cX7_spelt 41 = .ok (.aaload, 1) := by decide +kernel
theorem dX7_spelt_42 : decode cX7_spelt 42 = .ok (.getfield 132, 3) := by decide +kernel
theorem dX7_spelt_45 : decode cX7_spelt 45 = .ok (.iconst 0, 1) := by decide +kernel
theorem dX7_spelt_46 : decode cX7_spelt 46 = .ok (.iaload, 1) := by decide +kernel
theorem dX7_spelt_47 : decode cX7_spelt 47 = .ok (.ireturn, 1) := by decide +kernel
theorem dX7_as_0 : decode cX7_as 0 = .ok (.aload_n 0, 1) := by decide +kernel
theorem dX7_as_1 : decode cX7_as 1 = .ok (.iconst 0, 1) := by decide +kernel
theorem dX7_as_2 : decode cX7_as 2 = .ok (.putfield 82, 3) := by decide +kernel
theorem dX7_as_5 : decode cX7_as 5 = .ok (.aload_n 0, 1) := by decide +kernel
theorem dX7_as_6 : decode cX7_as 6 = .ok (.iload_n 1, 1) := by decide +kernel
theorem dX7_as_7 : decode cX7_as 7 = .ok (.invokevirtual 112, 3) := by decide +kernel
theorem dX7_as_10 : decode cX7_as 10 = .ok (.ifCond .ne 5, 3) := by decide +kernel
theorem dX7_as_13 : decode cX7_as 13 = .ok (.iconst (-1), 1) := by decide +kernel
theorem dX7_as_14 : decode cX7_as 14 = .ok (.ireturn, 1) := by decide +kernel
theorem dX7_as_15 : decode cX7_as 15 = .ok (.iload_n 2, 1) := by decide +kernel
theorem dX7_as_16 : decode cX7_as 16 = .ok (.iconst 3, 1) := by decide +kernel
theorem dX7_as_17 : decode cX7_as 17 = .ok (.invokestatic 90, 3) := by decide +kernel
theorem dX7_as_20 : decode cX7_as 20 = .ok (.ifCond .ne 6, 3) := by decide +kernel
theorem dX7_as_23 : decode cX7_as 23 = .ok (.bipush (-2), 2) := by decide +kernel
theorem dX7_as_25 : decode cX7_as 25 = .ok (.ireturn, 1) := by decide +kernel
theorem dX7_as_26 : decode cX7_as 26 = .ok (.aload_n 0, 1) := by decide +kernel
theorem dX7_as_27 : decode cX7_as 27 = .ok (.getfield 28, 3) := by decide +kernel
theorem dX7_as_30 : decode cX7_as 30 = .ok (.iload_n 1, 1) := by decide +kernel
theorem dX7_as_31 : decode cX7_as 31 = .ok (.aaload, 1) := by decide +kernel
theorem dX7_as_32 : decode cX7_as 32 = .ok (.getfield 115, 3) := by decide +kernel
theorem dX7_as_35 : decode cX7_as 35 = .ok (.iload_n 2, 1) := by decide +kernel
theorem dX7_as_36 : decode cX7_as 36 = .ok (.if_icmp .lt 7, 3) := by decide +kernel
theorem dX7_as_39 : decode cX7_as 39 = .ok (.iconst 1, 1) := by decide +kernel
theorem dX7_as_40 : decode cX7_as 40 = .ok (.goto 8, 3) := by decide +kernel
theorem dX7_as_43 : decode cX7_as 43 = .ok (.aload_n 0, 1) := by decide +kernel
theorem dX7_as_44 : decode cX7_as 44 = .ok (.iconst 2, 1) := by decide +kernel
theorem dX7_as_45 : decode cX7_as 45 = .ok (.invokevirtual 98, 3) := by decide +kernel
theorem dX7_as_48 : decode cX7_as 48 = .ok (.ireturn, 1) := by decide +kernel
theorem dX7_trace_0 : decode cX7_trace 0 = .ok (.aload_n 0, 1) := by decide +kernel
theorem dX7_trace_1 : decode cX7_trace 1 = .ok (.getfield 243, 3) := by decide +kernel
theorem dX7_trace_4 : decode cX7_trace 4 = .ok (.ireturn, 1) := by decide +kernel
theorem dX7_fault_0 : decode cX7_fault 0 = .ok (.aload_n 0, 1) := by decide +kernel
theorem dX7_fault_1 : decode cX7_fault 1 = .ok (.getfield 82, 3) := by decide +kernel
theorem dX7_fault_4 : decode cX7_fault 4 = .ok (.ireturn, 1) := by decide +kernel
theorem dX7_many_0 : decode cX7_many 0 = .ok (.iload_n 1, 1) := by decide +kernel
theorem dX7_many_1 : decode cX7_many 1 = .ok (.tableswitch 59 0 3 #[31, 36, 41, 54], 31) := by decide +kernel
theorem dX7_many_32 : decode cX7_many 32 = .ok (.aload_n 0, 1) := by decide +kernel
theorem dX7_many_33 : decode cX7_many 33 = .ok (.getfield 109, 3) := by decide +kernel
theorem dX7_many_36 : decode cX7_many 36 = .ok (.ireturn, 1) := by decide +kernel
theorem dX7_many_37 : decode cX7_many 37 = .ok (.aload_n 0, 1) := by decide +kernel
theorem dX7_many_38 : decode cX7_many 38 = .ok (.getfield 125, 3) := by decide +kernel
theorem dX7_many_41 : decode cX7_many 41 = .ok (.ireturn, 1) := by decide +kernel
theorem dX7_many_42 : decode cX7_many 42 = .ok (.aload_n 0, 1) := by decide +kernel
theorem dX7_many_43 : decode cX7_many 43 = .ok (.aload_n 0, 1) := by decide +kernel
theorem dX7_many_44 : decode cX7_many 44 = .ok (.getfield 32, 3) := by decide +kernel
theorem dX7_many_47 : decode cX7_many 47 = .ok (.aload_n 0, 1) := by decide +kernel
theorem dX7_many_48 : decode cX7_many 48 = .ok (.getfield 125, 3) := by decide +kernel
theorem dX7_many_51 : decode cX7_many 51 = .ok (.invokevirtual 246, 3) := by decide +kernel
theorem dX7_many_54 : decode cX7_many 54 = .ok (.ireturn, 1) := by decide +kernel
theorem dX7_many_55 : decode cX7_many 55 = .ok (.aload_n 0, 1) := by decide +kernel
theorem dX7_many_56 : decode cX7_many 56 = .ok (.getfield 182, 3) := by decide +kernel
theorem dX7_many_59 : decode cX7_many 59 = .ok (.ireturn, 1) := by decide +kernel
theorem dX7_many_60 : decode cX7_many 60 = .ok (.bipush (-2), 2) := by decide +kernel
theorem dX7_many_62 : decode cX7_many 62 = .ok (.ireturn, 1) := by decide +kernel
theorem dX7_isBelow_0 : decode cX7_isBelow 0 = .ok (.iload_n 0, 1) := by decide +kernel
theorem dX7_isBelow_1 : decode cX7_isBelow 1 = .ok (.ifCond .lt 12, 3) := by decide +kernel
theorem dX7_isBelow_4 : decode cX7_isBelow 4 = .ok (.iload_n 0, 1) := by decide +kernel
theorem dX7_isBelow_5 : decode cX7_isBelow 5 = .ok (.iload_n 1, 1) := by decide +kernel
theorem dX7_isBelow_6 : decode cX7_isBelow 6 = .ok (.if_icmp .ge 7, 3) := by decide +kernel
theorem dX7_isBelow_9 : decode cX7_isBelow 9 = .ok (.iconst 1, 1) := by decide +kernel
theorem dX7_isBelow_10 : decode cX7_isBelow 10 = .ok (.goto 4, 3) := by decide +kernel
theorem dX7_isBelow_13 : decode cX7_isBelow 13 = .ok (.iconst 0, 1) := by decide +kernel
theorem dX7_isBelow_14 : decode cX7_isBelow 14 = .ok (.ireturn, 1) := by decide +kernel
theorem dX7_isSheet_0 : decode cX7_isSheet 0 = .ok (.iload_n 0, 1) := by decide +kernel
theorem dX7_isSheet_1 : decode cX7_isSheet 1 = .ok (.iconst 4, 1) := by decide +kernel
theorem dX7_isSheet_2 : decode cX7_isSheet 2 = .ok (.invokestatic 90, 3) := by decide +kernel
theorem dX7_isSheet_5 : decode cX7_isSheet 5 = .ok (.ireturn, 1) := by decide +kernel
theorem dX7_isCounted_0 : decode cX7_isCounted 0 = .ok (.iload_n 0, 1) := by decide +kernel
theorem dX7_isCounted_1 : decode cX7_isCounted 1 = .ok (.ifCond .lt 13, 3) := by decide +kernel
theorem dX7_isCounted_4 : decode cX7_isCounted 4 = .ok (.iload_n 0, 1) := by decide +kernel
theorem dX7_isCounted_5 : decode cX7_isCounted 5 = .ok (.bipush 30, 2) := by decide +kernel
theorem dX7_isCounted_7 : decode cX7_isCounted 7 = .ok (.if_icmp .gt 7, 3) := by decide +kernel
theorem dX7_isCounted_10 : decode cX7_isCounted 10 = .ok (.iconst 1, 1) := by decide +kernel
theorem dX7_isCounted_11 : decode cX7_isCounted 11 = .ok (.goto 4, 3) := by decide +kernel
theorem dX7_isCounted_14 : decode cX7_isCounted 14 = .ok (.iconst 0, 1) := by decide +kernel
theorem dX7_isCounted_15 : decode cX7_isCounted 15 = .ok (.ireturn, 1) := by decide +kernel
theorem dX7_isOfRow_0 : decode cX7_isOfRow 0 = .ok (.iload_n 0, 1) := by decide +kernel
theorem dX7_isOfRow_1 : decode cX7_isOfRow 1 = .ok (.iconst 4, 1) := by decide +kernel
theorem dX7_isOfRow_2 : decode cX7_isOfRow 2 = .ok (.invokestatic 90, 3) := by decide +kernel
theorem dX7_isOfRow_5 : decode cX7_isOfRow 5 = .ok (.ifCond .ne 15, 3) := by decide +kernel
theorem dX7_isOfRow_8 : decode cX7_isOfRow 8 = .ok (.iload_n 0, 1) := by decide +kernel
theorem dX7_isOfRow_9 : decode cX7_isOfRow 9 = .ok (.bipush 10, 2) := by decide +kernel
theorem dX7_isOfRow_11 : decode cX7_isOfRow 11 = .ok (.if_icmp .lt 13, 3) := by decide +kernel
theorem dX7_isOfRow_14 : decode cX7_isOfRow 14 = .ok (.iload_n 0, 1) := by decide +kernel
theorem dX7_isOfRow_15 : decode cX7_isOfRow 15 = .ok (.bipush 14, 2) := by decide +kernel
theorem dX7_isOfRow_17 : decode cX7_isOfRow 17 = .ok (.if_icmp .ge 7, 3) := by decide +kernel
theorem dX7_isOfRow_20 : decode cX7_isOfRow 20 = .ok (.iconst 1, 1) := by decide +kernel
theorem dX7_isOfRow_21 : decode cX7_isOfRow 21 = .ok (.goto 4, 3) := by decide +kernel
theorem dX7_isOfRow_24 : decode cX7_isOfRow 24 = .ok (.iconst 0, 1) := by decide +kernel
theorem dX7_isOfRow_25 : decode cX7_isOfRow 25 = .ok (.ireturn, 1) := by decide +kernel
theorem dX7_isWord_0 : decode cX7_isWord 0 = .ok (.iload_n 1, 1) := by decide +kernel
theorem dX7_isWord_1 : decode cX7_isWord 1 = .ok (.aload_n 0, 1) := by decide +kernel
theorem dX7_isWord_2 : decode cX7_isWord 2 = .ok (.getfield 109, 3) := by decide +kernel
theorem dX7_isWord_5 : decode cX7_isWord 5 = .ok (.invokestatic 90, 3) := by decide +kernel
theorem dX7_isWord_8 : decode cX7_isWord 8 = .ok (.ireturn, 1) := by decide +kernel
theorem dX7_failWith_0 : decode cX7_failWith 0 = .ok (.aload_n 0, 1) := by decide +kernel
theorem dX7_failWith_1 : decode cX7_failWith 1 = .ok (.iload_n 1, 1) := by decide +kernel
theorem dX7_failWith_2 : decode cX7_failWith 2 = .ok (.putfield 82, 3) := by decide +kernel
theorem dX7_failWith_5 : decode cX7_failWith 5 = .ok (.bipush (-10), 2) := by decide +kernel
theorem dX7_failWith_7 : decode cX7_failWith 7 = .ok (.iload_n 1, 1) := by decide +kernel
theorem dX7_failWith_8 : decode cX7_failWith 8 = .ok (.isub, 1) := by decide +kernel
theorem dX7_failWith_9 : decode cX7_failWith 9 = .ok (.ireturn, 1) := by decide +kernel
theorem dX7_newWords_0 : decode cX7_newWords 0 = .ok (.iconst 4, 1) := by decide +kernel
theorem dX7_newWords_1 : decode cX7_newWords 1 = .ok (.anewarray 45, 3) := by decide +kernel
theorem dX7_newWords_4 : decode cX7_newWords 4 = .ok (.astore_n 0, 1) := by decide +kernel
theorem dX7_newWords_5 : decode cX7_newWords 5 = .ok (.iconst 0, 1) := by decide +kernel
theorem dX7_newWords_6 : decode cX7_newWords 6 = .ok (.istore_n 1, 1) := by decide +kernel
theorem dX7_newWords_7 : decode cX7_newWords 7 = .ok (.iload_n 1, 1) := by decide +kernel
theorem dX7_newWords_8 : decode cX7_newWords 8 = .ok (.iconst 4, 1) := by decide +kernel
theorem dX7_newWords_9 : decode cX7_newWords 9 = .ok (.if_icmp .ge 19, 3) := by decide +kernel
theorem dX7_newWords_12 : decode cX7_newWords 12 = .ok (.aload_n 0, 1) := by decide +kernel
theorem dX7_newWords_13 : decode cX7_newWords 13 = .ok (.iload_n 1, 1) := by decide +kernel
theorem dX7_newWords_14 : decode cX7_newWords 14 = .ok (.new 45, 3) := by decide +kernel
theorem dX7_newWords_17 : decode cX7_newWords 17 = .ok (.dup, 1) := by decide +kernel
theorem dX7_newWords_18 : decode cX7_newWords 18 = .ok (.invokespecial 47, 3) := by decide +kernel
theorem dX7_newWords_21 : decode cX7_newWords 21 = .ok (.aastore, 1) := by decide +kernel
theorem dX7_newWords_22 : decode cX7_newWords 22 = .ok (.iinc 1 1, 3) := by decide +kernel
theorem dX7_newWords_25 : decode cX7_newWords 25 = .ok (.goto (-18), 3) := by decide +kernel
theorem dX7_newWords_28 : decode cX7_newWords 28 = .ok (.aload_n 0, 1) := by decide +kernel
theorem dX7_newWords_29 : decode cX7_newWords 29 = .ok (.areturn, 1) := by decide +kernel
theorem dX7_takeText_0 : decode cX7_takeText 0 = .ok (.aload_n 0, 1) := by decide +kernel
theorem dX7_takeText_1 : decode cX7_takeText 1 = .ok (.getfield 28, 3) := by decide +kernel
theorem dX7_takeText_4 : decode cX7_takeText 4 = .ok (.astore_n 1, 1) := by decide +kernel
theorem dX7_takeText_5 : decode cX7_takeText 5 = .ok (.aload_n 0, 1) := by decide +kernel
theorem dX7_takeText_6 : decode cX7_takeText 6 = .ok (.aload_n 0, 1) := by decide +kernel
theorem dX7_takeText_7 : decode cX7_takeText 7 = .ok (.getfield 20, 3) := by decide +kernel
theorem dX7_takeText_10 : decode cX7_takeText 10 = .ok (.getfield 249, 3) := by decide +kernel
theorem dX7_takeText_13 : decode cX7_takeText 13 = .ok (.putfield 28, 3) := by decide +kernel
theorem dX7_takeText_16 : decode cX7_takeText 16 = .ok (.aload_n 0, 1) := by decide +kernel
theorem dX7_takeText_17 : decode cX7_takeText 17 = .ok (.getfield 20, 3) := by decide +kernel
theorem dX7_takeText_20 : decode cX7_takeText 20 = .ok (.aload_n 1, 1) := by decide +kernel
theorem dX7_takeText_21 : decode cX7_takeText 21 = .ok (.putfield 249, 3) := by decide +kernel
theorem dX7_takeText_24 : decode cX7_takeText 24 = .ok (.aload_n 0, 1) := by decide +kernel
theorem dX7_takeText_25 : decode cX7_takeText 25 = .ok (.aload_n 0, 1) := by decide +kernel
theorem dX7_takeText_26 : decode cX7_takeText 26 = .ok (.getfield 20, 3) := by decide +kernel
theorem dX7_takeText_29 : decode cX7_takeText 29 = .ok (.getfield 252, 3) := by decide +kernel
theorem dX7_takeText_32 : decode cX7_takeText 32 = .ok (.putfield 109, 3) := by decide +kernel
theorem dX7_takeText_35 : decode cX7_takeText 35 = .ok (.aload_n 0, 1) := by decide +kernel
theorem dX7_takeText_36 : decode cX7_takeText 36 = .ok (.iconst 0, 1) := by decide +kernel
theorem dX7_takeText_37 : decode cX7_takeText 37 = .ok (.putfield 125, 3) := by decide +kernel
theorem dX7_takeText_40 : decode cX7_takeText 40 = .ok (.aload_n 0, 1) := by decide +kernel
theorem dX7_takeText_41 : decode cX7_takeText 41 = .ok (.iconst 0, 1) := by decide +kernel
theorem dX7_takeText_42 : decode cX7_takeText 42 = .ok (.putfield 182, 3) := by decide +kernel
theorem dX7_takeText_45 : decode cX7_takeText 45 = .ok (.aload_n 0, 1) := by decide +kernel
theorem dX7_takeText_46 : decode cX7_takeText 46 = .ok (.iconst 1, 1) := by decide +kernel
theorem dX7_takeText_47 : decode cX7_takeText 47 = .ok (.putfield 76, 3) := by decide +kernel
theorem dX7_takeText_50 : decode cX7_takeText 50 = .ok (.return_, 1) := by decide +kernel
theorem dX7_renewNet_0 : decode cX7_renewNet 0 = .ok (.aload_n 0, 1) := by decide +kernel
theorem dX7_renewNet_1 : decode cX7_renewNet 1 = .ok (.getfield 76, 3) := by decide +kernel
theorem dX7_renewNet_4 : decode cX7_renewNet 4 = .ok (.ifCond .eq 45, 3) := by decide +kernel
theorem dX7_renewNet_7 : decode cX7_renewNet 7 = .ok (.aload_n 0, 1) := by decide +kernel
theorem dX7_renewNet_8 : decode cX7_renewNet 8 = .ok (.getfield 58, 3) := by decide +kernel
theorem dX7_renewNet_11 : decode cX7_renewNet 11 = .ok (.aload_n 0, 1) := by decide +kernel
theorem dX7_renewNet_12 : decode cX7_renewNet 12 = .ok (.getfield 28, 3) := by decide +kernel
theorem dX7_renewNet_15 : decode cX7_renewNet 15 = .ok (.aload_n 0, 1) := by decide +kernel
theorem dX7_renewNet_16 : decode cX7_renewNet 16 = .ok (.getfield 109, 3) := by decide +kernel
theorem dX7_renewNet_19 : decode cX7_renewNet 19 = .ok (.invokevirtual 255, 3) := by decide +kernel
theorem dX7_renewNet_22 : decode cX7_renewNet 22 = .ok (.aload_n 0, 1) := by decide +kernel
theorem dX7_renewNet_23 : decode cX7_renewNet 23 = .ok (.getfield 65, 3) := by decide +kernel
theorem dX7_renewNet_26 : decode cX7_renewNet 26 = .ok (.aload_n 0, 1) := by decide +kernel
theorem dX7_renewNet_27 : decode cX7_renewNet 27 = .ok (.getfield 58, 3) := by decide +kernel
theorem dX7_renewNet_30 : decode cX7_renewNet 30 = .ok (.invokevirtual 259, 3) := by decide +kernel
theorem dX7_renewNet_33 : decode cX7_renewNet 33 = .ok (.aload_n 0, 1) := by decide +kernel
theorem dX7_renewNet_34 : decode cX7_renewNet 34 = .ok (.getfield 72, 3) := by decide +kernel
theorem dX7_renewNet_37 : decode cX7_renewNet 37 = .ok (.aload_n 0, 1) := by decide +kernel
theorem dX7_renewNet_38 : decode cX7_renewNet 38 = .ok (.getfield 65, 3) := by decide +kernel
theorem dX7_renewNet_41 : decode cX7_renewNet 41 = .ok (.invokevirtual 263, 3) := by decide +kernel
theorem dX7_renewNet_44 : decode cX7_renewNet 44 = .ok (.aload_n 0, 1) := by decide +kernel
theorem dX7_renewNet_45 : decode cX7_renewNet 45 = .ok (.iconst 0, 1) := by decide +kernel
theorem dX7_renewNet_46 : decode cX7_renewNet 46 = .ok (.putfield 76, 3) := by decide +kernel
theorem dX7_renewNet_49 : decode cX7_renewNet 49 = .ok (.return_, 1) := by decide +kernel
theorem dX7_heardBy_0 : decode cX7_heardBy 0 = .ok (.iconst 0, 1) := by decide +kernel
theorem dX7_heardBy_1 : decode cX7_heardBy 1 = .ok (.istore 4, 2) := by decide +kernel
theorem dX7_heardBy_3 : decode cX7_heardBy 3 = .ok (.iconst 0, 1) := by decide +kernel
theorem dX7_heardBy_4 : decode cX7_heardBy 4 = .ok (.istore 5, 2) := by decide +kernel
theorem dX7_heardBy_6 : decode cX7_heardBy 6 = .ok (.iload 5, 2) := by decide +kernel
theorem dX7_heardBy_8 : decode cX7_heardBy 8 = .ok (.iload_n 1, 1) := by decide +kernel
theorem dX7_heardBy_9 : decode cX7_heardBy 9 = .ok (.if_icmp .ge 30, 3) := by decide +kernel
theorem dX7_heardBy_12 : decode cX7_heardBy 12 = .ok (.aload_n 0, 1) := by decide +kernel
theorem dX7_heardBy_13 : decode cX7_heardBy 13 = .ok (.iload 5, 2) := by decide +kernel
theorem dX7_heardBy_15 : decode cX7_heardBy 15 = .ok (.aaload, 1) := by decide +kernel
theorem dX7_heardBy_16 : decode cX7_heardBy 16 = .ok (.aload_n 2, 1) := by decide +kernel
theorem dX7_heardBy_17 : decode cX7_heardBy 17 = .ok (.iload_n 3, 1) := by decide +kernel
theorem dX7_heardBy_18 : decode cX7_heardBy 18 = .ok (.invokevirtual 266, 3) := by decide +kernel
theorem dX7_heardBy_21 : decode cX7_heardBy 21 = .ok (.ifCond .eq 12, 3) := by decide +kernel
theorem dX7_heardBy_24 : decode cX7_heardBy 24 = .ok (.iload 4, 2) := by decide +kernel
theorem dX7_heardBy_26 : decode cX7_heardBy 26 = .ok (.iconst 1, 1) := by decide +kernel
theorem dX7_heardBy_27 : decode cX7_heardBy 27 = .ok (.iload 5, 2) := by decide +kernel
theorem dX7_heardBy_29 : decode cX7_heardBy 29 = .ok (.ishl, 1) := by decide +kernel
theorem dX7_heardBy_30 : decode cX7_heardBy 30 = .ok (.ior, 1) := by decide +kernel
theorem dX7_heardBy_31 : decode cX7_heardBy 31 = .ok (.istore 4, 2) := by decide +kernel
theorem dX7_heardBy_33 : decode cX7_heardBy 33 = .ok (.iinc 5 1, 3) := by decide +kernel
theorem dX7_heardBy_36 : decode cX7_heardBy 36 = .ok (.goto (-30), 3) := by decide +kernel
theorem dX7_heardBy_39 : decode cX7_heardBy 39 = .ok (.iload 4, 2) := by decide +kernel
theorem dX7_heardBy_41 : decode cX7_heardBy 41 = .ok (.ireturn, 1) := by decide +kernel
theorem dX7_standIn_0 : decode cX7_standIn 0 = .ok (.iconst 0, 1) := by decide +kernel
theorem dX7_standIn_1 : decode cX7_standIn 1 = .ok (.istore_n 3, 1) := by decide +kernel
theorem dX7_standIn_2 : decode cX7_standIn 2 = .ok (.iconst 1, 1) := by decide +kernel
theorem dX7_standIn_3 : decode cX7_standIn 3 = .ok (.istore 4, 2) := by decide +kernel
theorem dX7_standIn_5 : decode cX7_standIn 5 = .ok (.iload 4, 2) := by decide +kernel
theorem dX7_standIn_7 : decode cX7_standIn 7 = .ok (.iload_n 2, 1) := by decide +kernel
theorem dX7_standIn_8 : decode cX7_standIn 8 = .ok (.if_icmp .gt 26, 3) := by decide +kernel
theorem dX7_standIn_11 : decode cX7_standIn 11 = .ok (.iload_n 3, 1) := by decide +kernel
theorem dX7_standIn_12 : decode cX7_standIn 12 = .ok (.aload_n 0, 1) := by decide +kernel
theorem dX7_standIn_13 : decode cX7_standIn 13 = .ok (.getfield 28, 3) := by decide +kernel
theorem dX7_standIn_16 : decode cX7_standIn 16 = .ok (.aload_n 0, 1) := by decide +kernel
theorem dX7_standIn_17 : decode cX7_standIn 17 = .ok (.getfield 109, 3) := by decide +kernel
theorem dX7_standIn_20 : decode cX7_standIn 20 = .ok (.aload_n 1, 1) := by decide +kernel
theorem dX7_standIn_21 : decode cX7_standIn 21 = .ok (.iload 4, 2) := by decide +kernel
theorem dX7_standIn_23 : decode cX7_standIn 23 = .ok (.invokestatic 135, 3) := by decide +kernel
theorem dX7_standIn_26 : decode cX7_standIn 26 = .ok (.ior, 1) := by decide +kernel
theorem dX7_standIn_27 : decode cX7_standIn 27 = .ok (.istore_n 3, 1) := by decide +kernel
theorem dX7_standIn_28 : decode cX7_standIn 28 = .ok (.iinc 4 1, 3) := by decide +kernel
theorem dX7_standIn_31 : decode cX7_standIn 31 = .ok (.goto (-26), 3) := by decide +kernel
theorem dX7_standIn_34 : decode cX7_standIn 34 = .ok (.iload_n 3, 1) := by decide +kernel
theorem dX7_standIn_35 : decode cX7_standIn 35 = .ok (.ireturn, 1) := by decide +kernel
theorem dX7_heardInTold_0 : decode cX7_heardInTold 0 = .ok (.iconst 1, 1) := by decide +kernel
theorem dX7_heardInTold_1 : decode cX7_heardInTold 1 = .ok (.aload_n 0, 1) := by decide +kernel
theorem dX7_heardInTold_2 : decode cX7_heardInTold 2 = .ok (.getfield 109, 3) := by decide +kernel
theorem dX7_heardInTold_5 : decode cX7_heardInTold 5 = .ok (.ishl, 1) := by decide +kernel
theorem dX7_heardInTold_6 : decode cX7_heardInTold 6 = .ok (.iconst 1, 1) := by decide +kernel
theorem dX7_heardInTold_7 : decode cX7_heardInTold 7 = .ok (.isub, 1) := by decide +kernel
theorem dX7_heardInTold_8 : decode cX7_heardInTold 8 = .ok (.istore_n 3, 1) := by decide +kernel
theorem dX7_heardInTold_9 : decode cX7_heardInTold 9 = .ok (.iconst 0, 1) := by decide +kernel
theorem dX7_heardInTold_10 : decode cX7_heardInTold 10 = .ok (.istore 4, 2) := by decide +kernel
theorem dX7_heardInTold_12 : decode cX7_heardInTold 12 = .ok (.iconst 0, 1) := by decide +kernel
theorem dX7_heardInTold_13 : decode cX7_heardInTold 13 = .ok (.istore 5, 2) := by decide +kernel
theorem dX7_heardInTold_15 : decode cX7_heardInTold 15 = .ok (.bipush (-9), 2) := by decide +kernel
theorem dX7_heardInTold_17 : decode cX7_heardInTold 17 = .ok (.istore 6, 2) := by decide +kernel
theorem dX7_heardInTold_19 : decode cX7_heardInTold 19 = .ok (.bipush (-9), 2) := by decide +kernel
theorem dX7_heardInTold_21 : decode cX7_heardInTold 21 = .ok (.istore 7, 2) := by decide +kernel
theorem dX7_heardInTold_23 : decode cX7_heardInTold 23 = .ok (.iconst 1, 1) := by decide +kernel
theorem dX7_heardInTold_24 : decode cX7_heardInTold 24 = .ok (.istore 8, 2) := by decide +kernel
theorem dX7_heardInTold_26 : decode cX7_heardInTold 26 = .ok (.iload 8, 2) := by decide +kernel
theorem dX7_heardInTold_28 : decode cX7_heardInTold 28 = .ok (.iload_n 1, 1) := by decide +kernel
theorem dX7_heardInTold_29 : decode cX7_heardInTold 29 = .ok (.if_icmp .gt 78, 3) := by decide +kernel
theorem dX7_heardInTold_32 : decode cX7_heardInTold 32 = .ok (.aload_n 0, 1) := by decide +kernel
theorem dX7_heardInTold_33 : decode cX7_heardInTold 33 = .ok (.getfield 28, 3) := by decide +kernel
theorem dX7_heardInTold_36 : decode cX7_heardInTold 36 = .ok (.aload_n 0, 1) := by decide +kernel
theorem dX7_heardInTold_37 : decode cX7_heardInTold 37 = .ok (.getfield 109, 3) := by decide +kernel
theorem dX7_heardInTold_40 : decode cX7_heardInTold 40 = .ok (.aload_n 0, 1) := by decide +kernel
theorem dX7_heardInTold_41 : decode cX7_heardInTold 41 = .ok (.getfield 36, 3) := by decide +kernel
theorem dX7_heardInTold_44 : decode cX7_heardInTold 44 = .ok (.iload 8, 2) := by decide +kernel
theorem dX7_heardInTold_46 : decode cX7_heardInTold 46 = .ok (.invokestatic 135, 3) := by decide +kernel
theorem dX7_heardInTold_49 : decode cX7_heardInTold 49 = .ok (.istore 9, 2) := by decide +kernel
theorem dX7_heardInTold_51 : decode cX7_heardInTold 51 = .ok (.iload 4, 2) := by decide +kernel
theorem dX7_heardInTold_53 : decode cX7_heardInTold 53 = .ok (.iload 9, 2) := by decide +kernel
theorem dX7_heardInTold_55 : decode cX7_heardInTold 55 = .ok (.ior, 1) := by decide +kernel
theorem dX7_heardInTold_56 : decode cX7_heardInTold 56 = .ok (.istore 4, 2) := by decide +kernel
theorem dX7_heardInTold_58 : decode cX7_heardInTold 58 = .ok (.iload 5, 2) := by decide +kernel
theorem dX7_heardInTold_60 : decode cX7_heardInTold 60 = .ok (.iload 9, 2) := by decide +kernel
theorem dX7_heardInTold_62 : decode cX7_heardInTold 62 = .ok (.invokestatic 270, 3) := by decide +kernel
theorem dX7_heardInTold_65 : decode cX7_heardInTold 65 = .ok (.iadd, 1) := by decide +kernel
theorem dX7_heardInTold_66 : decode cX7_heardInTold 66 = .ok (.istore 5, 2) := by decide +kernel
theorem dX7_heardInTold_68 : decode cX7_heardInTold 68 = .ok (.iload 6, 2) := by decide +kernel
theorem dX7_heardInTold_70 : decode cX7_heardInTold 70 = .ok (.bipush (-9), 2) := by decide +kernel
theorem dX7_heardInTold_72 : decode cX7_heardInTold 72 = .ok (.if_icmp .ne 12, 3) := by decide +kernel
theorem dX7_heardInTold_75 : decode cX7_heardInTold 75 = .ok (.iload 4, 2) := by decide +kernel
theorem dX7_heardInTold_77 : decode cX7_heardInTold 77 = .ok (.ifCond .eq 7, 3) := by decide +kernel
theorem dX7_heardInTold_80 : decode cX7_heardInTold 80 = .ok (.iload 8, 2) := by decide +kernel
theorem dX7_heardInTold_82 : decode cX7_heardInTold 82 = .ok (.istore 6, 2) := by decide +kernel
theorem dX7_heardInTold_84 : decode cX7_heardInTold 84 = .ok (.iload 7, 2) := by decide +kernel
theorem dX7_heardInTold_86 : decode cX7_heardInTold 86 = .ok (.bipush (-9), 2) := by decide +kernel
theorem dX7_heardInTold_88 : decode cX7_heardInTold 88 = .ok (.if_icmp .ne 13, 3) := by decide +kernel
theorem dX7_heardInTold_91 : decode cX7_heardInTold 91 = .ok (.iload 4, 2) := by decide +kernel
theorem dX7_heardInTold_93 : decode cX7_heardInTold 93 = .ok (.iload_n 3, 1) := by decide +kernel
theorem dX7_heardInTold_94 : decode cX7_heardInTold 94 = .ok (.if_icmp .ne 7, 3) := by decide +kernel
theorem dX7_heardInTold_97 : decode cX7_heardInTold 97 = .ok (.iload 8, 2) := by decide +kernel
theorem dX7_heardInTold_99 : decode cX7_heardInTold 99 = .ok (.istore 7, 2) := by decide +kernel
theorem dX7_heardInTold_101 : decode cX7_heardInTold 101 = .ok (.iinc 8 1, 3) := by decide +kernel
theorem dX7_heardInTold_104 : decode cX7_heardInTold 104 = .ok (.goto (-78), 3) := by decide +kernel
theorem dX7_heardInTold_107 : decode cX7_heardInTold 107 = .ok (.iload_n 2, 1) := by decide +kernel
theorem dX7_heardInTold_108 : decode cX7_heardInTold 108 = .ok (.ifCond .ne 6, 3) := by decide +kernel
theorem dX7_heardInTold_111 : decode cX7_heardInTold 111 = .ok (.iload 4, 2) := by decide +kernel
theorem dX7_heardInTold_113 : decode cX7_heardInTold 113 = .ok (.ireturn, 1) := by decide +kernel
theorem dX7_heardInTold_114 : decode cX7_heardInTold 114 = .ok (.iload_n 2, 1) := by decide +kernel
theorem dX7_heardInTold_115 : decode cX7_heardInTold 115 = .ok (.iconst 1, 1) := by decide +kernel
theorem dX7_heardInTold_116 : decode cX7_heardInTold 116 = .ok (.if_icmp .ne 6, 3) := by decide +kernel
theorem dX7_heardInTold_119 : decode cX7_heardInTold 119 = .ok (.iload 6, 2) := by decide +kernel
theorem dX7_heardInTold_121 : decode cX7_heardInTold 121 = .ok (.ireturn, 1) := by decide +kernel
theorem dX7_heardInTold_122 : decode cX7_heardInTold 122 = .ok (.iload_n 2, 1) := by decide +kernel
theorem dX7_heardInTold_123 : decode cX7_heardInTold 123 = .ok (.iconst 2, 1) := by decide +kernel
theorem dX7_heardInTold_124 : decode cX7_heardInTold 124 = .ok (.if_icmp .ne 8, 3) := by decide +kernel
theorem dX7_heardInTold_127 : decode cX7_heardInTold 127 = .ok (.iload 7, 2) := by decide +kernel
theorem dX7_heardInTold_129 : decode cX7_heardInTold 129 = .ok (.goto 5, 3) := by decide +kernel
theorem dX7_heardInTold_132 : decode cX7_heardInTold 132 = .ok (.iload 5, 2) := by decide +kernel
theorem dX7_heardInTold_134 : decode cX7_heardInTold 134 = .ok (.ireturn, 1) := by decide +kernel
theorem dX7_standsInEachForm_0 : decode cX7_standsInEachForm 0 = .ok (.iconst 0, 1) := by decide +kernel
theorem dX7_standsInEachForm_1 : decode cX7_standsInEachForm 1 = .ok (.istore_n 3, 1) := by decide +kernel
theorem dX7_standsInEachForm_2 : decode cX7_standsInEachForm 2 = .ok (.iload_n 3, 1) := by decide +kernel
theorem dX7_standsInEachForm_3 : decode cX7_standsInEachForm 3 = .ok (.iconst 2, 1) := by decide +kernel
theorem dX7_standsInEachForm_4 : decode cX7_standsInEachForm 4 = .ok (.if_icmp .ge 58, 3) := by decide +kernel
theorem dX7_standsInEachForm_7 : decode cX7_standsInEachForm 7 = .ok (.iconst 0, 1) := by decide +kernel
theorem dX7_standsInEachForm_8 : decode cX7_standsInEachForm 8 = .ok (.istore 4, 2) := by decide +kernel
theorem dX7_standsInEachForm_10 : decode cX7_standsInEachForm 10 = .ok (.iload 4, 2) := by decide +kernel
theorem dX7_standsInEachForm_12 : decode cX7_standsInEachForm 12 = .ok (.aload_n 2, 1) := by decide +kernel
theorem dX7_standsInEachForm_13 : decode cX7_standsInEachForm 13 = .ok (.getfield 118, 3) := by decide +kernel
theorem dX7_standsInEachForm_16 : decode cX7_standsInEachForm 16 = .ok (.if_icmp .ge 23, 3) := by decide +kernel
theorem dX7_standsInEachForm_19 : decode cX7_standsInEachForm 19 = .ok (.aload_n 0, 1) := by decide +kernel
theorem dX7_standsInEachForm_20 : decode cX7_standsInEachForm 20 = .ok (.getfield 52, 3) := by decide +kernel
theorem dX7_standsInEachForm_23 : decode cX7_standsInEachForm 23 = .ok (.iload 4, 2) := by decide +kernel
theorem dX7_standsInEachForm_25 : decode cX7_standsInEachForm 25 = .ok (.aload_n 2, 1) := by decide +kernel
theorem dX7_standsInEachForm_26 : decode cX7_standsInEachForm 26 = .ok (.iload_n 3, 1) := by decide +kernel
theorem dX7_standsInEachForm_27 : decode cX7_standsInEachForm 27 = .ok (.iload 4, 2) := by decide +kernel
theorem dX7_standsInEachForm_29 : decode cX7_standsInEachForm 29 = .ok (.invokevirtual 275, 3) := by decide +kernel
theorem dX7_standsInEachForm_32 : decode cX7_standsInEachForm 32 = .ok (.iastore, 1) := by decide +kernel
theorem dX7_standsInEachForm_33 : decode cX7_standsInEachForm 33 = .ok (.iinc 4 1, 3) := by decide +kernel
theorem dX7_standsInEachForm_36 : decode cX7_standsInEachForm 36 = .ok (.goto (-26), 3) := by decide +kernel
theorem dX7_standsInEachForm_39 : decode cX7_standsInEachForm 39 = .ok (.aload_n 1, 1) := by decide +kernel
theorem dX7_standsInEachForm_40 : decode cX7_standsInEachForm 40 = .ok (.aload_n 0, 1) := by decide +kernel
theorem dX7_standsInEachForm_41 : decode cX7_standsInEachForm 41 = .ok (.getfield 52, 3) := by decide +kernel
theorem dX7_standsInEachForm_44 : decode cX7_standsInEachForm 44 = .ok (.aload_n 2, 1) := by decide +kernel
theorem dX7_standsInEachForm_45 : decode cX7_standsInEachForm 45 = .ok (.getfield 118, 3) := by decide +kernel
theorem dX7_standsInEachForm_48 : decode cX7_standsInEachForm 48 = .ok (.invokevirtual 278, 3) := by decide +kernel
theorem dX7_standsInEachForm_51 : decode cX7_standsInEachForm 51 = .ok (.ifCond .ne 5, 3) := by decide +kernel
theorem dX7_standsInEachForm_54 : decode cX7_standsInEachForm 54 = .ok (.iconst 0, 1) := by decide +kernel
theorem dX7_standsInEachForm_55 : decode cX7_standsInEachForm 55 = .ok (.ireturn, 1) := by decide +kernel
theorem dX7_standsInEachForm_56 : decode cX7_standsInEachForm 56 = .ok (.iinc 3 1, 3) := by decide +kernel
theorem dX7_standsInEachForm_59 : decode cX7_standsInEachForm 59 = .ok (.goto (-57), 3) := by decide +kernel
theorem dX7_standsInEachForm_62 : decode cX7_standsInEachForm 62 = .ok (.iconst 1, 1) := by decide +kernel
theorem dX7_standsInEachForm_63 : decode cX7_standsInEachForm 63 = .ok (.ireturn, 1) := by decide +kernel
theorem dX7_readingsAreSo_0 : decode cX7_readingsAreSo 0 = .ok (.iconst 0, 1) := by decide +kernel
theorem dX7_readingsAreSo_1 : decode cX7_readingsAreSo 1 = .ok (.istore_n 2, 1) := by decide +kernel
theorem dX7_readingsAreSo_2 : decode cX7_readingsAreSo 2 = .ok (.iload_n 2, 1) := by decide +kernel
theorem dX7_readingsAreSo_3 : decode cX7_readingsAreSo 3 = .ok (.aload_n 0, 1) := by decide +kernel
theorem dX7_readingsAreSo_4 : decode cX7_readingsAreSo 4 = .ok (.getfield 182, 3) := by decide +kernel
theorem dX7_readingsAreSo_7 : decode cX7_readingsAreSo 7 = .ok (.if_icmp .ge 64, 3) := by decide +kernel
theorem dX7_readingsAreSo_10 : decode cX7_readingsAreSo 10 = .ok (.aload_n 0, 1) := by decide +kernel
theorem dX7_readingsAreSo_11 : decode cX7_readingsAreSo 11 = .ok (.getfield 41, 3) := by decide +kernel
theorem dX7_readingsAreSo_14 : decode cX7_readingsAreSo 14 = .ok (.iload_n 2, 1) := by decide +kernel
theorem dX7_readingsAreSo_15 : decode cX7_readingsAreSo 15 = .ok (.aaload, 1) := by decide +kernel
theorem dX7_readingsAreSo_16 : decode cX7_readingsAreSo 16 = .ok (.astore_n 3, 1) := by decide +kernel
theorem dX7_readingsAreSo_17 : decode cX7_readingsAreSo 17 = .ok (.aload_n 3, 1) := by decide +kernel
theorem dX7_readingsAreSo_18 : decode cX7_readingsAreSo 18 = .ok (.getfield 281, 3) := by decide +kernel
theorem dX7_readingsAreSo_21 : decode cX7_readingsAreSo 21 = .ok (.iload_n 1, 1) := by decide +kernel
theorem dX7_readingsAreSo_22 : decode cX7_readingsAreSo 22 = .ok (.if_icmp .ne 10, 3) := by decide +kernel
theorem dX7_readingsAreSo_25 : decode cX7_readingsAreSo 25 = .ok (.aload_n 0, 1) := by decide +kernel
theorem dX7_readingsAreSo_26 : decode cX7_readingsAreSo 26 = .ok (.getfield 48, 3) := by decide +kernel
theorem dX7_readingsAreSo_29 : decode cX7_readingsAreSo 29 = .ok (.goto 12, 3) := by decide +kernel
theorem dX7_readingsAreSo_32 : decode cX7_readingsAreSo 32 = .ok (.aload_n 0, 1) := by decide +kernel
theorem dX7_readingsAreSo_33 : decode cX7_readingsAreSo 33 = .ok (.getfield 28, 3) := by decide +kernel
theorem dX7_readingsAreSo_36 : decode cX7_readingsAreSo 36 = .ok (.aload_n 3, 1) := by decide +kernel
theorem dX7_readingsAreSo_37 : decode cX7_readingsAreSo 37 = .ok (.getfield 281, 3) := by decide +kernel
theorem dX7_readingsAreSo_40 : decode cX7_readingsAreSo 40 = .ok (.aaload, 1) := by decide +kernel
theorem dX7_readingsAreSo_41 : decode cX7_readingsAreSo 41 = .ok (.astore 4, 2) := by decide +kernel
theorem dX7_readingsAreSo_43 : decode cX7_readingsAreSo 43 = .ok (.aload 4, 2) := by decide +kernel
theorem dX7_readingsAreSo_45 : decode cX7_readingsAreSo 45 = .ok (.aload_n 3, 1) := by decide +kernel
theorem dX7_readingsAreSo_46 : decode cX7_readingsAreSo 46 = .ok (.getfield 284, 3) := by decide +kernel
theorem dX7_readingsAreSo_49 : decode cX7_readingsAreSo 49 = .ok (.aload_n 3, 1) := by decide +kernel
theorem dX7_readingsAreSo_50 : decode cX7_readingsAreSo 50 = .ok (.getfield 285, 3) := by decide +kernel
theorem dX7_readingsAreSo_53 : decode cX7_readingsAreSo 53 = .ok (.invokevirtual 278, 3) := by decide +kernel
theorem dX7_readingsAreSo_56 : decode cX7_readingsAreSo 56 = .ok (.aload_n 3, 1) := by decide +kernel
theorem dX7_readingsAreSo_57 : decode cX7_readingsAreSo 57 = .ok (.getfield 286, 3) := by decide +kernel
theorem dX7_readingsAreSo_60 : decode cX7_readingsAreSo 60 = .ok (.if_icmp .eq 5, 3) := by decide +kernel
theorem dX7_readingsAreSo_63 : decode cX7_readingsAreSo 63 = .ok (.iconst 0, 1) := by decide +kernel
theorem dX7_readingsAreSo_64 : decode cX7_readingsAreSo 64 = .ok (.ireturn, 1) := by decide +kernel
theorem dX7_readingsAreSo_65 : decode cX7_readingsAreSo 65 = .ok (.iinc 2 1, 3) := by decide +kernel
theorem dX7_readingsAreSo_68 : decode cX7_readingsAreSo 68 = .ok (.goto (-66), 3) := by decide +kernel
theorem dX7_readingsAreSo_71 : decode cX7_readingsAreSo 71 = .ok (.iconst 1, 1) := by decide +kernel
theorem dX7_readingsAreSo_72 : decode cX7_readingsAreSo 72 = .ok (.ireturn, 1) := by decide +kernel
theorem dX7_leaveTrace_0 : decode cX7_leaveTrace 0 = .ok (.aload_n 0, 1) := by decide +kernel
theorem dX7_leaveTrace_1 : decode cX7_leaveTrace 1 = .ok (.bipush 31, 2) := by decide +kernel
theorem dX7_leaveTrace_3 : decode cX7_leaveTrace 3 = .ok (.aload_n 0, 1) := by decide +kernel
theorem dX7_leaveTrace_4 : decode cX7_leaveTrace 4 = .ok (.getfield 243, 3) := by decide +kernel
theorem dX7_leaveTrace_7 : decode cX7_leaveTrace 7 = .ok (.imul, 1) := by decide +kernel
theorem dX7_leaveTrace_8 : decode cX7_leaveTrace 8 = .ok (.iload_n 1, 1) := by decide +kernel
theorem dX7_leaveTrace_9 : decode cX7_leaveTrace 9 = .ok (.iadd, 1) := by decide +kernel
theorem dX7_leaveTrace_10 : decode cX7_leaveTrace 10 = .ok (.putfield 243, 3) := by decide +kernel
theorem dX7_leaveTrace_13 : decode cX7_leaveTrace 13 = .ok (.return_, 1) := by decide +kernel
theorem dX7_tellPlain_0 : decode cX7_tellPlain 0 = .ok (.aload_n 0, 1) := by decide +kernel
theorem dX7_tellPlain_1 : decode cX7_tellPlain 1 = .ok (.iconst 1, 1) := by decide +kernel
theorem dX7_tellPlain_2 : decode cX7_tellPlain 2 = .ok (.invokevirtual 240, 3) := by decide +kernel
theorem dX7_tellPlain_5 : decode cX7_tellPlain 5 = .ok (.aload_n 1, 1) := by decide +kernel
theorem dX7_tellPlain_6 : decode cX7_tellPlain 6 = .ok (.getfield 118, 3) := by decide +kernel
theorem dX7_tellPlain_9 : decode cX7_tellPlain 9 = .ok (.ireturn, 1) := by decide +kernel
theorem dX7_tellBoth_0 : decode cX7_tellBoth 0 = .ok (.aload_n 0, 1) := by decide +kernel
theorem dX7_tellBoth_1 : decode cX7_tellBoth 1 = .ok (.iconst 2, 1) := by decide +kernel
theorem dX7_tellBoth_2 : decode cX7_tellBoth 2 = .ok (.invokevirtual 240, 3) := by decide +kernel
theorem dX7_tellBoth_5 : decode cX7_tellBoth 5 = .ok (.aload_n 0, 1) := by decide +kernel
theorem dX7_tellBoth_6 : decode cX7_tellBoth 6 = .ok (.aload_n 1, 1) := by decide +kernel
theorem dX7_tellBoth_7 : decode cX7_tellBoth 7 = .ok (.invokevirtual 237, 3) := by decide +kernel
theorem dX7_tellBoth_10 : decode cX7_tellBoth 10 = .ok (.bipush 100, 2) := by decide +kernel
theorem dX7_tellBoth_12 : decode cX7_tellBoth 12 = .ok (.iadd, 1) := by decide +kernel
theorem dX7_tellBoth_13 : decode cX7_tellBoth 13 = .ok (.ireturn, 1) := by decide +kernel
theorem dX7_tellTurned_0 : decode cX7_tellTurned 0 = .ok (.aload_n 0, 1) := by decide +kernel
theorem dX7_tellTurned_1 : decode cX7_tellTurned 1 = .ok (.iconst 3, 1) := by decide +kernel
theorem dX7_tellTurned_2 : decode cX7_tellTurned 2 = .ok (.invokevirtual 240, 3) := by decide +kernel
theorem dX7_tellTurned_5 : decode cX7_tellTurned 5 = .ok (.aload_n 0, 1) := by decide +kernel
theorem dX7_tellTurned_6 : decode cX7_tellTurned 6 = .ok (.aload_n 1, 1) := by decide +kernel
theorem dX7_tellTurned_7 : decode cX7_tellTurned 7 = .ok (.invokevirtual 234, 3) := by decide +kernel
theorem dX7_tellTurned_10 : decode cX7_tellTurned 10 = .ok (.istore_n 2, 1) := by decide +kernel
theorem dX7_tellTurned_11 : decode cX7_tellTurned 11 = .ok (.iload_n 2, 1) := by decide +kernel
theorem dX7_tellTurned_12 : decode cX7_tellTurned 12 = .ok (.aload_n 0, 1) := by decide +kernel
theorem dX7_tellTurned_13 : decode cX7_tellTurned 13 = .ok (.aload_n 1, 1) := by decide +kernel
theorem dX7_tellTurned_14 : decode cX7_tellTurned 14 = .ok (.invokevirtual 237, 3) := by decide +kernel
theorem dX7_tellTurned_17 : decode cX7_tellTurned 17 = .ok (.iadd, 1) := by decide +kernel
theorem dX7_tellTurned_18 : decode cX7_tellTurned 18 = .ok (.ireturn, 1) := by decide +kernel
theorem dX8_init_0 : decode cX8_init 0 = .ok (.aload_n 0, 1) := by decide +kernel
theorem dX8_init_1 : decode cX8_init 1 = .ok (.invokespecial 1, 3) := by decide +kernel
theorem dX8_init_4 : decode cX8_init 4 = .ok (.aload_n 0, 1) := by decide +kernel
theorem dX8_init_5 : decode cX8_init 5 = .ok (.iconst 4, 1) := by decide +kernel
theorem dX8_init_6 : decode cX8_init 6 = .ok (.newarray .int, 2) := by decide +kernel
theorem dX8_init_8 : decode cX8_init 8 = .ok (.dup, 1) := by decide +kernel
theorem dX8_init_9 : decode cX8_init 9 = .ok (.iconst 0, 1) := by decide +kernel
theorem dX8_init_10 : decode cX8_init 10 = .ok (.bipush (-9), 2) := by decide +kernel
theorem dX8_init_12 : decode cX8_init 12 = .ok (.iastore, 1) := by decide +kernel
theorem dX8_init_13 : decode cX8_init 13 = .ok (.dup, 1) := by decide +kernel
theorem dX8_init_14 : decode cX8_init 14 = .ok (.iconst 1, 1) := by decide +kernel
theorem dX8_init_15 : decode cX8_init 15 = .ok (.bipush (-9), 2) := by decide +kernel
theorem dX8_init_17 : decode cX8_init 17 = .ok (.iastore, 1) := by decide +kernel
theorem dX8_init_18 : decode cX8_init 18 = .ok (.dup, 1) := by decide +kernel
theorem dX8_init_19 : decode cX8_init 19 = .ok (.iconst 2, 1) := by decide +kernel
theorem dX8_init_20 : decode cX8_init 20 = .ok (.bipush (-9), 2) := by decide +kernel
theorem dX8_init_22 : decode cX8_init 22 = .ok (.iastore, 1) := by decide +kernel
theorem dX8_init_23 : decode cX8_init 23 = .ok (.dup, 1) := by decide +kernel
theorem dX8_init_24 : decode cX8_init 24 = .ok (.iconst 3, 1) := by decide +kernel
theorem dX8_init_25 : decode cX8_init 25 = .ok (.bipush (-9), 2) := by decide +kernel
theorem dX8_init_27 : decode cX8_init 27 = .ok (.iastore, 1) := by decide +kernel
theorem dX8_init_28 : decode cX8_init 28 = .ok (.putfield 9, 3) := by decide +kernel
theorem dX8_init_31 : decode cX8_init 31 = .ok (.aload_n 0, 1) := by decide +kernel
theorem dX8_init_32 : decode cX8_init 32 = .ok (.iconst 4, 1) := by decide +kernel
theorem dX8_init_33 : decode cX8_init 33 = .ok (.newarray .int, 2) := by decide +kernel
theorem dX8_init_35 : decode cX8_init 35 = .ok (.putfield 13, 3) := by decide +kernel
theorem dX8_init_38 : decode cX8_init 38 = .ok (.aload_n 0, 1) := by decide +kernel
theorem dX8_init_39 : decode cX8_init 39 = .ok (.sipush 240, 3) := by decide +kernel
theorem dX8_init_42 : decode cX8_init 42 = .ok (.newarray .int, 2) := by decide +kernel
theorem dX8_init_44 : decode cX8_init 44 = .ok (.putfield 16, 3) := by decide +kernel
theorem dX8_init_47 : decode cX8_init 47 = .ok (.aload_n 0, 1) := by decide +kernel
theorem dX8_init_48 : decode cX8_init 48 = .ok (.iconst 4, 1) := by decide +kernel
theorem dX8_init_49 : decode cX8_init 49 = .ok (.newarray .int, 2) := by decide +kernel
theorem dX8_init_51 : decode cX8_init 51 = .ok (.putfield 19, 3) := by decide +kernel
theorem dX8_init_54 : decode cX8_init 54 = .ok (.aload_n 0, 1) := by decide +kernel
theorem dX8_init_55 : decode cX8_init 55 = .ok (.iconst 4, 1) := by decide +kernel
theorem dX8_init_56 : decode cX8_init 56 = .ok (.newarray .int, 2) := by decide +kernel
theorem dX8_init_58 : decode cX8_init 58 = .ok (.putfield 22, 3) := by decide +kernel
theorem dX8_init_61 : decode cX8_init 61 = .ok (.aload_n 0, 1) := by decide +kernel
theorem dX8_init_62 : decode cX8_init 62 = .ok (.bipush 16, 2) := by decide +kernel
theorem dX8_init_64 : decode cX8_init 64 = .ok (.newarray .int, 2) := by decide +kernel
theorem dX8_init_66 : decode cX8_init 66 = .ok (.putfield 25, 3) := by decide +kernel
theorem dX8_init_69 : decode cX8_init 69 = .ok (.aload_n 0, 1) := by decide +kernel
theorem dX8_init_70 : decode cX8_init 70 = .ok (.bipush 60, 2) := by decide +kernel
theorem dX8_init_72 : decode cX8_init 72 = .ok (.newarray .int, 2) := by decide +kernel
theorem dX8_init_74 : decode cX8_init 74 = .ok (.putfield 28, 3) := by decide +kernel
theorem dX8_init_77 : decode cX8_init 77 = .ok (.aload_n 0, 1) := by decide +kernel
theorem dX8_init_78 : decode cX8_init 78 = .ok (.iconst 4, 1) := by decide +kernel
theorem dX8_init_79 : decode cX8_init 79 = .ok (.newarray .int, 2) := by decide +kernel
theorem dX8_init_81 : decode cX8_init 81 = .ok (.putfield 31, 3) := by decide +kernel
theorem dX8_init_84 : decode cX8_init 84 = .ok (.aload_n 0, 1) := by decide +kernel
theorem dX8_init_85 : decode cX8_init 85 = .ok (.iconst 4, 1) := by decide +kernel
theorem dX8_init_86 : decode cX8_init 86 = .ok (.newarray .int, 2) := by decide +kernel
theorem dX8_init_88 : decode cX8_init 88 = .ok (.putfield 34, 3) := by decide +kernel
theorem dX8_init_91 : decode cX8_init 91 = .ok (.aload_n 0, 1) := by decide +kernel
theorem dX8_init_92 : decode cX8_init 92 = .ok (.bipush 16, 2) := by decide +kernel
theorem dX8_init_94 : decode cX8_init 94 = .ok (.newarray .int, 2) := by decide +kernel
theorem dX8_init_96 : decode cX8_init 96 = .ok (.putfield 37, 3) := by decide +kernel
theorem dX8_init_99 : decode cX8_init 99 = .ok (.aload_n 0, 1) := by decide +kernel
theorem dX8_init_100 : decode cX8_init 100 = .ok (.bipush 60, 2) := by decide +kernel
theorem dX8_init_102 : decode cX8_init 102 = .ok (.newarray .int, 2) := by decide +kernel
theorem dX8_init_104 : decode cX8_init 104 = .ok (.putfield 40, 3) := by decide +kernel
theorem dX8_init_107 : decode cX8_init 107 = .ok (.aload_n 0, 1) := by decide +kernel
theorem dX8_init_108 : decode cX8_init 108 = .ok (.bipush 120, 2) := by decide +kernel
theorem dX8_init_110 : decode cX8_init 110 = .ok (.newarray .int, 2) := by decide +kernel
theorem dX8_init_112 : decode cX8_init 112 = .ok (.putfield 43, 3) := by decide +kernel
theorem dX8_init_115 : decode cX8_init 115 = .ok (.aload_n 0, 1) := by decide +kernel
theorem dX8_init_116 : decode cX8_init 116 = .ok (.bipush 120, 2) := by decide +kernel
theorem dX8_init_118 : decode cX8_init 118 = .ok (.newarray .int, 2) := by decide +kernel
theorem dX8_init_120 : decode cX8_init 120 = .ok (.putfield 46, 3) := by decide +kernel
theorem dX8_init_123 : decode cX8_init 123 = .ok (.aload_n 0, 1) := by decide +kernel
theorem dX8_init_124 : decode cX8_init 124 = .ok (.sipush 640, 3) := by decide +kernel
theorem dX8_init_127 : decode cX8_init 127 = .ok (.newarray .int, 2) := by decide +kernel
theorem dX8_init_129 : decode cX8_init 129 = .ok (.putfield 49, 3) := by decide +kernel
theorem dX8_init_132 : decode cX8_init 132 = .ok (.aload_n 0, 1) := by decide +kernel
theorem dX8_init_133 : decode cX8_init 133 = .ok (.sipush 640, 3) := by decide +kernel
theorem dX8_init_136 : decode cX8_init 136 = .ok (.newarray .long, 2) := by decide +kernel
theorem dX8_init_138 : decode cX8_init 138 = .ok (.putfield 52, 3) := by decide +kernel
theorem dX8_init_141 : decode cX8_init 141 = .ok (.aload_n 0, 1) := by decide +kernel
theorem dX8_init_142 : decode cX8_init 142 = .ok (.sipush 640, 3) := by decide +kernel
theorem dX8_init_145 : decode cX8_init 145 = .ok (.newarray .long, 2) := by decide +kernel
theorem dX8_init_147 : decode cX8_init 147 = .ok (.putfield 56, 3) := by decide +kernel
theorem dX8_init_150 : decode cX8_init 150 = .ok (.aload_n 0, 1) := by decide +kernel
theorem dX8_init_151 : decode cX8_init 151 = .ok (.bipush 40, 2) := by decide +kernel
theorem dX8_init_153 : decode cX8_init 153 = .ok (.newarray .int, 2) := by decide +kernel
theorem dX8_init_155 : decode cX8_init 155 = .ok (.putfield 59, 3) := by decide +kernel
theorem dX8_init_158 : decode cX8_init 158 = .ok (.aload_n 0, 1) := by decide +kernel
theorem dX8_init_159 : decode cX8_init 159 = .ok (.bipush 40, 2) := by decide +kernel
theorem dX8_init_161 : decode cX8_init 161 = .ok (.newarray .int, 2) := by decide +kernel
theorem dX8_init_163 : decode cX8_init 163 = .ok (.putfield 62, 3) := by decide +kernel
theorem dX8_init_166 : decode cX8_init 166 = .ok (.aload_n 0, 1) := by decide +kernel
theorem dX8_init_167 : decode cX8_init 167 = .ok (.bipush 8, 2) := by decide +kernel
theorem dX8_init_169 : decode cX8_init 169 = .ok (.newarray .int, 2) := by decide +kernel
theorem dX8_init_171 : decode cX8_init 171 = .ok (.putfield 65, 3) := by decide +kernel
theorem dX8_init_174 : decode cX8_init 174 = .ok (.aload_n 0, 1) := by decide +kernel
theorem dX8_init_175 : decode cX8_init 175 = .ok (.bipush 8, 2) := by decide +kernel
theorem dX8_init_177 : decode cX8_init 177 = .ok (.newarray .int, 2) := by decide +kernel
theorem dX8_init_179 : decode cX8_init 179 = .ok (.putfield 68, 3) := by decide +kernel
theorem dX8_init_182 : decode cX8_init 182 = .ok (.aload_n 0, 1) := by decide +kernel
theorem dX8_init_183 : decode cX8_init 183 = .ok (.bipush 8, 2) := by decide +kernel
theorem dX8_init_185 : decode cX8_init 185 = .ok (.newarray .int, 2) := by decide +kernel
theorem dX8_init_187 : decode cX8_init 187 = .ok (.putfield 71, 3) := by decide +kernel
theorem dX8_init_190 : decode cX8_init 190 = .ok (.aload_n 0, 1) := by decide +kernel
theorem dX8_init_191 : decode cX8_init 191 = .ok (.bipush 64, 2) := by decide +kernel
theorem dX8_init_193 : decode cX8_init 193 = .ok (.newarray .int, 2) := by decide +kernel
theorem dX8_init_195 : decode cX8_init 195 = .ok (.putfield 74, 3) := by decide +kernel
theorem dX8_init_198 : decode cX8_init 198 = .ok (.return_, 1) := by decide +kernel
theorem dX8_fails_0 : decode cX8_fails 0 = .ok (.aload_n 0, 1) := by decide +kernel
theorem dX8_fails_1 : decode cX8_fails 1 = .ok (.iload_n 1, 1) := by decide +kernel
theorem dX8_fails_2 : decode cX8_fails 2 = .ok (.putfield 77, 3) := by decide +kernel
theorem dX8_fails_5 : decode cX8_fails 5 = .ok (.bipush (-10), 2) := by decide +kernel
theorem dX8_fails_7 : decode cX8_fails 7 = .ok (.iload_n 1, 1) := by decide +kernel
theorem dX8_fails_8 : decode cX8_fails 8 = .ok (.isub, 1) := by decide +kernel
theorem dX8_fails_9 : decode cX8_fails 9 = .ok (.ireturn, 1) := by decide +kernel
theorem dX8_lost_0 : decode cX8_lost 0 = .ok (.aload_n 0, 1) := by decide +kernel
theorem dX8_lost_1 : decode cX8_lost 1 = .ok (.iload_n 1, 1) := by decide +kernel
theorem dX8_lost_2 : decode cX8_lost 2 = .ok (.putfield 77, 3) := by decide +kernel
theorem dX8_lost_5 : decode cX8_lost 5 = .ok (.ldc2_w 81, 3) := by decide +kernel
theorem dX8_lost_8 : decode cX8_lost 8 = .ok (.lreturn, 1) := by decide +kernel
theorem dX8_within_0 : decode cX8_within 0 = .ok (.iload_n 0, 1) := by decide +kernel
theorem dX8_within_1 : decode cX8_within 1 = .ok (.iload_n 1, 1) := by decide +kernel
theorem dX8_within_2 : decode cX8_within 2 = .ok (.if_icmp .lt 12, 3) := by decide +kernel
theorem dX8_within_5 : decode cX8_within 5 = .ok (.iload_n 0, 1) := by decide +kernel
theorem dX8_within_6 : decode cX8_within 6 = .ok (.iload_n 2, 1) := by decide +kernel
theorem dX8_within_7 : decode cX8_within 7 = .ok (.if_icmp .gt 7, 3) := by decide +kernel
theorem dX8_within_10 : decode cX8_within 10 = .ok (.iconst 1, 1) := by decide +kernel
theorem dX8_within_11 : decode cX8_within 11 = .ok (.goto 4, 3) := by decide +kernel
theorem dX8_within_14 : decode cX8_within 14 = .ok (.iconst 0, 1) := by decide +kernel
theorem dX8_within_15 : decode cX8_within 15 = .ok (.ireturn, 1) := by decide +kernel
theorem dX8_isSheet_0 : decode cX8_isSheet 0 = .ok (.iload_n 0, 1) := by decide +kernel
theorem dX8_isSheet_1 : decode cX8_isSheet 1 = .ok (.iconst 0, 1) := by decide +kernel
theorem dX8_isSheet_2 : decode cX8_isSheet 2 = .ok (.iconst 3, 1) := by decide +kernel
theorem dX8_isSheet_3 : decode cX8_isSheet 3 = .ok (.invokestatic 83, 3) := by decide +kernel
theorem dX8_isSheet_6 : decode cX8_isSheet 6 = .ok (.ireturn, 1) := by decide +kernel
theorem dX8_isSort_0 : decode cX8_isSort 0 = .ok (.iload_n 0, 1) := by decide +kernel
theorem dX8_isSort_1 : decode cX8_isSort 1 = .ok (.iconst 0, 1) := by decide +kernel
theorem dX8_isSort_2 : decode cX8_isSort 2 = .ok (.iconst 2, 1) := by decide +kernel
theorem dX8_isSort_3 : decode cX8_isSort 3 = .ok (.invokestatic 83, 3) := by decide +kernel
theorem dX8_isSort_6 : decode cX8_isSort 6 = .ok (.ireturn, 1) := by decide +kernel
theorem dX8_against_0 : decode cX8_against 0 = .ok (.aload_n 0, 1) := by decide +kernel
theorem dX8_against_1 : decode cX8_against 1 = .ok (.getfield 9, 3) := by decide +kernel
theorem dX8_against_4 : decode cX8_against 4 = .ok (.iload_n 1, 1) := by decide +kernel
theorem dX8_against_5 : decode cX8_against 5 = .ok (.iaload, 1) := by decide +kernel
theorem dX8_against_6 : decode cX8_against 6 = .ok (.bipush (-9), 2) := by decide +kernel
theorem dX8_against_8 : decode cX8_against 8 = .ok (.if_icmp .eq 15, 3) := by decide +kernel
theorem dX8_against_11 : decode cX8_against 11 = .ok (.aload_n 0, 1) := by decide +kernel
theorem dX8_against_12 : decode cX8_against 12 = .ok (.getfield 9, 3) := by decide +kernel
theorem dX8_against_15 : decode cX8_against 15 = .ok (.iload_n 1, 1) := by decide +kernel
theorem dX8_against_16 : decode cX8_against 16 = .ok (.iaload, 1) := by decide +kernel
theorem dX8_against_17 : decode cX8_against 17 = .ok (.iload_n 2, 1) := by decide +kernel
theorem dX8_against_18 : decode cX8_against 18 = .ok (.if_icmp .eq 5, 3) := by decide +kernel
theorem dX8_against_21 : decode cX8_against 21 = .ok (.iconst 2, 1) := by decide +kernel
theorem dX8_against_22 : decode cX8_against 22 = .ok (.ireturn, 1) := by decide +kernel
theorem dX8_against_23 : decode cX8_against 23 = .ok (.aload_n 0, 1) := by decide +kernel
theorem dX8_against_24 : decode cX8_against 24 = .ok (.getfield 9, 3) := by decide +kernel
theorem dX8_against_27 : decode cX8_against 27 = .ok (.iload_n 1, 1) := by decide +kernel
theorem dX8_against_28 : decode cX8_against 28 = .ok (.iaload, 1) := by decide +kernel
theorem dX8_against_29 : decode cX8_against 29 = .ok (.bipush (-9), 2) := by decide +kernel
theorem dX8_against_31 : decode cX8_against 31 = .ok (.if_icmp .ne 5, 3) := by decide +kernel
theorem dX8_against_34 : decode cX8_against 34 = .ok (.iconst 1, 1) := by decide +kernel
theorem dX8_against_35 : decode cX8_against 35 = .ok (.ireturn, 1) := by decide +kernel
theorem dX8_against_36 : decode cX8_against 36 = .ok (.iload 4, 2) := by decide +kernel
theorem dX8_against_38 : decode cX8_against 38 = .ok (.ifCond .ge 5, 3) := by decide +kernel
theorem dX8_against_41 : decode cX8_against 41 = .ok (.iconst 4, 1) := by decide +kernel
theorem dX8_against_42 : decode cX8_against 42 = .ok (.ireturn, 1) := by decide +kernel
theorem dX8_against_43 : decode cX8_against 43 = .ok (.iload_n 3, 1) := by decide +kernel
theorem dX8_against_44 : decode cX8_against 44 = .ok (.ifCond .lt 26, 3) := by decide +kernel
theorem dX8_against_47 : decode cX8_against 47 = .ok (.iload_n 3, 1) := by decide +kernel
theorem dX8_against_48 : decode cX8_against 48 = .ok (.aload_n 0, 1) := by decide +kernel
theorem dX8_against_49 : decode cX8_against 49 = .ok (.getfield 13, 3) := by decide +kernel
theorem dX8_against_52 : decode cX8_against 52 = .ok (.iload_n 1, 1) := by decide +kernel
theorem dX8_against_53 : decode cX8_against 53 = .ok (.iaload, 1) := by decide +kernel
theorem dX8_against_54 : decode cX8_against 54 = .ok (.if_icmp .gt 16, 3) := by decide +kernel
theorem dX8_against_57 : decode cX8_against 57 = .ok (.iload 4, 2) := by decide +kernel
theorem dX8_against_59 : decode cX8_against 59 = .ok (.aload_n 0, 1) := by decide +kernel
theorem dX8_against_60 : decode cX8_against 60 = .ok (.getfield 13, 3) := by decide +kernel
theorem dX8_against_63 : decode cX8_against 63 = .ok (.iload_n 1, 1) := by decide +kernel
theorem dX8_against_64 : decode cX8_against 64 = .ok (.iaload, 1) := by decide +kernel
theorem dX8_against_65 : decode cX8_against 65 = .ok (.iload_n 3, 1) := by decide +kernel
theorem dX8_against_66 : decode cX8_against 66 = .ok (.isub, 1) := by decide +kernel
theorem dX8_against_67 : decode cX8_against 67 = .ok (.if_icmp .le 7, 3) := by decide +kernel
theorem dX8_against_70 : decode cX8_against 70 = .ok (.iconst 3, 1) := by decide +kernel
theorem dX8_against_71 : decode cX8_against 71 = .ok (.goto 4, 3) := by decide +kernel
theorem dX8_against_74 : decode cX8_against 74 = .ok (.iconst 0, 1) := by decide +kernel
theorem dX8_against_75 : decode cX8_against 75 = .ok (.ireturn, 1) := by decide +kernel
theorem dX8_isWord_0 : decode cX8_isWord 0 = .ok (.iload_n 1, 1) := by decide +kernel
theorem dX8_isWord_1 : decode cX8_isWord 1 = .ok (.ifCond .lt 15, 3) := by decide +kernel
theorem dX8_isWord_4 : decode cX8_isWord 4 = .ok (.iload_n 1, 1) := by decide +kernel
theorem dX8_isWord_5 : decode cX8_isWord 5 = .ok (.aload_n 0, 1) := by decide +kernel
theorem dX8_isWord_6 : decode cX8_isWord 6 = .ok (.getfield 87, 3) := by decide +kernel
theorem dX8_isWord_9 : decode cX8_isWord 9 = .ok (.if_icmp .ge 7, 3) := by decide +kernel
theorem dX8_isWord_12 : decode cX8_isWord 12 = .ok (.iconst 1, 1) := by decide +kernel
theorem dX8_isWord_13 : decode cX8_isWord 13 = .ok (.goto 4, 3) := by decide +kernel
theorem dX8_isWord_16 : decode cX8_isWord 16 = .ok (.iconst 0, 1) := by decide +kernel
theorem dX8_isWord_17 : decode cX8_isWord 17 = .ok (.ireturn, 1) := by decide +kernel
theorem dX8_isSign_0 : decode cX8_isSign 0 = .ok (.aload_n 0, 1) := by decide +kernel
theorem dX8_isSign_1 : decode cX8_isSign 1 = .ok (.getfield 90, 3) := by decide +kernel
theorem dX8_isSign_4 : decode cX8_isSign 4 = .ok (.iload_n 1, 1) := by decide +kernel
theorem dX8_isSign_5 : decode cX8_isSign 5 = .ok (.if_icmp .ge 16, 3) := by decide +kernel
theorem dX8_isSign_8 : decode cX8_isSign 8 = .ok (.aload_n 0, 1) := by decide +kernel
theorem dX8_isSign_9 : decode cX8_isSign 9 = .ok (.getfield 16, 3) := by decide +kernel
theorem dX8_isSign_12 : decode cX8_isSign 12 = .ok (.aload_n 0, 1) := by decide +kernel
theorem dX8_isSign_13 : decode cX8_isSign 13 = .ok (.getfield 90, 3) := by decide +kernel
theorem dX8_isSign_16 : decode cX8_isSign 16 = .ok (.iaload, 1) := by decide +kernel
theorem dX8_isSign_17 : decode cX8_isSign 17 = .ok (.iload_n 2, 1) := by decide +kernel
theorem dX8_isSign_18 : decode cX8_isSign 18 = .ok (.if_icmp .eq 5, 3) := by decide +kernel
theorem dX8_isSign_21 : decode cX8_isSign 21 = .ok (.iconst 0, 1) := by decide +kernel
theorem dX8_isSign_22 : decode cX8_isSign 22 = .ok (.ireturn, 1) := by decide +kernel
theorem dX8_isSign_23 : decode cX8_isSign 23 = .ok (.aload_n 0, 1) := by decide +kernel
theorem dX8_isSign_24 : decode cX8_isSign 24 = .ok (.dup, 1) := by decide +kernel
theorem dX8_isSign_25 : decode cX8_isSign 25 = .ok (.getfield 90, 3) := by decide +kernel
theorem dX8_isSign_28 : decode cX8_isSign 28 = .ok (.iconst 1, 1) := by decide +kernel
theorem dX8_isSign_29 : decode cX8_isSign 29 = .ok (.iadd, 1) := by decide +kernel
theorem dX8_isSign_30 : decode cX8_isSign 30 = .ok (.putfield 90, 3) := by decide +kernel
theorem dX8_isSign_33 : decode cX8_isSign 33 = .ok (.iconst 1, 1) := by decide +kernel
theorem dX8_isSign_34 : decode cX8_isSign 34 = .ok (.ireturn, 1) := by decide +kernel
theorem dX8_words_0 : decode cX8_words 0 = .ok (.aload_n 0, 1) := by decide +kernel
theorem dX8_words_1 : decode cX8_words 1 = .ok (.iconst 0, 1) := by decide +kernel
theorem dX8_words_2 : decode cX8_words 2 = .ok (.putfield 77, 3) := by decide +kernel
theorem dX8_words_5 : decode cX8_words 5 = .ok (.iload_n 1, 1) := by decide +kernel
theorem dX8_words_6 : decode cX8_words 6 = .ok (.invokestatic 93, 3) := by decide +kernel
theorem dX8_words_9 : decode cX8_words 9 = .ok (.ifCond .ne 5, 3) := by decide +kernel
theorem dX8_words_12 : decode cX8_words 12 = .ok (.iconst (-1), 1) := by decide +kernel
theorem dX8_words_13 : decode cX8_words 13 = .ok (.ireturn, 1) := by decide +kernel
theorem dX8_words_14 : decode cX8_words 14 = .ok (.iload_n 2, 1) := by decide +kernel
theorem dX8_words_15 : decode cX8_words 15 = .ok (.invokestatic 97, 3) := by decide +kernel
theorem dX8_words_18 : decode cX8_words 18 = .ok (.ifCond .ne 6, 3) := by decide +kernel
theorem dX8_words_21 : decode cX8_words 21 = .ok (.bipush (-2), 2) := by decide +kernel
theorem dX8_words_23 : decode cX8_words 23 = .ok (.ireturn, 1) := by decide +kernel
theorem dX8_words_24 : decode cX8_words 24 = .ok (.aload_n 0, 1) := by decide +kernel
theorem dX8_words_25 : decode cX8_words 25 = .ok (.iload_n 1, 1) := by decide +kernel
theorem dX8_words_26 : decode cX8_words 26 = .ok (.iload_n 2, 1) := by decide +kernel
theorem dX8_words_27 : decode cX8_words 27 = .ok (.iload_n 3, 1) := by decide +kernel
theorem dX8_words_28 : decode cX8_words 28 = .ok (.iload 4, 2) := by decide +kernel
theorem dX8_words_30 : decode cX8_words 30 = .ok (.invokevirtual 100, 3) := by decide +kernel
theorem dX8_words_33 : decode cX8_words 33 = .ok (.istore 5, 2) := by decide +kernel
theorem dX8_words_35 : decode cX8_words 35 = .ok (.iload 5, 2) := by decide +kernel
theorem dX8_words_37 : decode cX8_words 37 = .ok (.ifCond .eq 10, 3) := by decide +kernel
theorem dX8_words_40 : decode cX8_words 40 = .ok (.aload_n 0, 1) := by decide +kernel
theorem dX8_words_41 : decode cX8_words 41 = .ok (.iload 5, 2) := by decide +kernel
theorem dX8_words_43 : decode cX8_words 43 = .ok (.invokevirtual 104, 3) := by decide +kernel
theorem dX8_words_46 : decode cX8_words 46 = .ok (.ireturn, 1) := by decide +kernel
theorem dX8_words_47 : decode cX8_words 47 = .ok (.bipush 60, 2) := by decide +kernel
theorem dX8_words_49 : decode cX8_words 49 = .ok (.iload_n 1, 1) := by decide +kernel
theorem dX8_words_50 : decode cX8_words 50 = .ok (.imul, 1) := by decide +kernel
theorem dX8_words_51 : decode cX8_words 51 = .ok (.iload_n 3, 1) := by decide +kernel
theorem dX8_words_52 : decode cX8_words 52 = .ok (.iadd, 1) := by decide +kernel
theorem dX8_words_53 : decode cX8_words 53 = .ok (.istore 6, 2) := by decide +kernel
theorem dX8_words_55 : decode cX8_words 55 = .ok (.aload_n 0, 1) := by decide +kernel
theorem dX8_words_56 : decode cX8_words 56 = .ok (.iload 6, 2) := by decide +kernel
theorem dX8_words_58 : decode cX8_words 58 = .ok (.putfield 90, 3) := by decide +kernel
theorem dX8_words_61 : decode cX8_words 61 = .ok (.aload_n 0, 1) := by decide +kernel
theorem dX8_words_62 : decode cX8_words 62 = .ok (.iload 6, 2) := by decide +kernel
theorem dX8_words_64 : decode cX8_words 64 = .ok (.iload 4, 2) := by decide +kernel
theorem dX8_words_66 : decode cX8_words 66 = .ok (.iadd, 1) := by decide +kernel
theorem dX8_words_67 : decode cX8_words 67 = .ok (.invokevirtual 108, 3) := by decide +kernel
theorem dX8_words_70 : decode cX8_words 70 = .ok (.ifCond .ne 14, 3) := by decide +kernel
theorem dX8_words_73 : decode cX8_words 73 = .ok (.bipush (-100), 2) := by decide +kernel
theorem dX8_words_75 : decode cX8_words 75 = .ok (.aload_n 0, 1) := by decide +kernel
theorem dX8_words_76 : decode cX8_words 76 = .ok (.getfield 90, 3) := by decide +kernel
theorem dX8_words_79 : decode cX8_words 79 = .ok (.iload 6, 2) := by decide +kernel
theorem dX8_words_81 : decode cX8_words 81 = .ok (.isub, 1) := by decide +kernel
theorem dX8_words_82 : decode cX8_words 82 = .ok (.isub, 1) := by decide +kernel
theorem dX8_words_83 : decode cX8_words 83 = .ok (.ireturn, 1) := by decide +kernel
theorem dX8_words_84 : decode cX8_words 84 = .ok (.aload_n 0, 1) := by decide +kernel
theorem dX8_words_85 : decode cX8_words 85 = .ok (.aload_n 0, 1) := by decide +kernel
theorem dX8_words_86 : decode cX8_words 86 = .ok (.getfield 111, 3) := by decide +kernel
theorem dX8_words_89 : decode cX8_words 89 = .ok (.putfield 87, 3) := by decide +kernel
theorem dX8_words_92 : decode cX8_words 92 = .ok (.iconst 0, 1) := by decide +kernel
theorem dX8_words_93 : decode cX8_words 93 = .ok (.istore 7, 2) := by decide +kernel
theorem dX8_words_95 : decode cX8_words 95 = .ok (.iload 7, 2) := by decide +kernel
theorem dX8_words_97 : decode cX8_words 97 = .ok (.aload_n 0, 1) := by decide +kernel
theorem dX8_words_98 : decode cX8_words 98 = .ok (.getfield 87, 3) := by decide +kernel
theorem dX8_words_101 : decode cX8_words 101 = .ok (.if_icmp .ge 76, 3) := by decide +kernel
theorem dX8_words_104 : decode cX8_words 104 = .ok (.aload_n 0, 1) := by decide +kernel
theorem dX8_words_105 : decode cX8_words 105 = .ok (.getfield 19, 3) := by decide +kernel
theorem dX8_words_108 : decode cX8_words 108 = .ok (.iload 7, 2) := by decide +kernel
theorem dX8_words_110 : decode cX8_words 110 = .ok (.aload_n 0, 1) := by decide +kernel
theorem dX8_words_111 : decode cX8_words 111 = .ok (.getfield 31, 3) := by decide +kernel
theorem dX8_words_114 : decode cX8_words 114 = .ok (.iload 7, 2) := by decide +kernel
theorem dX8_words_116 : decode cX8_words 116 = .ok (.iaload, 1) := by decide +kernel
theorem dX8_words_117 : decode cX8_words 117 = .ok (.iastore, 1) := by decide +kernel
theorem dX8_words_118 : decode cX8_words 118 = .ok (.aload_n 0, 1) := by decide +kernel
theorem dX8_words_119 : decode cX8_words 119 = .ok (.getfield 22, 3) := by decide +kernel
theorem dX8_words_122 : decode cX8_words 122 = .ok (.iload 7, 2) := by decide +kernel
theorem dX8_words_124 : decode cX8_words 124 = .ok (.aload_n 0, 1) := by decide +kernel
theorem dX8_words_125 : decode cX8_words 125 = .ok (.getfield 34, 3) := by decide +kernel
theorem dX8_words_128 : decode cX8_words 128 = .ok (.iload 7, 2) := by decide +kernel
theorem dX8_words_130 : decode cX8_words 130 = .ok (.iaload, 1) := by decide +kernel
theorem dX8_words_131 : decode cX8_words 131 = .ok (.iastore, 1) := by decide +kernel
theorem dX8_words_132 : decode cX8_words 132 = .ok (.iconst 0, 1) := by decide +kernel
theorem dX8_words_133 : decode cX8_words 133 = .ok (.istore 8, 2) := by decide +kernel
theorem dX8_words_135 : decode cX8_words 135 = .ok (.iload 8, 2) := by decide +kernel
theorem dX8_words_137 : decode cX8_words 137 = .ok (.iconst 4, 1) := by decide +kernel
theorem dX8_words_138 : decode cX8_words 138 = .ok (.if_icmp .ge 33, 3) := by decide +kernel
theorem dX8_words_141 : decode cX8_words 141 = .ok (.aload_n 0, 1) := by decide +kernel
theorem dX8_words_142 : decode cX8_words 142 = .ok (.getfield 25, 3) := by decide +kernel
theorem dX8_words_145 : decode cX8_words 145 = .ok (.iconst 4, 1) := by decide +kernel
theorem dX8_words_146 : decode cX8_words 146 = .ok (.iload 7, 2) := by decide +kernel
theorem dX8_words_148 : decode cX8_words 148 = .ok (.imul, 1) := by decide +kernel
theorem dX8_words_149 : decode cX8_words 149 = .ok (.iload 8, 2) := by decide +kernel
theorem dX8_words_151 : decode cX8_words 151 = .ok (.iadd, 1) := by decide +kernel
theorem dX8_words_152 : decode cX8_words 152 = .ok (.aload_n 0, 1) := by decide +kernel
theorem dX8_words_153 : decode cX8_words 153 = .ok (.getfield 37, 3) := by decide +kernel
theorem dX8_words_156 : decode cX8_words 156 = .ok (.iconst 4, 1) := by decide +kernel
theorem dX8_words_157 : decode cX8_words 157 = .ok (.iload 7, 2) := by decide +kernel
theorem dX8_words_159 : decode cX8_words 159 = .ok (.imul, 1) := by decide +kernel
theorem dX8_words_160 : decode cX8_words 160 = .ok (.iload 8, 2) := by decide +kernel
theorem dX8_words_162 : decode cX8_words 162 = .ok (.iadd, 1) := by decide +kernel
theorem dX8_words_163 : decode cX8_words 163 = .ok (.iaload, 1) := by decide +kernel
theorem dX8_words_164 : decode cX8_words 164 = .ok (.iastore, 1) := by decide +kernel
theorem dX8_words_165 : decode cX8_words 165 = .ok (.iinc 8 1, 3) := by decide +kernel
theorem dX8_words_168 : decode cX8_words 168 = .ok (.goto (-33), 3) := by decide +kernel
theorem dX8_words_171 : decode cX8_words 171 = .ok (.iinc 7 1, 3) := by decide +kernel
theorem dX8_words_174 : decode cX8_words 174 = .ok (.goto (-79), 3) := by decide +kernel
theorem dX8_words_177 : decode cX8_words 177 = .ok (.aload_n 0, 1) := by decide +kernel
theorem dX8_words_178 : decode cX8_words 178 = .ok (.iconst 0, 1) := by decide +kernel
theorem dX8_words_179 : decode cX8_words 179 = .ok (.putfield 114, 3) := by decide +kernel
theorem dX8_words_182 : decode cX8_words 182 = .ok (.aload_n 0, 1) := by decide +kernel
theorem dX8_words_183 : decode cX8_words 183 = .ok (.iconst 0, 1) := by decide +kernel
theorem dX8_words_184 : decode cX8_words 184 = .ok (.putfield 117, 3) := by decide +kernel
theorem dX8_words_187 : decode cX8_words 187 = .ok (.aload_n 0, 1) := by decide +kernel
theorem dX8_words_188 : decode cX8_words 188 = .ok (.getfield 87, 3) := by decide +kernel
theorem dX8_words_191 : decode cX8_words 191 = .ok (.ireturn, 1) := by decide +kernel
theorem dX8_readAll_0 : decode cX8_readAll 0 = .ok (.aload_n 0, 1) := by decide +kernel
theorem dX8_readAll_1 : decode cX8_readAll 1 = .ok (.iconst 0, 1) := by decide +kernel
theorem dX8_readAll_2 : decode cX8_readAll 2 = .ok (.putfield 111, 3) := by decide +kernel
theorem dX8_readAll_5 : decode cX8_readAll 5 = .ok (.aload_n 0, 1) := by decide +kernel
theorem dX8_readAll_6 : decode cX8_readAll 6 = .ok (.iload_n 1, 1) := by decide +kernel
theorem dX8_readAll_7 : decode cX8_readAll 7 = .ok (.bipush 119, 2) := by decide +kernel
theorem dX8_readAll_9 : decode cX8_readAll 9 = .ok (.invokevirtual 120, 3) := by decide +kernel
theorem dX8_readAll_12 : decode cX8_readAll 12 = .ok (.ifCond .ne 5, 3) := by decide +kernel
theorem dX8_readAll_15 : decode cX8_readAll 15 = .ok (.iconst 0, 1) := by decide +kernel
theorem dX8_readAll_16 : decode cX8_readAll 16 = .ok (.ireturn, 1) := by decide +kernel
theorem dX8_readAll_17 : decode cX8_readAll 17 = .ok (.aload_n 0, 1) := by decide +kernel
theorem dX8_readAll_18 : decode cX8_readAll 18 = .ok (.getfield 111, 3) := by decide +kernel
theorem dX8_readAll_21 : decode cX8_readAll 21 = .ok (.ifCond .eq 19, 3) := by decide +kernel
theorem dX8_readAll_24 : decode cX8_readAll 24 = .ok (.aload_n 0, 1) := by decide +kernel
theorem dX8_readAll_25 : decode cX8_readAll 25 = .ok (.getfield 111, 3) := by decide +kernel
theorem dX8_readAll_28 : decode cX8_readAll 28 = .ok (.iconst 4, 1) := by decide +kernel
theorem dX8_readAll_29 : decode cX8_readAll 29 = .ok (.if_icmp .ge 48, 3) := by decide +kernel
theorem dX8_readAll_32 : decode cX8_readAll 32 = .ok (.aload_n 0, 1) := by decide +kernel
theorem dX8_readAll_33 : decode cX8_readAll 33 = .ok (.getfield 90, 3) := by decide +kernel
theorem dX8_readAll_36 : decode cX8_readAll 36 = .ok (.iload_n 1, 1) := by decide +kernel
theorem dX8_readAll_37 : decode cX8_readAll 37 = .ok (.if_icmp .ge 40, 3) := by decide +kernel
theorem dX8_readAll_40 : decode cX8_readAll 40 = .ok (.aload_n 0, 1) := by decide +kernel
theorem dX8_readAll_41 : decode cX8_readAll 41 = .ok (.iload_n 1, 1) := by decide +kernel
theorem dX8_readAll_42 : decode cX8_readAll 42 = .ok (.bipush 59, 2) := by decide +kernel
theorem dX8_readAll_44 : decode cX8_readAll 44 = .ok (.invokevirtual 120, 3) := by decide +kernel
theorem dX8_readAll_47 : decode cX8_readAll 47 = .ok (.ifCond .eq 15, 3) := by decide +kernel
theorem dX8_readAll_50 : decode cX8_readAll 50 = .ok (.aload_n 0, 1) := by decide +kernel
theorem dX8_readAll_51 : decode cX8_readAll 51 = .ok (.iload_n 1, 1) := by decide +kernel
theorem dX8_readAll_52 : decode cX8_readAll 52 = .ok (.aload_n 0, 1) := by decide +kernel
theorem dX8_readAll_53 : decode cX8_readAll 53 = .ok (.getfield 111, 3) := by decide +kernel
theorem dX8_readAll_56 : decode cX8_readAll 56 = .ok (.invokevirtual 124, 3) := by decide +kernel
theorem dX8_readAll_59 : decode cX8_readAll 59 = .ok (.ifCond .ne 5, 3) := by decide +kernel
theorem dX8_readAll_62 : decode cX8_readAll 62 = .ok (.iconst 0, 1) := by decide +kernel
theorem dX8_readAll_63 : decode cX8_readAll 63 = .ok (.ireturn, 1) := by decide +kernel
theorem dX8_readAll_64 : decode cX8_readAll 64 = .ok (.aload_n 0, 1) := by decide +kernel
theorem dX8_readAll_65 : decode cX8_readAll 65 = .ok (.dup, 1) := by decide +kernel
theorem dX8_readAll_66 : decode cX8_readAll 66 = .ok (.getfield 111, 3) := by decide +kernel
theorem dX8_readAll_69 : decode cX8_readAll 69 = .ok (.iconst 1, 1) := by decide +kernel
theorem dX8_readAll_70 : decode cX8_readAll 70 = .ok (.iadd, 1) := by decide +kernel
theorem dX8_readAll_71 : decode cX8_readAll 71 = .ok (.putfield 111, 3) := by decide +kernel
theorem dX8_readAll_74 : decode cX8_readAll 74 = .ok (.goto (-57), 3) := by decide +kernel
theorem dX8_readAll_77 : decode cX8_readAll 77 = .ok (.aload_n 0, 1) := by decide +kernel
theorem dX8_readAll_78 : decode cX8_readAll 78 = .ok (.getfield 90, 3) := by decide +kernel
theorem dX8_readAll_81 : decode cX8_readAll 81 = .ok (.iload_n 1, 1) := by decide +kernel
theorem dX8_readAll_82 : decode cX8_readAll 82 = .ok (.if_icmp .ne 7, 3) := by decide +kernel
theorem dX8_readAll_85 : decode cX8_readAll 85 = .ok (.iconst 1, 1) := by decide +kernel
theorem dX8_readAll_86 : decode cX8_readAll 86 = .ok (.goto 4, 3) := by decide +kernel
theorem dX8_readAll_89 : decode cX8_readAll 89 = .ok (.iconst 0, 1) := by decide +kernel
theorem dX8_readAll_90 : decode cX8_readAll 90 = .ok (.ireturn, 1) := by decide +kernel
theorem dX8_readWord_0 : decode cX8_readWord 0 = .ok (.aload_n 0, 1) := by decide +kernel
theorem dX8_readWord_1 : decode cX8_readWord 1 = .ok (.getfield 90, 3) := by decide +kernel
theorem dX8_readWord_4 : decode cX8_readWord 4 = .ok (.iload_n 1, 1) := by decide +kernel
theorem dX8_readWord_5 : decode cX8_readWord 5 = .ok (.if_icmp .ge 15, 3) := by decide +kernel
theorem dX8_readWord_8 : decode cX8_readWord 8 = .ok (.aload_n 0, 1) := by decide +kernel
theorem dX8_readWord_9 : decode cX8_readWord 9 = .ok (.getfield 16, 3) := by decide +kernel
theorem dX8_readWord_12 : decode cX8_readWord 12 = .ok (.aload_n 0, 1) := by decide +kernel
theorem dX8_readWord_13 : decode cX8_readWord 13 = .ok (.getfield 90, 3) := by decide +kernel
theorem dX8_readWord_16 : decode cX8_readWord 16 = .ok (.iaload, 1) := by decide +kernel
theorem dX8_readWord_17 : decode cX8_readWord 17 = .ok (.goto 4, 3) := by decide +kernel
theorem dX8_readWord_20 : decode cX8_readWord 20 = .ok (.iconst 0, 1) := by decide +kernel
theorem dX8_readWord_21 : decode cX8_readWord 21 = .ok (.istore_n 3, 1) := by decide +kernel
theorem dX8_readWord_22 : decode cX8_readWord 22 = .ok (.aload_n 0, 1) := by decide +kernel
theorem dX8_readWord_23 : decode cX8_readWord 23 = .ok (.getfield 31, 3) := by decide +kernel
theorem dX8_readWord_26 : decode cX8_readWord 26 = .ok (.iload_n 2, 1) := by decide +kernel
theorem dX8_readWord_27 : decode cX8_readWord 27 = .ok (.iload_n 3, 1) := by decide +kernel
theorem dX8_readWord_28 : decode cX8_readWord 28 = .ok (.bipush 112, 2) := by decide +kernel
theorem dX8_readWord_30 : decode cX8_readWord 30 = .ok (.if_icmp .ne 7, 3) := by decide +kernel
theorem dX8_readWord_33 : decode cX8_readWord 33 = .ok (.iconst 0, 1) := by decide +kernel
theorem dX8_readWord_34 : decode cX8_readWord 34 = .ok (.goto 25, 3) := by decide +kernel
theorem dX8_readWord_37 : decode cX8_readWord 37 = .ok (.iload_n 3, 1) := by decide +kernel
theorem dX8_readWord_38 : decode cX8_readWord 38 = .ok (.bipush 98, 2) := by decide +kernel
theorem dX8_readWord_40 : decode cX8_readWord 40 = .ok (.if_icmp .ne 7, 3) := by decide +kernel
theorem dX8_readWord_43 : decode cX8_readWord 43 = .ok (.iconst 1, 1) := by decide +kernel
theorem dX8_readWord_44 : decode cX8_readWord 44 = .ok (.goto 15, 3) := by decide +kernel
theorem dX8_readWord_47 : decode cX8_readWord 47 = .ok (.iload_n 3, 1) := by decide +kernel
theorem dX8_readWord_48 : decode cX8_readWord 48 = .ok (.bipush 116, 2) := by decide +kernel
theorem dX8_readWord_50 : decode cX8_readWord 50 = .ok (.if_icmp .ne 7, 3) := by decide +kernel
theorem dX8_readWord_53 : decode cX8_readWord 53 = .ok (.iconst 2, 1) := by decide +kernel
theorem dX8_readWord_54 : decode cX8_readWord 54 = .ok (.goto 5, 3) := by decide +kernel
theorem dX8_readWord_57 : decode cX8_readWord 57 = .ok (.bipush (-9), 2) := by decide +kernel
theorem dX8_readWord_59 : decode cX8_readWord 59 = .ok (.iastore, 1) := by decide +kernel
theorem dX8_readWord_60 : decode cX8_readWord 60 = .ok (.aload_n 0, 1) := by decide +kernel
theorem dX8_readWord_61 : decode cX8_readWord 61 = .ok (.getfield 31, 3) := by decide +kernel
theorem dX8_readWord_64 : decode cX8_readWord 64 = .ok (.iload_n 2, 1) := by decide +kernel
theorem dX8_readWord_65 : decode cX8_readWord 65 = .ok (.iaload, 1) := by decide +kernel
theorem dX8_readWord_66 : decode cX8_readWord 66 = .ok (.bipush (-9), 2) := by decide +kernel
theorem dX8_readWord_68 : decode cX8_readWord 68 = .ok (.if_icmp .ne 5, 3) := by decide +kernel
theorem dX8_readWord_71 : decode cX8_readWord 71 = .ok (.iconst 0, 1) := by decide +kernel
theorem dX8_readWord_72 : decode cX8_readWord 72 = .ok (.ireturn, 1) := by decide +kernel
theorem dX8_readWord_73 : decode cX8_readWord 73 = .ok (.aload_n 0, 1) := by decide +kernel
theorem dX8_readWord_74 : decode cX8_readWord 74 = .ok (.dup, 1) := by decide +kernel
theorem dX8_readWord_75 : decode cX8_readWord 75 = .ok (.getfield 90, 3) := by decide +kernel
theorem dX8_readWord_78 : decode cX8_readWord 78 = .ok (.iconst 1, 1) := by decide +kernel
theorem dX8_readWord_79 : decode cX8_readWord 79 = .ok (.iadd, 1) := by decide +kernel
theorem dX8_readWord_80 : decode cX8_readWord 80 = .ok (.putfield 90, 3) := by decide +kernel
theorem dX8_readWord_83 : decode cX8_readWord 83 = .ok (.aload_n 0, 1) := by decide +kernel
theorem dX8_readWord_84 : decode cX8_readWord 84 = .ok (.iload_n 1, 1) := by decide +kernel
theorem dX8_readWord_85 : decode cX8_readWord 85 = .ok (.bipush 47, 2) := by decide +kernel
theorem dX8_readWord_87 : decode cX8_readWord 87 = .ok (.invokevirtual 120, 3) := by decide +kernel
theorem dX8_readWord_90 : decode cX8_readWord 90 = .ok (.ifCond .ne 5, 3) := by decide +kernel
theorem dX8_readWord_93 : decode cX8_readWord 93 = .ok (.iconst 0, 1) := by decide +kernel
theorem dX8_readWord_94 : decode cX8_readWord 94 = .ok (.ireturn, 1) := by decide +kernel
theorem dX8_readWord_95 : decode cX8_readWord 95 = .ok (.aload_n 0, 1) := by decide +kernel
theorem dX8_readWord_96 : decode cX8_readWord 96 = .ok (.getfield 34, 3) := by decide +kernel
theorem dX8_readWord_99 : decode cX8_readWord 99 = .ok (.iload_n 2, 1) := by decide +kernel
theorem dX8_readWord_100 : decode cX8_readWord 100 = .ok (.iconst 0, 1) := by decide +kernel
theorem dX8_readWord_101 : decode cX8_readWord 101 = .ok (.iastore, 1) := by decide +kernel
theorem dX8_readWord_102 : decode cX8_readWord 102 = .ok (.aload_n 0, 1) := by decide +kernel
theorem dX8_readWord_103 : decode cX8_readWord 103 = .ok (.getfield 34, 3) := by decide +kernel
theorem dX8_readWord_106 : decode cX8_readWord 106 = .ok (.iload_n 2, 1) := by decide +kernel
theorem dX8_readWord_107 : decode cX8_readWord 107 = .ok (.iaload, 1) := by decide +kernel
theorem dX8_readWord_108 : decode cX8_readWord 108 = .ok (.iconst 4, 1) := by decide +kernel
theorem dX8_readWord_109 : decode cX8_readWord 109 = .ok (.if_icmp .ge 80, 3) := by decide +kernel
theorem dX8_readWord_112 : decode cX8_readWord 112 = .ok (.aload_n 0, 1) := by decide +kernel
theorem dX8_readWord_113 : decode cX8_readWord 113 = .ok (.getfield 90, 3) := by decide +kernel
theorem dX8_readWord_116 : decode cX8_readWord 116 = .ok (.iload_n 1, 1) := by decide +kernel
theorem dX8_readWord_117 : decode cX8_readWord 117 = .ok (.if_icmp .ge 72, 3) := by decide +kernel
theorem dX8_readWord_120 : decode cX8_readWord 120 = .ok (.aload_n 0, 1) := by decide +kernel
theorem dX8_readWord_121 : decode cX8_readWord 121 = .ok (.getfield 16, 3) := by decide +kernel
theorem dX8_readWord_124 : decode cX8_readWord 124 = .ok (.aload_n 0, 1) := by decide +kernel
theorem dX8_readWord_125 : decode cX8_readWord 125 = .ok (.getfield 90, 3) := by decide +kernel
theorem dX8_readWord_128 : decode cX8_readWord 128 = .ok (.iaload, 1) := by decide +kernel
theorem dX8_readWord_129 : decode cX8_readWord 129 = .ok (.bipush 97, 2) := by decide +kernel
theorem dX8_readWord_131 : decode cX8_readWord 131 = .ok (.bipush 99, 2) := by decide +kernel
theorem dX8_readWord_133 : decode cX8_readWord 133 = .ok (.invokestatic 83, 3) := by decide +kernel
theorem dX8_readWord_136 : decode cX8_readWord 136 = .ok (.ifCond .eq 53, 3) := by decide +kernel
theorem dX8_readWord_139 : decode cX8_readWord 139 = .ok (.aload_n 0, 1) := by decide +kernel
theorem dX8_readWord_140 : decode cX8_readWord 140 = .ok (.getfield 37, 3) := by decide +kernel
theorem dX8_readWord_143 : decode cX8_readWord 143 = .ok (.iconst 4, 1) := by decide +kernel
theorem dX8_readWord_144 : decode cX8_readWord 144 = .ok (.iload_n 2, 1) := by decide +kernel
theorem dX8_readWord_145 : decode cX8_readWord 145 = .ok (.imul, 1) := by decide +kernel
theorem dX8_readWord_146 : decode cX8_readWord 146 = .ok (.aload_n 0, 1) := by decide +kernel
theorem dX8_readWord_147 : decode cX8_readWord 147 = .ok (.getfield 34, 3) := by decide +kernel
theorem dX8_readWord_150 : decode cX8_readWord 150 = .ok (.iload_n 2, 1) := by decide +kernel
theorem dX8_readWord_151 : decode cX8_readWord 151 = .ok (.iaload, 1) := by decide +kernel
theorem dX8_readWord_152 : decode cX8_readWord 152 = .ok (.iadd, 1) := by decide +kernel
theorem dX8_readWord_153 : decode cX8_readWord 153 = .ok (.aload_n 0, 1) := by decide +kernel
theorem dX8_readWord_154 : decode cX8_readWord 154 = .ok (.getfield 16, 3) := by decide +kernel
theorem dX8_readWord_157 : decode cX8_readWord 157 = .ok (.aload_n 0, 1) := by decide +kernel
theorem dX8_readWord_158 : decode cX8_readWord 158 = .ok (.getfield 90, 3) := by decide +kernel
theorem dX8_readWord_161 : decode cX8_readWord 161 = .ok (.iaload, 1) := by decide +kernel
theorem dX8_readWord_162 : decode cX8_readWord 162 = .ok (.bipush 97, 2) := by decide +kernel
theorem dX8_readWord_164 : decode cX8_readWord 164 = .ok (.isub, 1) := by decide +kernel
theorem dX8_readWord_165 : decode cX8_readWord 165 = .ok (.iastore, 1) := by decide +kernel
theorem dX8_readWord_166 : decode cX8_readWord 166 = .ok (.aload_n 0, 1) := by decide +kernel
theorem dX8_readWord_167 : decode cX8_readWord 167 = .ok (.getfield 34, 3) := by decide +kernel
theorem dX8_readWord_170 : decode cX8_readWord 170 = .ok (.iload_n 2, 1) := by decide +kernel
theorem dX8_readWord_171 : decode cX8_readWord 171 = .ok (.dup2, 1) := by decide +kernel
theorem dX8_readWord_172 : decode cX8_readWord 172 = .ok (.iaload, 1) := by decide +kernel
theorem dX8_readWord_173 : decode cX8_readWord 173 = .ok (.iconst 1, 1) := by decide +kernel
theorem dX8_readWord_174 : decode cX8_readWord 174 = .ok (.iadd, 1) := by decide +kernel
theorem dX8_readWord_175 : decode cX8_readWord 175 = .ok (.iastore, 1) := by decide +kernel
theorem dX8_readWord_176 : decode cX8_readWord 176 = .ok (.aload_n 0, 1) := by decide +kernel
theorem dX8_readWord_177 : decode cX8_readWord 177 = .ok (.dup, 1) := by decide +kernel
theorem dX8_readWord_178 : decode cX8_readWord 178 = .ok (.getfield 90, 3) := by decide +kernel
theorem dX8_readWord_181 : decode cX8_readWord 181 = .ok (.iconst 1, 1) := by decide +kernel
theorem dX8_readWord_182 : decode cX8_readWord 182 = .ok (.iadd, 1) := by decide +kernel
theorem dX8_readWord_183 : decode cX8_readWord 183 = .ok (.putfield 90, 3) := by decide +kernel
theorem dX8_readWord_186 : decode cX8_readWord 186 = .ok (.goto (-84), 3) := by decide +kernel
theorem dX8_readWord_189 : decode cX8_readWord 189 = .ok (.aload_n 0, 1) := by decide +kernel
theorem dX8_readWord_190 : decode cX8_readWord 190 = .ok (.getfield 34, 3) := by decide +kernel
theorem dX8_readWord_193 : decode cX8_readWord 193 = .ok (.iload_n 2, 1) := by decide +kernel
theorem dX8_readWord_194 : decode cX8_readWord 194 = .ok (.iaload, 1) := by decide +kernel
theorem dX8_readWord_195 : decode cX8_readWord 195 = .ok (.ifCond .le 7, 3) := by decide +kernel
theorem dX8_readWord_198 : decode cX8_readWord 198 = .ok (.iconst 1, 1) := by decide +kernel
theorem dX8_readWord_199 : decode cX8_readWord 199 = .ok (.goto 4, 3) := by decide +kernel
theorem dX8_readWord_202 : decode cX8_readWord 202 = .ok (.iconst 0, 1) := by decide +kernel
theorem dX8_readWord_203 : decode cX8_readWord 203 = .ok (.ireturn, 1) := by decide +kernel
theorem dX8_letterOf_0 : decode cX8_letterOf 0 = .ok (.aload_n 0, 1) := by decide +kernel
theorem dX8_letterOf_1 : decode cX8_letterOf 1 = .ok (.getfield 22, 3) := by decide +kernel
theorem dX8_letterOf_4 : decode cX8_letterOf 4 = .ok (.iload_n 1, 1) := by decide +kernel
theorem dX8_letterOf_5 : decode cX8_letterOf 5 = .ok (.iaload, 1) := by decide +kernel
theorem dX8_letterOf_6 : decode cX8_letterOf 6 = .ok (.istore 4, 2) := by decide +kernel
theorem dX8_letterOf_8 : decode cX8_letterOf 8 = .ok (.iload_n 2, 1) := by decide +kernel
theorem dX8_letterOf_9 : decode cX8_letterOf 9 = .ok (.ifCond .eq 12, 3) := by decide +kernel
theorem dX8_letterOf_12 : decode cX8_letterOf 12 = .ok (.aload_n 0, 1) := by decide +kernel
theorem dX8_letterOf_13 : decode cX8_letterOf 13 = .ok (.getfield 19, 3) := by decide +kernel
theorem dX8_letterOf_16 : decode cX8_letterOf 16 = .ok (.iload_n 1, 1) := by decide +kernel
theorem dX8_letterOf_17 : decode cX8_letterOf 17 = .ok (.iaload, 1) := by decide +kernel
theorem dX8_letterOf_18 : decode cX8_letterOf 18 = .ok (.ifCond .ne 7, 3) := by decide +kernel
theorem dX8_letterOf_21 : decode cX8_letterOf 21 = .ok (.iload_n 3, 1) := by decide +kernel
theorem dX8_letterOf_22 : decode cX8_letterOf 22 = .ok (.goto 28, 3) := by decide +kernel
theorem dX8_letterOf_25 : decode cX8_letterOf 25 = .ok (.aload_n 0, 1) := by decide +kernel
theorem dX8_letterOf_26 : decode cX8_letterOf 26 = .ok (.getfield 19, 3) := by decide +kernel
theorem dX8_letterOf_29 : decode cX8_letterOf 29 = .ok (.iload_n 1, 1) := by decide +kernel
theorem dX8_letterOf_30 : decode cX8_letterOf 30 = .ok (.iaload, 1) := by decide +kernel
theorem dX8_letterOf_31 : decode cX8_letterOf 31 = .ok (.iconst 1, 1) := by decide +kernel
theorem dX8_letterOf_32 : decode cX8_letterOf 32 = .ok (.if_icmp .ne 12, 3) := by decide +kernel
theorem dX8_letterOf_35 : decode cX8_letterOf 35 = .ok (.iload 4, 2) := by decide +kernel
theorem dX8_letterOf_37 : decode cX8_letterOf 37 = .ok (.iconst 1, 1) := by decide +kernel
theorem dX8_letterOf_38 : decode cX8_letterOf 38 = .ok (.isub, 1) := by decide +kernel
theorem dX8_letterOf_39 : decode cX8_letterOf 39 = .ok (.iload_n 3, 1) := by decide +kernel
theorem dX8_letterOf_40 : decode cX8_letterOf 40 = .ok (.isub, 1) := by decide +kernel
theorem dX8_letterOf_41 : decode cX8_letterOf 41 = .ok (.goto 9, 3) := by decide +kernel
theorem dX8_letterOf_44 : decode cX8_letterOf 44 = .ok (.iload_n 3, 1) := by decide +kernel
theorem dX8_letterOf_45 : decode cX8_letterOf 45 = .ok (.iconst 1, 1) := by decide +kernel
theorem dX8_letterOf_46 : decode cX8_letterOf 46 = .ok (.iadd, 1) := by decide +kernel
theorem dX8_letterOf_47 : decode cX8_letterOf 47 = .ok (.iload 4, 2) := by decide +kernel
theorem dX8_letterOf_49 : decode cX8_letterOf 49 = .ok (.irem, 1) := by decide +kernel
theorem dX8_letterOf_50 : decode cX8_letterOf 50 = .ok (.istore 5, 2) := by decide +kernel
theorem dX8_letterOf_52 : decode cX8_letterOf 52 = .ok (.aload_n 0, 1) := by decide +kernel
theorem dX8_letterOf_53 : decode cX8_letterOf 53 = .ok (.getfield 25, 3) := by decide +kernel
theorem dX8_letterOf_56 : decode cX8_letterOf 56 = .ok (.iconst 4, 1) := by decide +kernel
theorem dX8_letterOf_57 : decode cX8_letterOf 57 = .ok (.iload_n 1, 1) := by decide +kernel
theorem dX8_letterOf_58 : decode cX8_letterOf 58 = .ok (.imul, 1) := by decide +kernel
theorem dX8_letterOf_59 : decode cX8_letterOf 59 = .ok (.iload 5, 2) := by decide +kernel
theorem dX8_letterOf_61 : decode cX8_letterOf 61 = .ok (.iadd, 1) := by decide +kernel
theorem dX8_letterOf_62 : decode cX8_letterOf 62 = .ok (.iaload, 1) := by decide +kernel
theorem dX8_letterOf_63 : decode cX8_letterOf 63 = .ok (.ireturn, 1) := by decide +kernel
theorem dX8_areForms_0 : decode cX8_areForms 0 = .ok (.iconst 0, 1) := by decide +kernel
theorem dX8_areForms_1 : decode cX8_areForms 1 = .ok (.istore_n 2, 1) := by decide +kernel
theorem dX8_areForms_2 : decode cX8_areForms 2 = .ok (.iload_n 2, 1) := by decide +kernel
theorem dX8_areForms_3 : decode cX8_areForms 3 = .ok (.aload_n 0, 1) := by decide +kernel
theorem dX8_areForms_4 : decode cX8_areForms 4 = .ok (.getfield 22, 3) := by decide +kernel
theorem dX8_areForms_7 : decode cX8_areForms 7 = .ok (.iload_n 1, 1) := by decide +kernel
theorem dX8_areForms_8 : decode cX8_areForms 8 = .ok (.iaload, 1) := by decide +kernel
theorem dX8_areForms_9 : decode cX8_areForms 9 = .ok (.if_icmp .ge 28, 3) := by decide +kernel
theorem dX8_areForms_12 : decode cX8_areForms 12 = .ok (.aload_n 0, 1) := by decide +kernel
theorem dX8_areForms_13 : decode cX8_areForms 13 = .ok (.iload_n 1, 1) := by decide +kernel
theorem dX8_areForms_14 : decode cX8_areForms 14 = .ok (.iconst 0, 1) := by decide +kernel
theorem dX8_areForms_15 : decode cX8_areForms 15 = .ok (.iload_n 2, 1) := by decide +kernel
theorem dX8_areForms_16 : decode cX8_areForms 16 = .ok (.invokevirtual 126, 3) := by decide +kernel
theorem dX8_areForms_19 : decode cX8_areForms 19 = .ok (.aload_n 0, 1) := by decide +kernel
theorem dX8_areForms_20 : decode cX8_areForms 20 = .ok (.iload_n 1, 1) := by decide +kernel
theorem dX8_areForms_21 : decode cX8_areForms 21 = .ok (.iconst 1, 1) := by decide +kernel
theorem dX8_areForms_22 : decode cX8_areForms 22 = .ok (.iload_n 2, 1) := by decide +kernel
theorem dX8_areForms_23 : decode cX8_areForms 23 = .ok (.invokevirtual 126, 3) := by decide +kernel
theorem dX8_areForms_26 : decode cX8_areForms 26 = .ok (.if_icmp .eq 5, 3) := by decide +kernel
theorem dX8_areForms_29 : decode cX8_areForms 29 = .ok (.iconst 1, 1) := by decide +kernel
theorem dX8_areForms_30 : decode cX8_areForms 30 = .ok (.ireturn, 1) := by decide +kernel
theorem dX8_areForms_31 : decode cX8_areForms 31 = .ok (.iinc 2 1, 3) := by decide +kernel
theorem dX8_areForms_34 : decode cX8_areForms 34 = .ok (.goto (-32), 3) := by decide +kernel
theorem dX8_areForms_37 : decode cX8_areForms 37 = .ok (.iconst 0, 1) := by decide +kernel
theorem dX8_areForms_38 : decode cX8_areForms 38 = .ok (.ireturn, 1) := by decide +kernel
theorem dX8_isHeard_0 : decode cX8_isHeard 0 = .ok (.iload_n 2, 1) := by decide +kernel
theorem dX8_isHeard_1 : decode cX8_isHeard 1 = .ok (.aload_n 0, 1) := by decide +kernel
theorem dX8_isHeard_2 : decode cX8_isHeard 2 = .ok (.getfield 22, 3) := by decide +kernel
theorem dX8_isHeard_5 : decode cX8_isHeard 5 = .ok (.iload_n 1, 1) := by decide +kernel
theorem dX8_isHeard_6 : decode cX8_isHeard 6 = .ok (.iaload, 1) := by decide +kernel
theorem dX8_isHeard_7 : decode cX8_isHeard 7 = .ok (.if_icmp .ge 5, 3) := by decide +kernel
theorem dX8_isHeard_10 : decode cX8_isHeard 10 = .ok (.iconst 0, 1) := by decide +kernel
theorem dX8_isHeard_11 : decode cX8_isHeard 11 = .ok (.ireturn, 1) := by decide +kernel
theorem dX8_isHeard_12 : decode cX8_isHeard 12 = .ok (.iconst 0, 1) := by decide +kernel
theorem dX8_isHeard_13 : decode cX8_isHeard 13 = .ok (.istore_n 3, 1) := by decide +kernel
theorem dX8_isHeard_14 : decode cX8_isHeard 14 = .ok (.iload_n 3, 1) := by decide +kernel
theorem dX8_isHeard_15 : decode cX8_isHeard 15 = .ok (.iconst 2, 1) := by decide +kernel
theorem dX8_isHeard_16 : decode cX8_isHeard 16 = .ok (.if_icmp .ge 78, 3) := by decide +kernel
theorem dX8_isHeard_19 : decode cX8_isHeard 19 = .ok (.iconst 1, 1) := by decide +kernel
theorem dX8_isHeard_20 : decode cX8_isHeard 20 = .ok (.istore 4, 2) := by decide +kernel
theorem dX8_isHeard_22 : decode cX8_isHeard 22 = .ok (.iconst 0, 1) := by decide +kernel
theorem dX8_isHeard_23 : decode cX8_isHeard 23 = .ok (.istore 5, 2) := by decide +kernel
theorem dX8_isHeard_25 : decode cX8_isHeard 25 = .ok (.iload 5, 2) := by decide +kernel
theorem dX8_isHeard_27 : decode cX8_isHeard 27 = .ok (.aload_n 0, 1) := by decide +kernel
theorem dX8_isHeard_28 : decode cX8_isHeard 28 = .ok (.getfield 22, 3) := by decide +kernel
theorem dX8_isHeard_31 : decode cX8_isHeard 31 = .ok (.iload_n 1, 1) := by decide +kernel
theorem dX8_isHeard_32 : decode cX8_isHeard 32 = .ok (.iaload, 1) := by decide +kernel
theorem dX8_isHeard_33 : decode cX8_isHeard 33 = .ok (.if_icmp .ge 48, 3) := by decide +kernel
theorem dX8_isHeard_36 : decode cX8_isHeard 36 = .ok (.iload 4, 2) := by decide +kernel
theorem dX8_isHeard_38 : decode cX8_isHeard 38 = .ok (.ifCond .eq 43, 3) := by decide +kernel
theorem dX8_isHeard_41 : decode cX8_isHeard 41 = .ok (.aload_n 0, 1) := by decide +kernel
theorem dX8_isHeard_42 : decode cX8_isHeard 42 = .ok (.getfield 40, 3) := by decide +kernel
theorem dX8_isHeard_45 : decode cX8_isHeard 45 = .ok (.iload_n 2, 1) := by decide +kernel
theorem dX8_isHeard_46 : decode cX8_isHeard 46 = .ok (.aload_n 0, 1) := by decide +kernel
theorem dX8_isHeard_47 : decode cX8_isHeard 47 = .ok (.getfield 22, 3) := by decide +kernel
theorem dX8_isHeard_50 : decode cX8_isHeard 50 = .ok (.iload_n 1, 1) := by decide +kernel
theorem dX8_isHeard_51 : decode cX8_isHeard 51 = .ok (.iaload, 1) := by decide +kernel
theorem dX8_isHeard_52 : decode cX8_isHeard 52 = .ok (.isub, 1) := by decide +kernel
theorem dX8_isHeard_53 : decode cX8_isHeard 53 = .ok (.iload 5, 2) := by decide +kernel
theorem dX8_isHeard_55 : decode cX8_isHeard 55 = .ok (.iadd, 1) := by decide +kernel
theorem dX8_isHeard_56 : decode cX8_isHeard 56 = .ok (.iaload, 1) := by decide +kernel
theorem dX8_isHeard_57 : decode cX8_isHeard 57 = .ok (.aload_n 0, 1) := by decide +kernel
theorem dX8_isHeard_58 : decode cX8_isHeard 58 = .ok (.iload_n 1, 1) := by decide +kernel
theorem dX8_isHeard_59 : decode cX8_isHeard 59 = .ok (.iload_n 3, 1) := by decide +kernel
theorem dX8_isHeard_60 : decode cX8_isHeard 60 = .ok (.iload 5, 2) := by decide +kernel
theorem dX8_isHeard_62 : decode cX8_isHeard 62 = .ok (.invokevirtual 126, 3) := by decide +kernel
theorem dX8_isHeard_65 : decode cX8_isHeard 65 = .ok (.if_icmp .ne 7, 3) := by decide +kernel
theorem dX8_isHeard_68 : decode cX8_isHeard 68 = .ok (.iconst 1, 1) := by decide +kernel
theorem dX8_isHeard_69 : decode cX8_isHeard 69 = .ok (.goto 4, 3) := by decide +kernel
theorem dX8_isHeard_72 : decode cX8_isHeard 72 = .ok (.iconst 0, 1) := by decide +kernel
theorem dX8_isHeard_73 : decode cX8_isHeard 73 = .ok (.istore 4, 2) := by decide +kernel
theorem dX8_isHeard_75 : decode cX8_isHeard 75 = .ok (.iinc 5 1, 3) := by decide +kernel
theorem dX8_isHeard_78 : decode cX8_isHeard 78 = .ok (.goto (-53), 3) := by decide +kernel
theorem dX8_isHeard_81 : decode cX8_isHeard 81 = .ok (.iload 4, 2) := by decide +kernel
theorem dX8_isHeard_83 : decode cX8_isHeard 83 = .ok (.ifCond .eq 5, 3) := by decide +kernel
theorem dX8_isHeard_86 : decode cX8_isHeard 86 = .ok (.iconst 1, 1) := by decide +kernel
theorem dX8_isHeard_87 : decode cX8_isHeard 87 = .ok (.ireturn, 1) := by decide +kernel
theorem dX8_isHeard_88 : decode cX8_isHeard 88 = .ok (.iinc 3 1, 3) := by decide +kernel
theorem dX8_isHeard_91 : decode cX8_isHeard 91 = .ok (.goto (-77), 3) := by decide +kernel
theorem dX8_isHeard_94 : decode cX8_isHeard 94 = .ok (.iconst 0, 1) := by decide +kernel
theorem dX8_isHeard_95 : decode cX8_isHeard 95 = .ok (.ireturn, 1) := by decide +kernel
theorem dX8_heardBehind_0 : decode cX8_heardBehind 0 = .ok (.iconst 0, 1) := by decide +kernel
theorem dX8_heardBehind_1 : decode cX8_heardBehind 1 = .ok (.istore_n 2, 1) := by decide +kernel
theorem dX8_heardBehind_2 : decode cX8_heardBehind 2 = .ok (.iconst 0, 1) := by decide +kernel
theorem dX8_heardBehind_3 : decode cX8_heardBehind 3 = .ok (.istore_n 3, 1) := by decide +kernel
theorem dX8_heardBehind_4 : decode cX8_heardBehind 4 = .ok (.iload_n 3, 1) := by decide +kernel
theorem dX8_heardBehind_5 : decode cX8_heardBehind 5 = .ok (.aload_n 0, 1) := by decide +kernel
theorem dX8_heardBehind_6 : decode cX8_heardBehind 6 = .ok (.getfield 87, 3) := by decide +kernel
theorem dX8_heardBehind_9 : decode cX8_heardBehind 9 = .ok (.if_icmp .ge 28, 3) := by decide +kernel
theorem dX8_heardBehind_12 : decode cX8_heardBehind 12 = .ok (.iload_n 2, 1) := by decide +kernel
theorem dX8_heardBehind_13 : decode cX8_heardBehind 13 = .ok (.aload_n 0, 1) := by decide +kernel
theorem dX8_heardBehind_14 : decode cX8_heardBehind 14 = .ok (.iload_n 3, 1) := by decide +kernel
theorem dX8_heardBehind_15 : decode cX8_heardBehind 15 = .ok (.iload_n 1, 1) := by decide +kernel
theorem dX8_heardBehind_16 : decode cX8_heardBehind 16 = .ok (.invokevirtual 130, 3) := by decide +kernel
theorem dX8_heardBehind_19 : decode cX8_heardBehind 19 = .ok (.ifCond .eq 9, 3) := by decide +kernel
theorem dX8_heardBehind_22 : decode cX8_heardBehind 22 = .ok (.iconst 1, 1) := by decide +kernel
theorem dX8_heardBehind_23 : decode cX8_heardBehind 23 = .ok (.iload_n 3, 1) := by decide +kernel
theorem dX8_heardBehind_24 : decode cX8_heardBehind 24 = .ok (.ishl, 1) := by decide +kernel
theorem dX8_heardBehind_25 : decode cX8_heardBehind 25 = .ok (.goto 4, 3) := by decide +kernel
theorem dX8_heardBehind_28 : decode cX8_heardBehind 28 = .ok (.iconst 0, 1) := by decide +kernel
theorem dX8_heardBehind_29 : decode cX8_heardBehind 29 = .ok (.ior, 1) := by decide +kernel
theorem dX8_heardBehind_30 : decode cX8_heardBehind 30 = .ok (.istore_n 2, 1) := by decide +kernel
theorem dX8_heardBehind_31 : decode cX8_heardBehind 31 = .ok (.iinc 3 1, 3) := by decide +kernel
theorem dX8_heardBehind_34 : decode cX8_heardBehind 34 = .ok (.goto (-30), 3) := by decide +kernel
theorem dX8_heardBehind_37 : decode cX8_heardBehind 37 = .ok (.iload_n 2, 1) := by decide +kernel
theorem dX8_heardBehind_38 : decode cX8_heardBehind 38 = .ok (.ireturn, 1) := by decide +kernel
theorem dX8_timesHeard_0 : decode cX8_timesHeard 0 = .ok (.iconst 0, 1) := by decide +kernel
theorem dX8_timesHeard_1 : decode cX8_timesHeard 1 = .ok (.istore_n 2, 1) := by decide +kernel
theorem dX8_timesHeard_2 : decode cX8_timesHeard 2 = .ok (.iconst 1, 1) := by decide +kernel
theorem dX8_timesHeard_3 : decode cX8_timesHeard 3 = .ok (.istore_n 3, 1) := by decide +kernel
theorem dX8_timesHeard_4 : decode cX8_timesHeard 4 = .ok (.iload_n 3, 1) := by decide +kernel
theorem dX8_timesHeard_5 : decode cX8_timesHeard 5 = .ok (.aload_n 0, 1) := by decide +kernel
theorem dX8_timesHeard_6 : decode cX8_timesHeard 6 = .ok (.getfield 133, 3) := by decide +kernel
theorem dX8_timesHeard_9 : decode cX8_timesHeard 9 = .ok (.if_icmp .gt 26, 3) := by decide +kernel
theorem dX8_timesHeard_12 : decode cX8_timesHeard 12 = .ok (.iload_n 2, 1) := by decide +kernel
theorem dX8_timesHeard_13 : decode cX8_timesHeard 13 = .ok (.aload_n 0, 1) := by decide +kernel
theorem dX8_timesHeard_14 : decode cX8_timesHeard 14 = .ok (.iload_n 1, 1) := by decide +kernel
theorem dX8_timesHeard_15 : decode cX8_timesHeard 15 = .ok (.iload_n 3, 1) := by decide +kernel
theorem dX8_timesHeard_16 : decode cX8_timesHeard 16 = .ok (.invokevirtual 130, 3) := by decide +kernel
theorem dX8_timesHeard_19 : decode cX8_timesHeard 19 = .ok (.ifCond .eq 7, 3) := by decide +kernel
theorem dX8_timesHeard_22 : decode cX8_timesHeard 22 = .ok (.iconst 1, 1) := by decide +kernel
theorem dX8_timesHeard_23 : decode cX8_timesHeard 23 = .ok (.goto 4, 3) := by decide +kernel
theorem dX8_timesHeard_26 : decode cX8_timesHeard 26 = .ok (.iconst 0, 1) := by decide +kernel
theorem dX8_timesHeard_27 : decode cX8_timesHeard 27 = .ok (.iadd, 1) := by decide +kernel
theorem dX8_timesHeard_28 : decode cX8_timesHeard 28 = .ok (.istore_n 2, 1) := by decide +kernel
theorem dX8_timesHeard_29 : decode cX8_timesHeard 29 = .ok (.iinc 3 1, 3) := by decide +kernel
theorem dX8_timesHeard_32 : decode cX8_timesHeard 32 = .ok (.goto (-28), 3) := by decide +kernel
theorem dX8_timesHeard_35 : decode cX8_timesHeard 35 = .ok (.iload_n 2, 1) := by decide +kernel
theorem dX8_timesHeard_36 : decode cX8_timesHeard 36 = .ok (.ireturn, 1) := by decide +kernel
theorem dX8_standing_0 : decode cX8_standing 0 = .ok (.iconst 0, 1) := by decide +kernel
theorem dX8_standing_1 : decode cX8_standing 1 = .ok (.istore_n 1, 1) := by decide +kernel
theorem dX8_standing_2 : decode cX8_standing 2 = .ok (.iconst 0, 1) := by decide +kernel
theorem dX8_standing_3 : decode cX8_standing 3 = .ok (.istore_n 2, 1) := by decide +kernel
theorem dX8_standing_4 : decode cX8_standing 4 = .ok (.iload_n 2, 1) := by decide +kernel
theorem dX8_standing_5 : decode cX8_standing 5 = .ok (.aload_n 0, 1) := by decide +kernel
theorem dX8_standing_6 : decode cX8_standing 6 = .ok (.getfield 87, 3) := by decide +kernel
theorem dX8_standing_9 : decode cX8_standing 9 = .ok (.if_icmp .ge 27, 3) := by decide +kernel
theorem dX8_standing_12 : decode cX8_standing 12 = .ok (.iload_n 1, 1) := by decide +kernel
theorem dX8_standing_13 : decode cX8_standing 13 = .ok (.aload_n 0, 1) := by decide +kernel
theorem dX8_standing_14 : decode cX8_standing 14 = .ok (.iload_n 2, 1) := by decide +kernel
theorem dX8_standing_15 : decode cX8_standing 15 = .ok (.invokevirtual 136, 3) := by decide +kernel
theorem dX8_standing_18 : decode cX8_standing 18 = .ok (.ifCond .le 9, 3) := by decide +kernel
theorem dX8_standing_21 : decode cX8_standing 21 = .ok (.iconst 1, 1) := by decide +kernel
theorem dX8_standing_22 : decode cX8_standing 22 = .ok (.iload_n 2, 1) := by decide +kernel
theorem dX8_standing_23 : decode cX8_standing 23 = .ok (.ishl, 1) := by decide +kernel
theorem dX8_standing_24 : decode cX8_standing 24 = .ok (.goto 4, 3) := by decide +kernel
theorem dX8_standing_27 : decode cX8_standing 27 = .ok (.iconst 0, 1) := by decide +kernel
theorem dX8_standing_28 : decode cX8_standing 28 = .ok (.ior, 1) := by decide +kernel
theorem dX8_standing_29 : decode cX8_standing 29 = .ok (.istore_n 1, 1) := by decide +kernel
theorem dX8_standing_30 : decode cX8_standing 30 = .ok (.iinc 2 1, 3) := by decide +kernel
theorem dX8_standing_33 : decode cX8_standing 33 = .ok (.goto (-29), 3) := by decide +kernel
theorem dX8_standing_36 : decode cX8_standing 36 = .ok (.iload_n 1, 1) := by decide +kernel
theorem dX8_standing_37 : decode cX8_standing 37 = .ok (.ireturn, 1) := by decide +kernel
theorem dX8_lookAtSaid_0 : decode cX8_lookAtSaid 0 = .ok (.aload_n 0, 1) := by decide +kernel
theorem dX8_lookAtSaid_1 : decode cX8_lookAtSaid 1 = .ok (.aload_n 0, 1) := by decide +kernel
theorem dX8_lookAtSaid_2 : decode cX8_lookAtSaid 2 = .ok (.getfield 114, 3) := by decide +kernel
theorem dX8_lookAtSaid_5 : decode cX8_lookAtSaid 5 = .ok (.putfield 133, 3) := by decide +kernel
theorem dX8_lookAtSaid_8 : decode cX8_lookAtSaid 8 = .ok (.iconst 0, 1) := by decide +kernel
theorem dX8_lookAtSaid_9 : decode cX8_lookAtSaid 9 = .ok (.istore_n 1, 1) := by decide +kernel
theorem dX8_lookAtSaid_10 : decode cX8_lookAtSaid 10 = .ok (.iload_n 1, 1) := by decide +kernel
theorem dX8_lookAtSaid_11 : decode cX8_lookAtSaid 11 = .ok (.aload_n 0, 1) := by decide +kernel
theorem dX8_lookAtSaid_12 : decode cX8_lookAtSaid 12 = .ok (.getfield 114, 3) := by decide +kernel
theorem dX8_lookAtSaid_15 : decode cX8_lookAtSaid 15 = .ok (.if_icmp .ge 21, 3) := by decide +kernel
theorem dX8_lookAtSaid_18 : decode cX8_lookAtSaid 18 = .ok (.aload_n 0, 1) := by decide +kernel
theorem dX8_lookAtSaid_19 : decode cX8_lookAtSaid 19 = .ok (.getfield 40, 3) := by decide +kernel
theorem dX8_lookAtSaid_22 : decode cX8_lookAtSaid 22 = .ok (.iload_n 1, 1) := by decide +kernel
theorem dX8_lookAtSaid_23 : decode cX8_lookAtSaid 23 = .ok (.aload_n 0, 1) := by decide +kernel
theorem dX8_lookAtSaid_24 : decode cX8_lookAtSaid 24 = .ok (.getfield 28, 3) := by decide +kernel
theorem dX8_lookAtSaid_27 : decode cX8_lookAtSaid 27 = .ok (.iload_n 1, 1) := by decide +kernel
theorem dX8_lookAtSaid_28 : decode cX8_lookAtSaid 28 = .ok (.iaload, 1) := by decide +kernel
theorem dX8_lookAtSaid_29 : decode cX8_lookAtSaid 29 = .ok (.iastore, 1) := by decide +kernel
theorem dX8_lookAtSaid_30 : decode cX8_lookAtSaid 30 = .ok (.iinc 1 1, 3) := by decide +kernel
theorem dX8_lookAtSaid_33 : decode cX8_lookAtSaid 33 = .ok (.goto (-23), 3) := by decide +kernel
theorem dX8_lookAtSaid_36 : decode cX8_lookAtSaid 36 = .ok (.return_, 1) := by decide +kernel
theorem dX8_lookAtCells_0 : decode cX8_lookAtCells 0 = .ok (.aload_n 0, 1) := by decide +kernel
theorem dX8_lookAtCells_1 : decode cX8_lookAtCells 1 = .ok (.iload_n 2, 1) := by decide +kernel
theorem dX8_lookAtCells_2 : decode cX8_lookAtCells 2 = .ok (.putfield 133, 3) := by decide +kernel
theorem dX8_lookAtCells_5 : decode cX8_lookAtCells 5 = .ok (.iconst 0, 1) := by decide +kernel
theorem dX8_lookAtCells_6 : decode cX8_lookAtCells 6 = .ok (.istore_n 3, 1) := by decide +kernel
theorem dX8_lookAtCells_7 : decode cX8_lookAtCells 7 = .ok (.iload_n 3, 1) := by decide +kernel
theorem dX8_lookAtCells_8 : decode cX8_lookAtCells 8 = .ok (.iload_n 2, 1) := by decide +kernel
theorem dX8_lookAtCells_9 : decode cX8_lookAtCells 9 = .ok (.if_icmp .ge 23, 3) := by decide +kernel
theorem dX8_lookAtCells_12 : decode cX8_lookAtCells 12 = .ok (.aload_n 0, 1) := by decide +kernel
theorem dX8_lookAtCells_13 : decode cX8_lookAtCells 13 = .ok (.getfield 40, 3) := by decide +kernel
theorem dX8_lookAtCells_16 : decode cX8_lookAtCells 16 = .ok (.iload_n 3, 1) := by decide +kernel
theorem dX8_lookAtCells_17 : decode cX8_lookAtCells 17 = .ok (.aload_n 0, 1) := by decide +kernel
theorem dX8_lookAtCells_18 : decode cX8_lookAtCells 18 = .ok (.getfield 16, 3) := by decide +kernel
theorem dX8_lookAtCells_21 : decode cX8_lookAtCells 21 = .ok (.iload_n 1, 1) := by decide +kernel
theorem dX8_lookAtCells_22 : decode cX8_lookAtCells 22 = .ok (.iload_n 3, 1) := by decide +kernel
theorem dX8_lookAtCells_23 : decode cX8_lookAtCells 23 = .ok (.iadd, 1) := by decide +kernel
theorem dX8_lookAtCells_24 : decode cX8_lookAtCells 24 = .ok (.iaload, 1) := by decide +kernel
theorem dX8_lookAtCells_25 : decode cX8_lookAtCells 25 = .ok (.iastore, 1) := by decide +kernel
theorem dX8_lookAtCells_26 : decode cX8_lookAtCells 26 = .ok (.iinc 3 1, 3) := by decide +kernel
theorem dX8_lookAtCells_29 : decode cX8_lookAtCells 29 = .ok (.goto (-22), 3) := by decide +kernel
theorem dX8_lookAtCells_32 : decode cX8_lookAtCells 32 = .ok (.return_, 1) := by decide +kernel
theorem dX8_ofWord_0 : decode cX8_ofWord 0 = .ok (.aload_n 0, 1) := by decide +kernel
theorem dX8_ofWord_1 : decode cX8_ofWord 1 = .ok (.iload_n 1, 1) := by decide +kernel
theorem dX8_ofWord_2 : decode cX8_ofWord 2 = .ok (.invokevirtual 139, 3) := by decide +kernel
theorem dX8_ofWord_5 : decode cX8_ofWord 5 = .ok (.ifCond .ne 5, 3) := by decide +kernel
theorem dX8_ofWord_8 : decode cX8_ofWord 8 = .ok (.iconst (-1), 1) := by decide +kernel
theorem dX8_ofWord_9 : decode cX8_ofWord 9 = .ok (.ireturn, 1) := by decide +kernel
theorem dX8_ofWord_10 : decode cX8_ofWord 10 = .ok (.iload_n 2, 1) := by decide +kernel
theorem dX8_ofWord_11 : decode cX8_ofWord 11 = .ok (.bipush 10, 2) := by decide +kernel
theorem dX8_ofWord_13 : decode cX8_ofWord 13 = .ok (.bipush 13, 2) := by decide +kernel
theorem dX8_ofWord_15 : decode cX8_ofWord 15 = .ok (.invokestatic 83, 3) := by decide +kernel
theorem dX8_ofWord_18 : decode cX8_ofWord 18 = .ok (.ifCond .eq 35, 3) := by decide +kernel
theorem dX8_ofWord_21 : decode cX8_ofWord 21 = .ok (.iload_n 2, 1) := by decide +kernel
theorem dX8_ofWord_22 : decode cX8_ofWord 22 = .ok (.bipush 10, 2) := by decide +kernel
theorem dX8_ofWord_24 : decode cX8_ofWord 24 = .ok (.isub, 1) := by decide +kernel
theorem dX8_ofWord_25 : decode cX8_ofWord 25 = .ok (.aload_n 0, 1) := by decide +kernel
theorem dX8_ofWord_26 : decode cX8_ofWord 26 = .ok (.getfield 22, 3) := by decide +kernel
theorem dX8_ofWord_29 : decode cX8_ofWord 29 = .ok (.iload_n 1, 1) := by decide +kernel
theorem dX8_ofWord_30 : decode cX8_ofWord 30 = .ok (.iaload, 1) := by decide +kernel
theorem dX8_ofWord_31 : decode cX8_ofWord 31 = .ok (.if_icmp .ge 19, 3) := by decide +kernel
theorem dX8_ofWord_34 : decode cX8_ofWord 34 = .ok (.aload_n 0, 1) := by decide +kernel
theorem dX8_ofWord_35 : decode cX8_ofWord 35 = .ok (.getfield 25, 3) := by decide +kernel
theorem dX8_ofWord_38 : decode cX8_ofWord 38 = .ok (.iconst 4, 1) := by decide +kernel
theorem dX8_ofWord_39 : decode cX8_ofWord 39 = .ok (.iload_n 1, 1) := by decide +kernel
theorem dX8_ofWord_40 : decode cX8_ofWord 40 = .ok (.imul, 1) := by decide +kernel
theorem dX8_ofWord_41 : decode cX8_ofWord 41 = .ok (.iload_n 2, 1) := by decide +kernel
theorem dX8_ofWord_42 : decode cX8_ofWord 42 = .ok (.iadd, 1) := by decide +kernel
theorem dX8_ofWord_43 : decode cX8_ofWord 43 = .ok (.bipush 10, 2) := by decide +kernel
theorem dX8_ofWord_45 : decode cX8_ofWord 45 = .ok (.isub, 1) := by decide +kernel
theorem dX8_ofWord_46 : decode cX8_ofWord 46 = .ok (.iaload, 1) := by decide +kernel
theorem dX8_ofWord_47 : decode cX8_ofWord 47 = .ok (.goto 5, 3) := by decide +kernel
theorem dX8_ofWord_50 : decode cX8_ofWord 50 = .ok (.bipush (-9), 2) := by decide +kernel
theorem dX8_ofWord_52 : decode cX8_ofWord 52 = .ok (.ireturn, 1) := by decide +kernel
theorem dX8_ofWord_53 : decode cX8_ofWord 53 = .ok (.iload_n 2, 1) := by decide +kernel
theorem dX8_ofWord_54 : decode cX8_ofWord 54 = .ok (.tableswitch 68 0 3 #[30, 37, 44, 58], 30) := by decide +kernel
theorem dX8_ofWord_84 : decode cX8_ofWord 84 = .ok (.aload_n 0, 1) := by decide +kernel
theorem dX8_ofWord_85 : decode cX8_ofWord 85 = .ok (.getfield 19, 3) := by decide +kernel
theorem dX8_ofWord_88 : decode cX8_ofWord 88 = .ok (.iload_n 1, 1) := by decide +kernel
theorem dX8_ofWord_89 : decode cX8_ofWord 89 = .ok (.iaload, 1) := by decide +kernel
theorem dX8_ofWord_90 : decode cX8_ofWord 90 = .ok (.ireturn, 1) := by decide +kernel
theorem dX8_ofWord_91 : decode cX8_ofWord 91 = .ok (.aload_n 0, 1) := by decide +kernel
theorem dX8_ofWord_92 : decode cX8_ofWord 92 = .ok (.getfield 22, 3) := by decide +kernel
theorem dX8_ofWord_95 : decode cX8_ofWord 95 = .ok (.iload_n 1, 1) := by decide +kernel
theorem dX8_ofWord_96 : decode cX8_ofWord 96 = .ok (.iaload, 1) := by decide +kernel
theorem dX8_ofWord_97 : decode cX8_ofWord 97 = .ok (.ireturn, 1) := by decide +kernel
theorem dX8_ofWord_98 : decode cX8_ofWord 98 = .ok (.aload_n 0, 1) := by decide +kernel
theorem dX8_ofWord_99 : decode cX8_ofWord 99 = .ok (.iload_n 1, 1) := by decide +kernel
theorem dX8_ofWord_100 : decode cX8_ofWord 100 = .ok (.invokevirtual 142, 3) := by decide +kernel
theorem dX8_ofWord_103 : decode cX8_ofWord 103 = .ok (.ifCond .eq 7, 3) := by decide +kernel
theorem dX8_ofWord_106 : decode cX8_ofWord 106 = .ok (.iconst 2, 1) := by decide +kernel
theorem dX8_ofWord_107 : decode cX8_ofWord 107 = .ok (.goto 4, 3) := by decide +kernel
theorem dX8_ofWord_110 : decode cX8_ofWord 110 = .ok (.iconst 1, 1) := by decide +kernel
theorem dX8_ofWord_111 : decode cX8_ofWord 111 = .ok (.ireturn, 1) := by decide +kernel
theorem dX8_ofWord_112 : decode cX8_ofWord 112 = .ok (.aload_n 0, 1) := by decide +kernel
theorem dX8_ofWord_113 : decode cX8_ofWord 113 = .ok (.invokevirtual 145, 3) := by decide +kernel
theorem dX8_ofWord_116 : decode cX8_ofWord 116 = .ok (.aload_n 0, 1) := by decide +kernel
theorem dX8_ofWord_117 : decode cX8_ofWord 117 = .ok (.iload_n 1, 1) := by decide +kernel
theorem dX8_ofWord_118 : decode cX8_ofWord 118 = .ok (.invokevirtual 136, 3) := by decide +kernel
theorem dX8_ofWord_121 : decode cX8_ofWord 121 = .ok (.ireturn, 1) := by decide +kernel
theorem dX8_ofWord_122 : decode cX8_ofWord 122 = .ok (.bipush (-2), 2) := by decide +kernel
theorem dX8_ofWord_124 : decode cX8_ofWord 124 = .ok (.ireturn, 1) := by decide +kernel
theorem dX8_spell_0 : decode cX8_spell 0 = .ok (.aload_n 0, 1) := by decide +kernel
theorem dX8_spell_1 : decode cX8_spell 1 = .ok (.iload_n 1, 1) := by decide +kernel
theorem dX8_spell_2 : decode cX8_spell 2 = .ok (.invokevirtual 139, 3) := by decide +kernel
theorem dX8_spell_5 : decode cX8_spell 5 = .ok (.ifCond .eq 19, 3) := by decide +kernel
theorem dX8_spell_8 : decode cX8_spell 8 = .ok (.iload_n 2, 1) := by decide +kernel
theorem dX8_spell_9 : decode cX8_spell 9 = .ok (.iconst 0, 1) := by decide +kernel
theorem dX8_spell_10 : decode cX8_spell 10 = .ok (.aload_n 0, 1) := by decide +kernel
theorem dX8_spell_11 : decode cX8_spell 11 = .ok (.getfield 22, 3) := by decide +kernel
theorem dX8_spell_14 : decode cX8_spell 14 = .ok (.iload_n 1, 1) := by decide +kernel
theorem dX8_spell_15 : decode cX8_spell 15 = .ok (.iaload, 1) := by decide +kernel
theorem dX8_spell_16 : decode cX8_spell 16 = .ok (.iconst 1, 1) := by decide +kernel
theorem dX8_spell_17 : decode cX8_spell 17 = .ok (.isub, 1) := by decide +kernel
theorem dX8_spell_18 : decode cX8_spell 18 = .ok (.invokestatic 83, 3) := by decide +kernel
theorem dX8_spell_21 : decode cX8_spell 21 = .ok (.ifCond .ne 5, 3) := by decide +kernel
theorem dX8_spell_24 : decode cX8_spell 24 = .ok (.iconst (-1), 1) := by decide +kernel
theorem dX8_spell_25 : decode cX8_spell 25 = .ok (.ireturn, 1) := by decide +kernel
theorem dX8_spell_26 : decode cX8_spell 26 = .ok (.iload_n 3, 1) := by decide +kernel
theorem dX8_spell_27 : decode cX8_spell 27 = .ok (.iconst 0, 1) := by decide +kernel
theorem dX8_spell_28 : decode cX8_spell 28 = .ok (.iconst 2, 1) := by decide +kernel
theorem dX8_spell_29 : decode cX8_spell 29 = .ok (.invokestatic 83, 3) := by decide +kernel
theorem dX8_spell_32 : decode cX8_spell 32 = .ok (.ifCond .ne 6, 3) := by decide +kernel
theorem dX8_spell_35 : decode cX8_spell 35 = .ok (.bipush (-2), 2) := by decide +kernel
theorem dX8_spell_37 : decode cX8_spell 37 = .ok (.ireturn, 1) := by decide +kernel
theorem dX8_spell_38 : decode cX8_spell 38 = .ok (.aload_n 0, 1) := by decide +kernel
theorem dX8_spell_39 : decode cX8_spell 39 = .ok (.getfield 25, 3) := by decide +kernel
theorem dX8_spell_42 : decode cX8_spell 42 = .ok (.iconst 4, 1) := by decide +kernel
theorem dX8_spell_43 : decode cX8_spell 43 = .ok (.iload_n 1, 1) := by decide +kernel
theorem dX8_spell_44 : decode cX8_spell 44 = .ok (.imul, 1) := by decide +kernel
theorem dX8_spell_45 : decode cX8_spell 45 = .ok (.iload_n 2, 1) := by decide +kernel
theorem dX8_spell_46 : decode cX8_spell 46 = .ok (.iadd, 1) := by decide +kernel
theorem dX8_spell_47 : decode cX8_spell 47 = .ok (.iaload, 1) := by decide +kernel
theorem dX8_spell_48 : decode cX8_spell 48 = .ok (.istore 4, 2) := by decide +kernel
theorem dX8_spell_50 : decode cX8_spell 50 = .ok (.aload_n 0, 1) := by decide +kernel
theorem dX8_spell_51 : decode cX8_spell 51 = .ok (.getfield 25, 3) := by decide +kernel
theorem dX8_spell_54 : decode cX8_spell 54 = .ok (.iconst 4, 1) := by decide +kernel
theorem dX8_spell_55 : decode cX8_spell 55 = .ok (.iload_n 1, 1) := by decide +kernel
theorem dX8_spell_56 : decode cX8_spell 56 = .ok (.imul, 1) := by decide +kernel
theorem dX8_spell_57 : decode cX8_spell 57 = .ok (.iload_n 2, 1) := by decide +kernel
theorem dX8_spell_58 : decode cX8_spell 58 = .ok (.iadd, 1) := by decide +kernel
theorem dX8_spell_59 : decode cX8_spell 59 = .ok (.iload_n 3, 1) := by decide +kernel
theorem dX8_spell_60 : decode cX8_spell 60 = .ok (.iastore, 1) := by decide +kernel
theorem dX8_spell_61 : decode cX8_spell 61 = .ok (.iload 4, 2) := by decide +kernel
theorem dX8_spell_63 : decode cX8_spell 63 = .ok (.ireturn, 1) := by decide +kernel
theorem dX8_say_0 : decode cX8_say 0 = .ok (.iload_n 1, 1) := by decide +kernel
theorem dX8_say_1 : decode cX8_say 1 = .ok (.iconst 0, 1) := by decide +kernel
theorem dX8_say_2 : decode cX8_say 2 = .ok (.iconst 2, 1) := by decide +kernel
theorem dX8_say_3 : decode cX8_say 3 = .ok (.invokestatic 83, 3) := by decide +kernel
theorem dX8_say_6 : decode cX8_say 6 = .ok (.ifCond .ne 6, 3) := by decide +kernel
theorem dX8_say_9 : decode cX8_say 9 = .ok (.bipush (-2), 2) := by decide +kernel
theorem dX8_say_11 : decode cX8_say 11 = .ok (.ireturn, 1) := by decide +kernel
theorem dX8_say_12 : decode cX8_say 12 = .ok (.aload_n 0, 1) := by decide +kernel
theorem dX8_say_13 : decode cX8_say 13 = .ok (.getfield 87, 3) := by decide +kernel
theorem dX8_say_16 : decode cX8_say 16 = .ok (.ifCond .ne 6, 3) := by decide +kernel
theorem dX8_say_19 : decode cX8_say 19 = .ok (.bipush (-3), 2) := by decide +kernel
theorem dX8_say_21 : decode cX8_say 21 = .ok (.ireturn, 1) := by decide +kernel
theorem dX8_say_22 : decode cX8_say 22 = .ok (.aload_n 0, 1) := by decide +kernel
theorem dX8_say_23 : decode cX8_say 23 = .ok (.getfield 114, 3) := by decide +kernel
theorem dX8_say_26 : decode cX8_say 26 = .ok (.bipush 60, 2) := by decide +kernel
theorem dX8_say_28 : decode cX8_say 28 = .ok (.if_icmp .ne 6, 3) := by decide +kernel
theorem dX8_say_31 : decode cX8_say 31 = .ok (.bipush (-4), 2) := by decide +kernel
theorem dX8_say_33 : decode cX8_say 33 = .ok (.ireturn, 1) := by decide +kernel
theorem dX8_say_34 : decode cX8_say 34 = .ok (.aload_n 0, 1) := by decide +kernel
theorem dX8_say_35 : decode cX8_say 35 = .ok (.getfield 28, 3) := by decide +kernel
theorem dX8_say_38 : decode cX8_say 38 = .ok (.aload_n 0, 1) := by decide +kernel
theorem dX8_say_39 : decode cX8_say 39 = .ok (.getfield 114, 3) := by decide +kernel
theorem dX8_say_42 : decode cX8_say 42 = .ok (.iload_n 1, 1) := by decide +kernel
theorem dX8_say_43 : decode cX8_say 43 = .ok (.iastore, 1) := by decide +kernel
theorem dX8_say_44 : decode cX8_say 44 = .ok (.aload_n 0, 1) := by decide +kernel
theorem dX8_say_45 : decode cX8_say 45 = .ok (.dup, 1) := by decide +kernel
theorem dX8_say_46 : decode cX8_say 46 = .ok (.getfield 114, 3) := by decide +kernel
theorem dX8_say_49 : decode cX8_say 49 = .ok (.iconst 1, 1) := by decide +kernel
theorem dX8_say_50 : decode cX8_say 50 = .ok (.iadd, 1) := by decide +kernel
theorem dX8_say_51 : decode cX8_say 51 = .ok (.putfield 114, 3) := by decide +kernel
theorem dX8_say_54 : decode cX8_say 54 = .ok (.aload_n 0, 1) := by decide +kernel
theorem dX8_say_55 : decode cX8_say 55 = .ok (.invokevirtual 145, 3) := by decide +kernel
theorem dX8_say_58 : decode cX8_say 58 = .ok (.aload_n 0, 1) := by decide +kernel
theorem dX8_say_59 : decode cX8_say 59 = .ok (.aload_n 0, 1) := by decide +kernel
theorem dX8_say_60 : decode cX8_say 60 = .ok (.getfield 114, 3) := by decide +kernel
theorem dX8_say_63 : decode cX8_say 63 = .ok (.invokevirtual 148, 3) := by decide +kernel
theorem dX8_say_66 : decode cX8_say 66 = .ok (.ireturn, 1) := by decide +kernel
theorem dX8_hush_0 : decode cX8_hush 0 = .ok (.aload_n 0, 1) := by decide +kernel
theorem dX8_hush_1 : decode cX8_hush 1 = .ok (.getfield 87, 3) := by decide +kernel
theorem dX8_hush_4 : decode cX8_hush 4 = .ok (.ifCond .ne 6, 3) := by decide +kernel
theorem dX8_hush_7 : decode cX8_hush 7 = .ok (.bipush (-3), 2) := by decide +kernel
theorem dX8_hush_9 : decode cX8_hush 9 = .ok (.ireturn, 1) := by decide +kernel
theorem dX8_hush_10 : decode cX8_hush 10 = .ok (.aload_n 0, 1) := by decide +kernel
theorem dX8_hush_11 : decode cX8_hush 11 = .ok (.getfield 114, 3) := by decide +kernel
theorem dX8_hush_14 : decode cX8_hush 14 = .ok (.istore_n 1, 1) := by decide +kernel
theorem dX8_hush_15 : decode cX8_hush 15 = .ok (.aload_n 0, 1) := by decide +kernel
theorem dX8_hush_16 : decode cX8_hush 16 = .ok (.iconst 0, 1) := by decide +kernel
theorem dX8_hush_17 : decode cX8_hush 17 = .ok (.putfield 114, 3) := by decide +kernel
theorem dX8_hush_20 : decode cX8_hush 20 = .ok (.iload_n 1, 1) := by decide +kernel
theorem dX8_hush_21 : decode cX8_hush 21 = .ok (.ireturn, 1) := by decide +kernel
theorem dX8_areLetters_0 : decode cX8_areLetters 0 = .ok (.iconst 0, 1) := by decide +kernel
theorem dX8_areLetters_1 : decode cX8_areLetters 1 = .ok (.istore_n 3, 1) := by decide +kernel
theorem dX8_areLetters_2 : decode cX8_areLetters 2 = .ok (.iload_n 3, 1) := by decide +kernel
theorem dX8_areLetters_3 : decode cX8_areLetters 3 = .ok (.iload_n 2, 1) := by decide +kernel
theorem dX8_areLetters_4 : decode cX8_areLetters 4 = .ok (.if_icmp .ge 27, 3) := by decide +kernel
theorem dX8_areLetters_7 : decode cX8_areLetters 7 = .ok (.aload_n 0, 1) := by decide +kernel
theorem dX8_areLetters_8 : decode cX8_areLetters 8 = .ok (.getfield 16, 3) := by decide +kernel
theorem dX8_areLetters_11 : decode cX8_areLetters 11 = .ok (.iload_n 1, 1) := by decide +kernel
theorem dX8_areLetters_12 : decode cX8_areLetters 12 = .ok (.iload_n 3, 1) := by decide +kernel
theorem dX8_areLetters_13 : decode cX8_areLetters 13 = .ok (.iadd, 1) := by decide +kernel
theorem dX8_areLetters_14 : decode cX8_areLetters 14 = .ok (.iaload, 1) := by decide +kernel
theorem dX8_areLetters_15 : decode cX8_areLetters 15 = .ok (.iconst 0, 1) := by decide +kernel
theorem dX8_areLetters_16 : decode cX8_areLetters 16 = .ok (.iconst 2, 1) := by decide +kernel
theorem dX8_areLetters_17 : decode cX8_areLetters 17 = .ok (.invokestatic 83, 3) := by decide +kernel
theorem dX8_areLetters_20 : decode cX8_areLetters 20 = .ok (.ifCond .ne 5, 3) := by decide +kernel
theorem dX8_areLetters_23 : decode cX8_areLetters 23 = .ok (.iconst 0, 1) := by decide +kernel
theorem dX8_areLetters_24 : decode cX8_areLetters 24 = .ok (.ireturn, 1) := by decide +kernel
theorem dX8_areLetters_25 : decode cX8_areLetters 25 = .ok (.iinc 3 1, 3) := by decide +kernel
theorem dX8_areLetters_28 : decode cX8_areLetters 28 = .ok (.goto (-26), 3) := by decide +kernel
theorem dX8_areLetters_31 : decode cX8_areLetters 31 = .ok (.iconst 1, 1) := by decide +kernel
theorem dX8_areLetters_32 : decode cX8_areLetters 32 = .ok (.ireturn, 1) := by decide +kernel
theorem dX8_row_0 : decode cX8_row 0 = .ok (.aload_n 0, 1) := by decide +kernel
theorem dX8_row_1 : decode cX8_row 1 = .ok (.iconst 0, 1) := by decide +kernel
theorem dX8_row_2 : decode cX8_row 2 = .ok (.putfield 77, 3) := by decide +kernel
theorem dX8_row_5 : decode cX8_row 5 = .ok (.iload_n 1, 1) := by decide +kernel
theorem dX8_row_6 : decode cX8_row 6 = .ok (.invokestatic 93, 3) := by decide +kernel
theorem dX8_row_9 : decode cX8_row 9 = .ok (.ifCond .ne 5, 3) := by decide +kernel
theorem dX8_row_12 : decode cX8_row 12 = .ok (.iconst (-1), 1) := by decide +kernel
theorem dX8_row_13 : decode cX8_row 13 = .ok (.ireturn, 1) := by decide +kernel
theorem dX8_row_14 : decode cX8_row 14 = .ok (.iload_n 2, 1) := by decide +kernel
theorem dX8_row_15 : decode cX8_row 15 = .ok (.invokestatic 97, 3) := by decide +kernel
theorem dX8_row_18 : decode cX8_row 18 = .ok (.ifCond .eq 36, 3) := by decide +kernel
theorem dX8_row_21 : decode cX8_row 21 = .ok (.iload 4, 2) := by decide +kernel
theorem dX8_row_23 : decode cX8_row 23 = .ok (.iconst 0, 1) := by decide +kernel
theorem dX8_row_24 : decode cX8_row 24 = .ok (.bipush 40, 2) := by decide +kernel
theorem dX8_row_26 : decode cX8_row 26 = .ok (.invokestatic 83, 3) := by decide +kernel
theorem dX8_row_29 : decode cX8_row 29 = .ok (.ifCond .eq 25, 3) := by decide +kernel
theorem dX8_row_32 : decode cX8_row 32 = .ok (.iload 5, 2) := by decide +kernel
theorem dX8_row_34 : decode cX8_row 34 = .ok (.iconst 0, 1) := by decide +kernel
theorem dX8_row_35 : decode cX8_row 35 = .ok (.iconst 3, 1) := by decide +kernel
theorem dX8_row_36 : decode cX8_row 36 = .ok (.invokestatic 83, 3) := by decide +kernel
theorem dX8_row_39 : decode cX8_row 39 = .ok (.ifCond .ne 18, 3) := by decide +kernel
theorem dX8_row_42 : decode cX8_row 42 = .ok (.iload 5, 2) := by decide +kernel
theorem dX8_row_44 : decode cX8_row 44 = .ok (.bipush 10, 2) := by decide +kernel
theorem dX8_row_46 : decode cX8_row 46 = .ok (.bipush 13, 2) := by decide +kernel
theorem dX8_row_48 : decode cX8_row 48 = .ok (.invokestatic 83, 3) := by decide +kernel
theorem dX8_row_51 : decode cX8_row 51 = .ok (.ifCond .ne 6, 3) := by decide +kernel
theorem dX8_row_54 : decode cX8_row 54 = .ok (.bipush (-2), 2) := by decide +kernel
theorem dX8_row_56 : decode cX8_row 56 = .ok (.ireturn, 1) := by decide +kernel
theorem dX8_row_57 : decode cX8_row 57 = .ok (.aload_n 0, 1) := by decide +kernel
theorem dX8_row_58 : decode cX8_row 58 = .ok (.iload_n 1, 1) := by decide +kernel
theorem dX8_row_59 : decode cX8_row 59 = .ok (.iload_n 2, 1) := by decide +kernel
theorem dX8_row_60 : decode cX8_row 60 = .ok (.iload_n 3, 1) := by decide +kernel
theorem dX8_row_61 : decode cX8_row 61 = .ok (.iload 4, 2) := by decide +kernel
theorem dX8_row_63 : decode cX8_row 63 = .ok (.invokevirtual 100, 3) := by decide +kernel
theorem dX8_row_66 : decode cX8_row 66 = .ok (.istore 6, 2) := by decide +kernel
theorem dX8_row_68 : decode cX8_row 68 = .ok (.iload 6, 2) := by decide +kernel
theorem dX8_row_70 : decode cX8_row 70 = .ok (.ifCond .eq 10, 3) := by decide +kernel
theorem dX8_row_73 : decode cX8_row 73 = .ok (.aload_n 0, 1) := by decide +kernel
theorem dX8_row_74 : decode cX8_row 74 = .ok (.iload 6, 2) := by decide +kernel
theorem dX8_row_76 : decode cX8_row 76 = .ok (.invokevirtual 104, 3) := by decide +kernel
theorem dX8_row_79 : decode cX8_row 79 = .ok (.ireturn, 1) := by decide +kernel
theorem dX8_row_80 : decode cX8_row 80 = .ok (.aload_n 0, 1) := by decide +kernel
theorem dX8_row_81 : decode cX8_row 81 = .ok (.getfield 87, 3) := by decide +kernel
theorem dX8_row_84 : decode cX8_row 84 = .ok (.ifCond .ne 6, 3) := by decide +kernel
theorem dX8_row_87 : decode cX8_row 87 = .ok (.bipush (-3), 2) := by decide +kernel
theorem dX8_row_89 : decode cX8_row 89 = .ok (.ireturn, 1) := by decide +kernel
theorem dX8_row_90 : decode cX8_row 90 = .ok (.bipush 60, 2) := by decide +kernel
theorem dX8_row_92 : decode cX8_row 92 = .ok (.iload_n 1, 1) := by decide +kernel
theorem dX8_row_93 : decode cX8_row 93 = .ok (.imul, 1) := by decide +kernel
theorem dX8_row_94 : decode cX8_row 94 = .ok (.iload_n 3, 1) := by decide +kernel
theorem dX8_row_95 : decode cX8_row 95 = .ok (.iadd, 1) := by decide +kernel
theorem dX8_row_96 : decode cX8_row 96 = .ok (.istore 7, 2) := by decide +kernel
theorem dX8_row_98 : decode cX8_row 98 = .ok (.aload_n 0, 1) := by decide +kernel
theorem dX8_row_99 : decode cX8_row 99 = .ok (.iload 7, 2) := by decide +kernel
theorem dX8_row_101 : decode cX8_row 101 = .ok (.iload 4, 2) := by decide +kernel
theorem dX8_row_103 : decode cX8_row 103 = .ok (.invokevirtual 151, 3) := by decide +kernel
theorem dX8_row_106 : decode cX8_row 106 = .ok (.ifCond .ne 6, 3) := by decide +kernel
theorem dX8_row_109 : decode cX8_row 109 = .ok (.bipush (-2), 2) := by decide +kernel
theorem dX8_row_111 : decode cX8_row 111 = .ok (.ireturn, 1) := by decide +kernel
theorem dX8_row_112 : decode cX8_row 112 = .ok (.aload_n 0, 1) := by decide +kernel
theorem dX8_row_113 : decode cX8_row 113 = .ok (.iload 7, 2) := by decide +kernel
theorem dX8_row_115 : decode cX8_row 115 = .ok (.iload 4, 2) := by decide +kernel
theorem dX8_row_117 : decode cX8_row 117 = .ok (.invokevirtual 154, 3) := by decide +kernel
theorem dX8_row_120 : decode cX8_row 120 = .ok (.iload 5, 2) := by decide +kernel
theorem dX8_row_122 : decode cX8_row 122 = .ok (.bipush 10, 2) := by decide +kernel
theorem dX8_row_124 : decode cX8_row 124 = .ok (.if_icmp .lt 30, 3) := by decide +kernel
theorem dX8_row_127 : decode cX8_row 127 = .ok (.aload_n 0, 1) := by decide +kernel
theorem dX8_row_128 : decode cX8_row 128 = .ok (.iload 5, 2) := by decide +kernel
theorem dX8_row_130 : decode cX8_row 130 = .ok (.bipush 10, 2) := by decide +kernel
theorem dX8_row_132 : decode cX8_row 132 = .ok (.isub, 1) := by decide +kernel
theorem dX8_row_133 : decode cX8_row 133 = .ok (.invokevirtual 139, 3) := by decide +kernel
theorem dX8_row_136 : decode cX8_row 136 = .ok (.ifCond .eq 15, 3) := by decide +kernel
theorem dX8_row_139 : decode cX8_row 139 = .ok (.aload_n 0, 1) := by decide +kernel
theorem dX8_row_140 : decode cX8_row 140 = .ok (.iload 5, 2) := by decide +kernel
theorem dX8_row_142 : decode cX8_row 142 = .ok (.bipush 10, 2) := by decide +kernel
theorem dX8_row_144 : decode cX8_row 144 = .ok (.isub, 1) := by decide +kernel
theorem dX8_row_145 : decode cX8_row 145 = .ok (.invokevirtual 136, 3) := by decide +kernel
theorem dX8_row_148 : decode cX8_row 148 = .ok (.goto 5, 3) := by decide +kernel
theorem dX8_row_151 : decode cX8_row 151 = .ok (.bipush (-9), 2) := by decide +kernel
theorem dX8_row_153 : decode cX8_row 153 = .ok (.ireturn, 1) := by decide +kernel
theorem dX8_row_154 : decode cX8_row 154 = .ok (.iload 5, 2) := by decide +kernel
theorem dX8_row_156 : decode cX8_row 156 = .ok (.ifCond .ne 10, 3) := by decide +kernel
theorem dX8_row_159 : decode cX8_row 159 = .ok (.aload_n 0, 1) := by decide +kernel
theorem dX8_row_160 : decode cX8_row 160 = .ok (.invokevirtual 158, 3) := by decide +kernel
theorem dX8_row_163 : decode cX8_row 163 = .ok (.goto 31, 3) := by decide +kernel
theorem dX8_row_166 : decode cX8_row 166 = .ok (.iload 5, 2) := by decide +kernel
theorem dX8_row_168 : decode cX8_row 168 = .ok (.iconst 3, 1) := by decide +kernel
theorem dX8_row_169 : decode cX8_row 169 = .ok (.if_icmp .ne 10, 3) := by decide +kernel
theorem dX8_row_172 : decode cX8_row 172 = .ok (.aload_n 0, 1) := by decide +kernel
theorem dX8_row_173 : decode cX8_row 173 = .ok (.invokevirtual 162, 3) := by decide +kernel
theorem dX8_row_176 : decode cX8_row 176 = .ok (.goto 18, 3) := by decide +kernel
theorem dX8_row_179 : decode cX8_row 179 = .ok (.aload_n 0, 1) := by decide +kernel
theorem dX8_row_180 : decode cX8_row 180 = .ok (.iload 5, 2) := by decide +kernel
theorem dX8_row_182 : decode cX8_row 182 = .ok (.iconst 1, 1) := by decide +kernel
theorem dX8_row_183 : decode cX8_row 183 = .ok (.if_icmp .ne 7, 3) := by decide +kernel
theorem dX8_row_186 : decode cX8_row 186 = .ok (.iconst 1, 1) := by decide +kernel
theorem dX8_row_187 : decode cX8_row 187 = .ok (.goto 4, 3) := by decide +kernel
theorem dX8_row_190 : decode cX8_row 190 = .ok (.iconst 0, 1) := by decide +kernel
theorem dX8_row_191 : decode cX8_row 191 = .ok (.invokevirtual 165, 3) := by decide +kernel
theorem dX8_row_194 : decode cX8_row 194 = .ok (.ireturn, 1) := by decide +kernel
theorem dX8_allHeard_0 : decode cX8_allHeard 0 = .ok (.iconst 0, 1) := by decide +kernel
theorem dX8_allHeard_1 : decode cX8_allHeard 1 = .ok (.istore_n 1, 1) := by decide +kernel
theorem dX8_allHeard_2 : decode cX8_allHeard 2 = .ok (.iconst 0, 1) := by decide +kernel
theorem dX8_allHeard_3 : decode cX8_allHeard 3 = .ok (.istore_n 2, 1) := by decide +kernel
theorem dX8_allHeard_4 : decode cX8_allHeard 4 = .ok (.iload_n 2, 1) := by decide +kernel
theorem dX8_allHeard_5 : decode cX8_allHeard 5 = .ok (.aload_n 0, 1) := by decide +kernel
theorem dX8_allHeard_6 : decode cX8_allHeard 6 = .ok (.getfield 87, 3) := by decide +kernel
theorem dX8_allHeard_9 : decode cX8_allHeard 9 = .ok (.if_icmp .ge 17, 3) := by decide +kernel
theorem dX8_allHeard_12 : decode cX8_allHeard 12 = .ok (.iload_n 1, 1) := by decide +kernel
theorem dX8_allHeard_13 : decode cX8_allHeard 13 = .ok (.aload_n 0, 1) := by decide +kernel
theorem dX8_allHeard_14 : decode cX8_allHeard 14 = .ok (.iload_n 2, 1) := by decide +kernel
theorem dX8_allHeard_15 : decode cX8_allHeard 15 = .ok (.invokevirtual 136, 3) := by decide +kernel
theorem dX8_allHeard_18 : decode cX8_allHeard 18 = .ok (.iadd, 1) := by decide +kernel
theorem dX8_allHeard_19 : decode cX8_allHeard 19 = .ok (.istore_n 1, 1) := by decide +kernel
theorem dX8_allHeard_20 : decode cX8_allHeard 20 = .ok (.iinc 2 1, 3) := by decide +kernel
theorem dX8_allHeard_23 : decode cX8_allHeard 23 = .ok (.goto (-19), 3) := by decide +kernel
theorem dX8_allHeard_26 : decode cX8_allHeard 26 = .ok (.iload_n 1, 1) := by decide +kernel
theorem dX8_allHeard_27 : decode cX8_allHeard 27 = .ok (.ireturn, 1) := by decide +kernel
theorem dX8_heardBy_0 : decode cX8_heardBy 0 = .ok (.iconst 0, 1) := by decide +kernel
theorem dX8_heardBy_1 : decode cX8_heardBy 1 = .ok (.istore_n 2, 1) := by decide +kernel
theorem dX8_heardBy_2 : decode cX8_heardBy 2 = .ok (.iconst 1, 1) := by decide +kernel
theorem dX8_heardBy_3 : decode cX8_heardBy 3 = .ok (.istore_n 3, 1) := by decide +kernel
theorem dX8_heardBy_4 : decode cX8_heardBy 4 = .ok (.iload_n 3, 1) := by decide +kernel
theorem dX8_heardBy_5 : decode cX8_heardBy 5 = .ok (.aload_n 0, 1) := by decide +kernel
theorem dX8_heardBy_6 : decode cX8_heardBy 6 = .ok (.getfield 133, 3) := by decide +kernel
theorem dX8_heardBy_9 : decode cX8_heardBy 9 = .ok (.if_icmp .gt 39, 3) := by decide +kernel
theorem dX8_heardBy_12 : decode cX8_heardBy 12 = .ok (.iload_n 2, 1) := by decide +kernel
theorem dX8_heardBy_13 : decode cX8_heardBy 13 = .ok (.aload_n 0, 1) := by decide +kernel
theorem dX8_heardBy_14 : decode cX8_heardBy 14 = .ok (.iload_n 3, 1) := by decide +kernel
theorem dX8_heardBy_15 : decode cX8_heardBy 15 = .ok (.invokevirtual 148, 3) := by decide +kernel
theorem dX8_heardBy_18 : decode cX8_heardBy 18 = .ok (.ior, 1) := by decide +kernel
theorem dX8_heardBy_19 : decode cX8_heardBy 19 = .ok (.istore_n 2, 1) := by decide +kernel
theorem dX8_heardBy_20 : decode cX8_heardBy 20 = .ok (.iload_n 1, 1) := by decide +kernel
theorem dX8_heardBy_21 : decode cX8_heardBy 21 = .ok (.ifCond .eq 7, 3) := by decide +kernel
theorem dX8_heardBy_24 : decode cX8_heardBy 24 = .ok (.iload_n 2, 1) := by decide +kernel
theorem dX8_heardBy_25 : decode cX8_heardBy 25 = .ok (.ifCond .ne 15, 3) := by decide +kernel
theorem dX8_heardBy_28 : decode cX8_heardBy 28 = .ok (.iload_n 2, 1) := by decide +kernel
theorem dX8_heardBy_29 : decode cX8_heardBy 29 = .ok (.iconst 1, 1) := by decide +kernel
theorem dX8_heardBy_30 : decode cX8_heardBy 30 = .ok (.aload_n 0, 1) := by decide +kernel
theorem dX8_heardBy_31 : decode cX8_heardBy 31 = .ok (.getfield 87, 3) := by decide +kernel
theorem dX8_heardBy_34 : decode cX8_heardBy 34 = .ok (.ishl, 1) := by decide +kernel
theorem dX8_heardBy_35 : decode cX8_heardBy 35 = .ok (.iconst 1, 1) := by decide +kernel
theorem dX8_heardBy_36 : decode cX8_heardBy 36 = .ok (.isub, 1) := by decide +kernel
theorem dX8_heardBy_37 : decode cX8_heardBy 37 = .ok (.if_icmp .ne 5, 3) := by decide +kernel
theorem dX8_heardBy_40 : decode cX8_heardBy 40 = .ok (.iload_n 3, 1) := by decide +kernel
theorem dX8_heardBy_41 : decode cX8_heardBy 41 = .ok (.ireturn, 1) := by decide +kernel
theorem dX8_heardBy_42 : decode cX8_heardBy 42 = .ok (.iinc 3 1, 3) := by decide +kernel
theorem dX8_heardBy_45 : decode cX8_heardBy 45 = .ok (.goto (-41), 3) := by decide +kernel
theorem dX8_heardBy_48 : decode cX8_heardBy 48 = .ok (.bipush (-9), 2) := by decide +kernel
theorem dX8_heardBy_50 : decode cX8_heardBy 50 = .ok (.ireturn, 1) := by decide +kernel
theorem dX8_over_0 : decode cX8_over 0 = .ok (.aload_n 0, 1) := by decide +kernel
theorem dX8_over_1 : decode cX8_over 1 = .ok (.iload_n 1, 1) := by decide +kernel
theorem dX8_over_2 : decode cX8_over 2 = .ok (.invokevirtual 139, 3) := by decide +kernel
theorem dX8_over_5 : decode cX8_over 5 = .ok (.ifCond .eq 11, 3) := by decide +kernel
theorem dX8_over_8 : decode cX8_over 8 = .ok (.aload_n 0, 1) := by decide +kernel
theorem dX8_over_9 : decode cX8_over 9 = .ok (.iload_n 2, 1) := by decide +kernel
theorem dX8_over_10 : decode cX8_over 10 = .ok (.invokevirtual 139, 3) := by decide +kernel
theorem dX8_over_13 : decode cX8_over 13 = .ok (.ifCond .ne 5, 3) := by decide +kernel
theorem dX8_over_16 : decode cX8_over 16 = .ok (.iconst (-1), 1) := by decide +kernel
theorem dX8_over_17 : decode cX8_over 17 = .ok (.ireturn, 1) := by decide +kernel
theorem dX8_over_18 : decode cX8_over 18 = .ok (.aload_n 0, 1) := by decide +kernel
theorem dX8_over_19 : decode cX8_over 19 = .ok (.getfield 22, 3) := by decide +kernel
theorem dX8_over_22 : decode cX8_over 22 = .ok (.iload_n 1, 1) := by decide +kernel
theorem dX8_over_23 : decode cX8_over 23 = .ok (.iaload, 1) := by decide +kernel
theorem dX8_over_24 : decode cX8_over 24 = .ok (.aload_n 0, 1) := by decide +kernel
theorem dX8_over_25 : decode cX8_over 25 = .ok (.getfield 22, 3) := by decide +kernel
theorem dX8_over_28 : decode cX8_over 28 = .ok (.iload_n 2, 1) := by decide +kernel
theorem dX8_over_29 : decode cX8_over 29 = .ok (.iaload, 1) := by decide +kernel
theorem dX8_over_30 : decode cX8_over 30 = .ok (.if_icmp .ge 12, 3) := by decide +kernel
theorem dX8_over_33 : decode cX8_over 33 = .ok (.aload_n 0, 1) := by decide +kernel
theorem dX8_over_34 : decode cX8_over 34 = .ok (.getfield 22, 3) := by decide +kernel
theorem dX8_over_37 : decode cX8_over 37 = .ok (.iload_n 1, 1) := by decide +kernel
theorem dX8_over_38 : decode cX8_over 38 = .ok (.iaload, 1) := by decide +kernel
theorem dX8_over_39 : decode cX8_over 39 = .ok (.goto 9, 3) := by decide +kernel
theorem dX8_over_42 : decode cX8_over 42 = .ok (.aload_n 0, 1) := by decide +kernel
theorem dX8_over_43 : decode cX8_over 43 = .ok (.getfield 22, 3) := by decide +kernel
theorem dX8_over_46 : decode cX8_over 46 = .ok (.iload_n 2, 1) := by decide +kernel
theorem dX8_over_47 : decode cX8_over 47 = .ok (.iaload, 1) := by decide +kernel
theorem dX8_over_48 : decode cX8_over 48 = .ok (.istore_n 3, 1) := by decide +kernel
theorem dX8_over_49 : decode cX8_over 49 = .ok (.iload_n 3, 1) := by decide +kernel
theorem dX8_over_50 : decode cX8_over 50 = .ok (.istore 4, 2) := by decide +kernel
theorem dX8_over_52 : decode cX8_over 52 = .ok (.iload 4, 2) := by decide +kernel
theorem dX8_over_54 : decode cX8_over 54 = .ok (.ifCond .le 83, 3) := by decide +kernel
theorem dX8_over_57 : decode cX8_over 57 = .ok (.iconst 1, 1) := by decide +kernel
theorem dX8_over_58 : decode cX8_over 58 = .ok (.istore 5, 2) := by decide +kernel
theorem dX8_over_60 : decode cX8_over 60 = .ok (.iconst 0, 1) := by decide +kernel
theorem dX8_over_61 : decode cX8_over 61 = .ok (.istore 6, 2) := by decide +kernel
theorem dX8_over_63 : decode cX8_over 63 = .ok (.iload 6, 2) := by decide +kernel
theorem dX8_over_65 : decode cX8_over 65 = .ok (.iload 4, 2) := by decide +kernel
theorem dX8_over_67 : decode cX8_over 67 = .ok (.if_icmp .ge 56, 3) := by decide +kernel
theorem dX8_over_70 : decode cX8_over 70 = .ok (.iload 5, 2) := by decide +kernel
theorem dX8_over_72 : decode cX8_over 72 = .ok (.ifCond .eq 51, 3) := by decide +kernel
theorem dX8_over_75 : decode cX8_over 75 = .ok (.aload_n 0, 1) := by decide +kernel
theorem dX8_over_76 : decode cX8_over 76 = .ok (.getfield 25, 3) := by decide +kernel
theorem dX8_over_79 : decode cX8_over 79 = .ok (.iconst 4, 1) := by decide +kernel
theorem dX8_over_80 : decode cX8_over 80 = .ok (.iload_n 1, 1) := by decide +kernel
theorem dX8_over_81 : decode cX8_over 81 = .ok (.imul, 1) := by decide +kernel
theorem dX8_over_82 : decode cX8_over 82 = .ok (.aload_n 0, 1) := by decide +kernel
theorem dX8_over_83 : decode cX8_over 83 = .ok (.getfield 22, 3) := by decide +kernel
theorem dX8_over_86 : decode cX8_over 86 = .ok (.iload_n 1, 1) := by decide +kernel
theorem dX8_over_87 : decode cX8_over 87 = .ok (.iaload, 1) := by decide +kernel
theorem dX8_over_88 : decode cX8_over 88 = .ok (.iadd, 1) := by decide +kernel
theorem dX8_over_89 : decode cX8_over 89 = .ok (.iload 4, 2) := by decide +kernel
theorem dX8_over_91 : decode cX8_over 91 = .ok (.isub, 1) := by decide +kernel
theorem dX8_over_92 : decode cX8_over 92 = .ok (.iload 6, 2) := by decide +kernel
theorem dX8_over_94 : decode cX8_over 94 = .ok (.iadd, 1) := by decide +kernel
theorem dX8_over_95 : decode cX8_over 95 = .ok (.iaload, 1) := by decide +kernel
theorem dX8_over_96 : decode cX8_over 96 = .ok (.aload_n 0, 1) := by decide +kernel
theorem dX8_over_97 : decode cX8_over 97 = .ok (.getfield 25, 3) := by decide +kernel
theorem dX8_over_100 : decode cX8_over 100 = .ok (.iconst 4, 1) := by decide +kernel
theorem dX8_over_101 : decode cX8_over 101 = .ok (.iload_n 2, 1) := by decide +kernel
theorem dX8_over_102 : decode cX8_over 102 = .ok (.imul, 1) := by decide +kernel
theorem dX8_over_103 : decode cX8_over 103 = .ok (.iload 6, 2) := by decide +kernel
theorem dX8_over_105 : decode cX8_over 105 = .ok (.iadd, 1) := by decide +kernel
theorem dX8_over_106 : decode cX8_over 106 = .ok (.iaload, 1) := by decide +kernel
theorem dX8_over_107 : decode cX8_over 107 = .ok (.if_icmp .ne 7, 3) := by decide +kernel
theorem dX8_over_110 : decode cX8_over 110 = .ok (.iconst 1, 1) := by decide +kernel
theorem dX8_over_111 : decode cX8_over 111 = .ok (.goto 4, 3) := by decide +kernel
theorem dX8_over_114 : decode cX8_over 114 = .ok (.iconst 0, 1) := by decide +kernel
theorem dX8_over_115 : decode cX8_over 115 = .ok (.istore 5, 2) := by decide +kernel
theorem dX8_over_117 : decode cX8_over 117 = .ok (.iinc 6 1, 3) := by decide +kernel
theorem dX8_over_120 : decode cX8_over 120 = .ok (.goto (-57), 3) := by decide +kernel
theorem dX8_over_123 : decode cX8_over 123 = .ok (.iload 5, 2) := by decide +kernel
theorem dX8_over_125 : decode cX8_over 125 = .ok (.ifCond .eq 6, 3) := by decide +kernel
theorem dX8_over_128 : decode cX8_over 128 = .ok (.iload 4, 2) := by decide +kernel
theorem dX8_over_130 : decode cX8_over 130 = .ok (.ireturn, 1) := by decide +kernel
theorem dX8_over_131 : decode cX8_over 131 = .ok (.iinc 4 (-1), 3) := by decide +kernel
theorem dX8_over_134 : decode cX8_over 134 = .ok (.goto (-82), 3) := by decide +kernel
theorem dX8_over_137 : decode cX8_over 137 = .ok (.iconst 0, 1) := by decide +kernel
theorem dX8_over_138 : decode cX8_over 138 = .ok (.ireturn, 1) := by decide +kernel
theorem dX8_endOf_0 : decode cX8_endOf 0 = .ok (.iload_n 1, 1) := by decide +kernel
theorem dX8_endOf_1 : decode cX8_endOf 1 = .ok (.iconst 3, 1) := by decide +kernel
theorem dX8_endOf_2 : decode cX8_endOf 2 = .ok (.if_icmp .ge 7, 3) := by decide +kernel
theorem dX8_endOf_5 : decode cX8_endOf 5 = .ok (.iload_n 1, 1) := by decide +kernel
theorem dX8_endOf_6 : decode cX8_endOf 6 = .ok (.goto 4, 3) := by decide +kernel
theorem dX8_endOf_9 : decode cX8_endOf 9 = .ok (.iconst 3, 1) := by decide +kernel
theorem dX8_endOf_10 : decode cX8_endOf 10 = .ok (.istore_n 2, 1) := by decide +kernel
theorem dX8_endOf_11 : decode cX8_endOf 11 = .ok (.iload_n 2, 1) := by decide +kernel
theorem dX8_endOf_12 : decode cX8_endOf 12 = .ok (.ifCond .ne 7, 3) := by decide +kernel
theorem dX8_endOf_15 : decode cX8_endOf 15 = .ok (.iconst 0, 1) := by decide +kernel
theorem dX8_endOf_16 : decode cX8_endOf 16 = .ok (.goto 23, 3) := by decide +kernel
theorem dX8_endOf_19 : decode cX8_endOf 19 = .ok (.iload_n 2, 1) := by decide +kernel
theorem dX8_endOf_20 : decode cX8_endOf 20 = .ok (.iconst 1, 1) := by decide +kernel
theorem dX8_endOf_21 : decode cX8_endOf 21 = .ok (.if_icmp .ne 7, 3) := by decide +kernel
theorem dX8_endOf_24 : decode cX8_endOf 24 = .ok (.iconst 1, 1) := by decide +kernel
theorem dX8_endOf_25 : decode cX8_endOf 25 = .ok (.goto 14, 3) := by decide +kernel
theorem dX8_endOf_28 : decode cX8_endOf 28 = .ok (.iload_n 2, 1) := by decide +kernel
theorem dX8_endOf_29 : decode cX8_endOf 29 = .ok (.iconst 2, 1) := by decide +kernel
theorem dX8_endOf_30 : decode cX8_endOf 30 = .ok (.if_icmp .ne 7, 3) := by decide +kernel
theorem dX8_endOf_33 : decode cX8_endOf 33 = .ok (.iconst 4, 1) := by decide +kernel
theorem dX8_endOf_34 : decode cX8_endOf 34 = .ok (.goto 5, 3) := by decide +kernel
theorem dX8_endOf_37 : decode cX8_endOf 37 = .ok (.bipush 13, 2) := by decide +kernel
theorem dX8_endOf_39 : decode cX8_endOf 39 = .ok (.istore_n 3, 1) := by decide +kernel
theorem dX8_endOf_40 : decode cX8_endOf 40 = .ok (.iconst 0, 1) := by decide +kernel
theorem dX8_endOf_41 : decode cX8_endOf 41 = .ok (.istore 4, 2) := by decide +kernel
theorem dX8_endOf_43 : decode cX8_endOf 43 = .ok (.iload_n 1, 1) := by decide +kernel
theorem dX8_endOf_44 : decode cX8_endOf 44 = .ok (.iload_n 2, 1) := by decide +kernel
theorem dX8_endOf_45 : decode cX8_endOf 45 = .ok (.isub, 1) := by decide +kernel
theorem dX8_endOf_46 : decode cX8_endOf 46 = .ok (.istore 5, 2) := by decide +kernel
theorem dX8_endOf_48 : decode cX8_endOf 48 = .ok (.iload 5, 2) := by decide +kernel
theorem dX8_endOf_50 : decode cX8_endOf 50 = .ok (.iload_n 1, 1) := by decide +kernel
theorem dX8_endOf_51 : decode cX8_endOf 51 = .ok (.if_icmp .ge 23, 3) := by decide +kernel
theorem dX8_endOf_54 : decode cX8_endOf 54 = .ok (.iconst 3, 1) := by decide +kernel
theorem dX8_endOf_55 : decode cX8_endOf 55 = .ok (.iload 4, 2) := by decide +kernel
theorem dX8_endOf_57 : decode cX8_endOf 57 = .ok (.imul, 1) := by decide +kernel
theorem dX8_endOf_58 : decode cX8_endOf 58 = .ok (.aload_n 0, 1) := by decide +kernel
theorem dX8_endOf_59 : decode cX8_endOf 59 = .ok (.getfield 40, 3) := by decide +kernel
theorem dX8_endOf_62 : decode cX8_endOf 62 = .ok (.iload 5, 2) := by decide +kernel
theorem dX8_endOf_64 : decode cX8_endOf 64 = .ok (.iaload, 1) := by decide +kernel
theorem dX8_endOf_65 : decode cX8_endOf 65 = .ok (.iadd, 1) := by decide +kernel
theorem dX8_endOf_66 : decode cX8_endOf 66 = .ok (.istore 4, 2) := by decide +kernel
theorem dX8_endOf_68 : decode cX8_endOf 68 = .ok (.iinc 5 1, 3) := by decide +kernel
theorem dX8_endOf_71 : decode cX8_endOf 71 = .ok (.goto (-23), 3) := by decide +kernel
theorem dX8_endOf_74 : decode cX8_endOf 74 = .ok (.iload_n 3, 1) := by decide +kernel
theorem dX8_endOf_75 : decode cX8_endOf 75 = .ok (.iload 4, 2) := by decide +kernel
theorem dX8_endOf_77 : decode cX8_endOf 77 = .ok (.iadd, 1) := by decide +kernel
theorem dX8_endOf_78 : decode cX8_endOf 78 = .ok (.ireturn, 1) := by decide +kernel
theorem dX8_findNext_0 : decode cX8_findNext 0 = .ok (.iconst 0, 1) := by decide +kernel
theorem dX8_findNext_1 : decode cX8_findNext 1 = .ok (.istore_n 1, 1) := by decide +kernel
theorem dX8_findNext_2 : decode cX8_findNext 2 = .ok (.iload_n 1, 1) := by decide +kernel
theorem dX8_findNext_3 : decode cX8_findNext 3 = .ok (.bipush 40, 2) := by decide +kernel
theorem dX8_findNext_5 : decode cX8_findNext 5 = .ok (.if_icmp .ge 158, 3) := by decide +kernel
theorem dX8_findNext_8 : decode cX8_findNext 8 = .ok (.iload_n 1, 1) := by decide +kernel
theorem dX8_findNext_9 : decode cX8_findNext 9 = .ok (.ifCond .ne 7, 3) := by decide +kernel
theorem dX8_findNext_12 : decode cX8_findNext 12 = .ok (.iconst 0, 1) := by decide +kernel
theorem dX8_findNext_13 : decode cX8_findNext 13 = .ok (.goto 23, 3) := by decide +kernel
theorem dX8_findNext_16 : decode cX8_findNext 16 = .ok (.iload_n 1, 1) := by decide +kernel
theorem dX8_findNext_17 : decode cX8_findNext 17 = .ok (.iconst 4, 1) := by decide +kernel
theorem dX8_findNext_18 : decode cX8_findNext 18 = .ok (.if_icmp .ge 7, 3) := by decide +kernel
theorem dX8_findNext_21 : decode cX8_findNext 21 = .ok (.iconst 1, 1) := by decide +kernel
theorem dX8_findNext_22 : decode cX8_findNext 22 = .ok (.goto 14, 3) := by decide +kernel
theorem dX8_findNext_25 : decode cX8_findNext 25 = .ok (.iload_n 1, 1) := by decide +kernel
theorem dX8_findNext_26 : decode cX8_findNext 26 = .ok (.bipush 13, 2) := by decide +kernel
theorem dX8_findNext_28 : decode cX8_findNext 28 = .ok (.if_icmp .ge 7, 3) := by decide +kernel
theorem dX8_findNext_31 : decode cX8_findNext 31 = .ok (.iconst 2, 1) := by decide +kernel
theorem dX8_findNext_32 : decode cX8_findNext 32 = .ok (.goto 4, 3) := by decide +kernel
theorem dX8_findNext_35 : decode cX8_findNext 35 = .ok (.iconst 3, 1) := by decide +kernel
theorem dX8_findNext_36 : decode cX8_findNext 36 = .ok (.istore_n 2, 1) := by decide +kernel
theorem dX8_findNext_37 : decode cX8_findNext 37 = .ok (.iload_n 1, 1) := by decide +kernel
theorem dX8_findNext_38 : decode cX8_findNext 38 = .ok (.iload_n 2, 1) := by decide +kernel
theorem dX8_findNext_39 : decode cX8_findNext 39 = .ok (.ifCond .ne 7, 3) := by decide +kernel
theorem dX8_findNext_42 : decode cX8_findNext 42 = .ok (.iconst 0, 1) := by decide +kernel
theorem dX8_findNext_43 : decode cX8_findNext 43 = .ok (.goto 23, 3) := by decide +kernel
theorem dX8_findNext_46 : decode cX8_findNext 46 = .ok (.iload_n 2, 1) := by decide +kernel
theorem dX8_findNext_47 : decode cX8_findNext 47 = .ok (.iconst 1, 1) := by decide +kernel
theorem dX8_findNext_48 : decode cX8_findNext 48 = .ok (.if_icmp .ne 7, 3) := by decide +kernel
theorem dX8_findNext_51 : decode cX8_findNext 51 = .ok (.iconst 1, 1) := by decide +kernel
theorem dX8_findNext_52 : decode cX8_findNext 52 = .ok (.goto 14, 3) := by decide +kernel
theorem dX8_findNext_55 : decode cX8_findNext 55 = .ok (.iload_n 2, 1) := by decide +kernel
theorem dX8_findNext_56 : decode cX8_findNext 56 = .ok (.iconst 2, 1) := by decide +kernel
theorem dX8_findNext_57 : decode cX8_findNext 57 = .ok (.if_icmp .ne 7, 3) := by decide +kernel
theorem dX8_findNext_60 : decode cX8_findNext 60 = .ok (.iconst 4, 1) := by decide +kernel
theorem dX8_findNext_61 : decode cX8_findNext 61 = .ok (.goto 5, 3) := by decide +kernel
theorem dX8_findNext_64 : decode cX8_findNext 64 = .ok (.bipush 13, 2) := by decide +kernel
theorem dX8_findNext_66 : decode cX8_findNext 66 = .ok (.isub, 1) := by decide +kernel
theorem dX8_findNext_67 : decode cX8_findNext 67 = .ok (.istore_n 3, 1) := by decide +kernel
theorem dX8_findNext_68 : decode cX8_findNext 68 = .ok (.iload_n 2, 1) := by decide +kernel
theorem dX8_findNext_69 : decode cX8_findNext 69 = .ok (.iconst 1, 1) := by decide +kernel
theorem dX8_findNext_70 : decode cX8_findNext 70 = .ok (.isub, 1) := by decide +kernel
theorem dX8_findNext_71 : decode cX8_findNext 71 = .ok (.istore 4, 2) := by decide +kernel
theorem dX8_findNext_73 : decode cX8_findNext 73 = .ok (.iload 4, 2) := by decide +kernel
theorem dX8_findNext_75 : decode cX8_findNext 75 = .ok (.ifCond .lt 23, 3) := by decide +kernel
theorem dX8_findNext_78 : decode cX8_findNext 78 = .ok (.aload_n 0, 1) := by decide +kernel
theorem dX8_findNext_79 : decode cX8_findNext 79 = .ok (.getfield 40, 3) := by decide +kernel
theorem dX8_findNext_82 : decode cX8_findNext 82 = .ok (.iload 4, 2) := by decide +kernel
theorem dX8_findNext_84 : decode cX8_findNext 84 = .ok (.iload_n 3, 1) := by decide +kernel
theorem dX8_findNext_85 : decode cX8_findNext 85 = .ok (.iconst 3, 1) := by decide +kernel
theorem dX8_findNext_86 : decode cX8_findNext 86 = .ok (.irem, 1) := by decide +kernel
theorem dX8_findNext_87 : decode cX8_findNext 87 = .ok (.iastore, 1) := by decide +kernel
theorem dX8_findNext_88 : decode cX8_findNext 88 = .ok (.iload_n 3, 1) := by decide +kernel
theorem dX8_findNext_89 : decode cX8_findNext 89 = .ok (.iconst 3, 1) := by decide +kernel
theorem dX8_findNext_90 : decode cX8_findNext 90 = .ok (.idiv, 1) := by decide +kernel
theorem dX8_findNext_91 : decode cX8_findNext 91 = .ok (.istore_n 3, 1) := by decide +kernel
theorem dX8_findNext_92 : decode cX8_findNext 92 = .ok (.iinc 4 (-1), 3) := by decide +kernel
theorem dX8_findNext_95 : decode cX8_findNext 95 = .ok (.goto (-22), 3) := by decide +kernel
theorem dX8_findNext_98 : decode cX8_findNext 98 = .ok (.iconst 0, 1) := by decide +kernel
theorem dX8_findNext_99 : decode cX8_findNext 99 = .ok (.istore 4, 2) := by decide +kernel
theorem dX8_findNext_101 : decode cX8_findNext 101 = .ok (.iload 4, 2) := by decide +kernel
theorem dX8_findNext_103 : decode cX8_findNext 103 = .ok (.iconst 3, 1) := by decide +kernel
theorem dX8_findNext_104 : decode cX8_findNext 104 = .ok (.if_icmp .ge 53, 3) := by decide +kernel
theorem dX8_findNext_107 : decode cX8_findNext 107 = .ok (.aload_n 0, 1) := by decide +kernel
theorem dX8_findNext_108 : decode cX8_findNext 108 = .ok (.getfield 40, 3) := by decide +kernel
theorem dX8_findNext_111 : decode cX8_findNext 111 = .ok (.iload_n 2, 1) := by decide +kernel
theorem dX8_findNext_112 : decode cX8_findNext 112 = .ok (.iload 4, 2) := by decide +kernel
theorem dX8_findNext_114 : decode cX8_findNext 114 = .ok (.iastore, 1) := by decide +kernel
theorem dX8_findNext_115 : decode cX8_findNext 115 = .ok (.aload_n 0, 1) := by decide +kernel
theorem dX8_findNext_116 : decode cX8_findNext 116 = .ok (.getfield 43, 3) := by decide +kernel
theorem dX8_findNext_119 : decode cX8_findNext 119 = .ok (.iconst 3, 1) := by decide +kernel
theorem dX8_findNext_120 : decode cX8_findNext 120 = .ok (.iload_n 1, 1) := by decide +kernel
theorem dX8_findNext_121 : decode cX8_findNext 121 = .ok (.imul, 1) := by decide +kernel
theorem dX8_findNext_122 : decode cX8_findNext 122 = .ok (.iload 4, 2) := by decide +kernel
theorem dX8_findNext_124 : decode cX8_findNext 124 = .ok (.iadd, 1) := by decide +kernel
theorem dX8_findNext_125 : decode cX8_findNext 125 = .ok (.aload_n 0, 1) := by decide +kernel
theorem dX8_findNext_126 : decode cX8_findNext 126 = .ok (.iload_n 2, 1) := by decide +kernel
theorem dX8_findNext_127 : decode cX8_findNext 127 = .ok (.iconst 1, 1) := by decide +kernel
theorem dX8_findNext_128 : decode cX8_findNext 128 = .ok (.iadd, 1) := by decide +kernel
theorem dX8_findNext_129 : decode cX8_findNext 129 = .ok (.invokevirtual 169, 3) := by decide +kernel
theorem dX8_findNext_132 : decode cX8_findNext 132 = .ok (.iastore, 1) := by decide +kernel
theorem dX8_findNext_133 : decode cX8_findNext 133 = .ok (.aload_n 0, 1) := by decide +kernel
theorem dX8_findNext_134 : decode cX8_findNext 134 = .ok (.getfield 46, 3) := by decide +kernel
theorem dX8_findNext_137 : decode cX8_findNext 137 = .ok (.iconst 3, 1) := by decide +kernel
theorem dX8_findNext_138 : decode cX8_findNext 138 = .ok (.iload_n 1, 1) := by decide +kernel
theorem dX8_findNext_139 : decode cX8_findNext 139 = .ok (.imul, 1) := by decide +kernel
theorem dX8_findNext_140 : decode cX8_findNext 140 = .ok (.iload 4, 2) := by decide +kernel
theorem dX8_findNext_142 : decode cX8_findNext 142 = .ok (.iadd, 1) := by decide +kernel
theorem dX8_findNext_143 : decode cX8_findNext 143 = .ok (.aload_n 0, 1) := by decide +kernel
theorem dX8_findNext_144 : decode cX8_findNext 144 = .ok (.iload_n 2, 1) := by decide +kernel
theorem dX8_findNext_145 : decode cX8_findNext 145 = .ok (.iconst 1, 1) := by decide +kernel
theorem dX8_findNext_146 : decode cX8_findNext 146 = .ok (.iadd, 1) := by decide +kernel
theorem dX8_findNext_147 : decode cX8_findNext 147 = .ok (.invokevirtual 148, 3) := by decide +kernel
theorem dX8_findNext_150 : decode cX8_findNext 150 = .ok (.iastore, 1) := by decide +kernel
theorem dX8_findNext_151 : decode cX8_findNext 151 = .ok (.iinc 4 1, 3) := by decide +kernel
theorem dX8_findNext_154 : decode cX8_findNext 154 = .ok (.goto (-53), 3) := by decide +kernel
theorem dX8_findNext_157 : decode cX8_findNext 157 = .ok (.iinc 1 1, 3) := by decide +kernel
theorem dX8_findNext_160 : decode cX8_findNext 160 = .ok (.goto (-158), 3) := by decide +kernel
theorem dX8_findNext_163 : decode cX8_findNext 163 = .ok (.return_, 1) := by decide +kernel
theorem dX8_allWords_0 : decode cX8_allWords 0 = .ok (.iconst 1, 1) := by decide +kernel
theorem dX8_allWords_1 : decode cX8_allWords 1 = .ok (.aload_n 0, 1) := by decide +kernel
theorem dX8_allWords_2 : decode cX8_allWords 2 = .ok (.getfield 87, 3) := by decide +kernel
theorem dX8_allWords_5 : decode cX8_allWords 5 = .ok (.ishl, 1) := by decide +kernel
theorem dX8_allWords_6 : decode cX8_allWords 6 = .ok (.iconst 1, 1) := by decide +kernel
theorem dX8_allWords_7 : decode cX8_allWords 7 = .ok (.isub, 1) := by decide +kernel
theorem dX8_allWords_8 : decode cX8_allWords 8 = .ok (.ireturn, 1) := by decide +kernel
theorem dX8_findFar_0 : decode cX8_findFar 0 = .ok (.aload_n 0, 1) := by decide +kernel
theorem dX8_findFar_1 : decode cX8_findFar 1 = .ok (.invokevirtual 172, 3) := by decide +kernel
theorem dX8_findFar_4 : decode cX8_findFar 4 = .ok (.iconst 0, 1) := by decide +kernel
theorem dX8_findFar_5 : decode cX8_findFar 5 = .ok (.istore_n 1, 1) := by decide +kernel
theorem dX8_findFar_6 : decode cX8_findFar 6 = .ok (.iload_n 1, 1) := by decide +kernel
theorem dX8_findFar_7 : decode cX8_findFar 7 = .ok (.sipush 640, 3) := by decide +kernel
theorem dX8_findFar_10 : decode cX8_findFar 10 = .ok (.if_icmp .ge 32, 3) := by decide +kernel
theorem dX8_findFar_13 : decode cX8_findFar 13 = .ok (.aload_n 0, 1) := by decide +kernel
theorem dX8_findFar_14 : decode cX8_findFar 14 = .ok (.getfield 49, 3) := by decide +kernel
theorem dX8_findFar_17 : decode cX8_findFar 17 = .ok (.iload_n 1, 1) := by decide +kernel
theorem dX8_findFar_18 : decode cX8_findFar 18 = .ok (.iload_n 1, 1) := by decide +kernel
theorem dX8_findFar_19 : decode cX8_findFar 19 = .ok (.bipush 16, 2) := by decide +kernel
theorem dX8_findFar_21 : decode cX8_findFar 21 = .ok (.irem, 1) := by decide +kernel
theorem dX8_findFar_22 : decode cX8_findFar 22 = .ok (.aload_n 0, 1) := by decide +kernel
theorem dX8_findFar_23 : decode cX8_findFar 23 = .ok (.invokevirtual 175, 3) := by decide +kernel
theorem dX8_findFar_26 : decode cX8_findFar 26 = .ok (.if_icmp .ne 7, 3) := by decide +kernel
theorem dX8_findFar_29 : decode cX8_findFar 29 = .ok (.iconst 0, 1) := by decide +kernel
theorem dX8_findFar_30 : decode cX8_findFar 30 = .ok (.goto 5, 3) := by decide +kernel
theorem dX8_findFar_33 : decode cX8_findFar 33 = .ok (.bipush (-9), 2) := by decide +kernel
theorem dX8_findFar_35 : decode cX8_findFar 35 = .ok (.iastore, 1) := by decide +kernel
theorem dX8_findFar_36 : decode cX8_findFar 36 = .ok (.iinc 1 1, 3) := by decide +kernel
theorem dX8_findFar_39 : decode cX8_findFar 39 = .ok (.goto (-33), 3) := by decide +kernel
theorem dX8_findFar_42 : decode cX8_findFar 42 = .ok (.iconst 1, 1) := by decide +kernel
theorem dX8_findFar_43 : decode cX8_findFar 43 = .ok (.istore_n 1, 1) := by decide +kernel
theorem dX8_findFar_44 : decode cX8_findFar 44 = .ok (.iconst 1, 1) := by decide +kernel
theorem dX8_findFar_45 : decode cX8_findFar 45 = .ok (.istore_n 2, 1) := by decide +kernel
theorem dX8_findFar_46 : decode cX8_findFar 46 = .ok (.iload_n 1, 1) := by decide +kernel
theorem dX8_findFar_47 : decode cX8_findFar 47 = .ok (.ifCond .eq 79, 3) := by decide +kernel
theorem dX8_findFar_50 : decode cX8_findFar 50 = .ok (.iconst 0, 1) := by decide +kernel
theorem dX8_findFar_51 : decode cX8_findFar 51 = .ok (.istore_n 1, 1) := by decide +kernel
theorem dX8_findFar_52 : decode cX8_findFar 52 = .ok (.iconst 0, 1) := by decide +kernel
theorem dX8_findFar_53 : decode cX8_findFar 53 = .ok (.istore_n 3, 1) := by decide +kernel
theorem dX8_findFar_54 : decode cX8_findFar 54 = .ok (.iload_n 3, 1) := by decide +kernel
theorem dX8_findFar_55 : decode cX8_findFar 55 = .ok (.sipush 640, 3) := by decide +kernel
theorem dX8_findFar_58 : decode cX8_findFar 58 = .ok (.if_icmp .ge 62, 3) := by decide +kernel
theorem dX8_findFar_61 : decode cX8_findFar 61 = .ok (.iconst 0, 1) := by decide +kernel
theorem dX8_findFar_62 : decode cX8_findFar 62 = .ok (.istore 4, 2) := by decide +kernel
theorem dX8_findFar_64 : decode cX8_findFar 64 = .ok (.iload 4, 2) := by decide +kernel
theorem dX8_findFar_66 : decode cX8_findFar 66 = .ok (.iconst 3, 1) := by decide +kernel
theorem dX8_findFar_67 : decode cX8_findFar 67 = .ok (.if_icmp .ge 47, 3) := by decide +kernel
theorem dX8_findFar_70 : decode cX8_findFar 70 = .ok (.aload_n 0, 1) := by decide +kernel
theorem dX8_findFar_71 : decode cX8_findFar 71 = .ok (.getfield 49, 3) := by decide +kernel
theorem dX8_findFar_74 : decode cX8_findFar 74 = .ok (.iload_n 3, 1) := by decide +kernel
theorem dX8_findFar_75 : decode cX8_findFar 75 = .ok (.iaload, 1) := by decide +kernel
theorem dX8_findFar_76 : decode cX8_findFar 76 = .ok (.bipush (-9), 2) := by decide +kernel
theorem dX8_findFar_78 : decode cX8_findFar 78 = .ok (.if_icmp .ne 36, 3) := by decide +kernel
theorem dX8_findFar_81 : decode cX8_findFar 81 = .ok (.aload_n 0, 1) := by decide +kernel
theorem dX8_findFar_82 : decode cX8_findFar 82 = .ok (.getfield 49, 3) := by decide +kernel
theorem dX8_findFar_85 : decode cX8_findFar 85 = .ok (.aload_n 0, 1) := by decide +kernel
theorem dX8_findFar_86 : decode cX8_findFar 86 = .ok (.iload_n 3, 1) := by decide +kernel
theorem dX8_findFar_87 : decode cX8_findFar 87 = .ok (.iload 4, 2) := by decide +kernel
theorem dX8_findFar_89 : decode cX8_findFar 89 = .ok (.invokevirtual 178, 3) := by decide +kernel
theorem dX8_findFar_92 : decode cX8_findFar 92 = .ok (.iaload, 1) := by decide +kernel
theorem dX8_findFar_93 : decode cX8_findFar 93 = .ok (.iload_n 2, 1) := by decide +kernel
theorem dX8_findFar_94 : decode cX8_findFar 94 = .ok (.iconst 1, 1) := by decide +kernel
theorem dX8_findFar_95 : decode cX8_findFar 95 = .ok (.isub, 1) := by decide +kernel
theorem dX8_findFar_96 : decode cX8_findFar 96 = .ok (.if_icmp .ne 12, 3) := by decide +kernel
theorem dX8_findFar_99 : decode cX8_findFar 99 = .ok (.aload_n 0, 1) := by decide +kernel
theorem dX8_findFar_100 : decode cX8_findFar 100 = .ok (.getfield 49, 3) := by decide +kernel
theorem dX8_findFar_103 : decode cX8_findFar 103 = .ok (.iload_n 3, 1) := by decide +kernel
theorem dX8_findFar_104 : decode cX8_findFar 104 = .ok (.iload_n 2, 1) := by decide +kernel
theorem dX8_findFar_105 : decode cX8_findFar 105 = .ok (.iastore, 1) := by decide +kernel
theorem dX8_findFar_106 : decode cX8_findFar 106 = .ok (.iconst 1, 1) := by decide +kernel
theorem dX8_findFar_107 : decode cX8_findFar 107 = .ok (.istore_n 1, 1) := by decide +kernel
theorem dX8_findFar_108 : decode cX8_findFar 108 = .ok (.iinc 4 1, 3) := by decide +kernel
theorem dX8_findFar_111 : decode cX8_findFar 111 = .ok (.goto (-47), 3) := by decide +kernel
theorem dX8_findFar_114 : decode cX8_findFar 114 = .ok (.iinc 3 1, 3) := by decide +kernel
theorem dX8_findFar_117 : decode cX8_findFar 117 = .ok (.goto (-63), 3) := by decide +kernel
theorem dX8_findFar_120 : decode cX8_findFar 120 = .ok (.iinc 2 1, 3) := by decide +kernel
theorem dX8_findFar_123 : decode cX8_findFar 123 = .ok (.goto (-77), 3) := by decide +kernel
theorem dX8_findFar_126 : decode cX8_findFar 126 = .ok (.return_, 1) := by decide +kernel
theorem dX8_behindLetter_0 : decode cX8_behindLetter 0 = .ok (.iconst 3, 1) := by decide +kernel
theorem dX8_behindLetter_1 : decode cX8_behindLetter 1 = .ok (.iload_n 1, 1) := by decide +kernel
theorem dX8_behindLetter_2 : decode cX8_behindLetter 2 = .ok (.bipush 16, 2) := by decide +kernel
theorem dX8_behindLetter_4 : decode cX8_behindLetter 4 = .ok (.idiv, 1) := by decide +kernel
theorem dX8_behindLetter_5 : decode cX8_behindLetter 5 = .ok (.imul, 1) := by decide +kernel
theorem dX8_behindLetter_6 : decode cX8_behindLetter 6 = .ok (.iload_n 2, 1) := by decide +kernel
theorem dX8_behindLetter_7 : decode cX8_behindLetter 7 = .ok (.iadd, 1) := by decide +kernel
theorem dX8_behindLetter_8 : decode cX8_behindLetter 8 = .ok (.istore_n 3, 1) := by decide +kernel
theorem dX8_behindLetter_9 : decode cX8_behindLetter 9 = .ok (.bipush 16, 2) := by decide +kernel
theorem dX8_behindLetter_11 : decode cX8_behindLetter 11 = .ok (.aload_n 0, 1) := by decide +kernel
theorem dX8_behindLetter_12 : decode cX8_behindLetter 12 = .ok (.getfield 43, 3) := by decide +kernel
theorem dX8_behindLetter_15 : decode cX8_behindLetter 15 = .ok (.iload_n 3, 1) := by decide +kernel
theorem dX8_behindLetter_16 : decode cX8_behindLetter 16 = .ok (.iaload, 1) := by decide +kernel
theorem dX8_behindLetter_17 : decode cX8_behindLetter 17 = .ok (.imul, 1) := by decide +kernel
theorem dX8_behindLetter_18 : decode cX8_behindLetter 18 = .ok (.iload_n 1, 1) := by decide +kernel
theorem dX8_behindLetter_19 : decode cX8_behindLetter 19 = .ok (.bipush 16, 2) := by decide +kernel
theorem dX8_behindLetter_21 : decode cX8_behindLetter 21 = .ok (.irem, 1) := by decide +kernel
theorem dX8_behindLetter_22 : decode cX8_behindLetter 22 = .ok (.aload_n 0, 1) := by decide +kernel
theorem dX8_behindLetter_23 : decode cX8_behindLetter 23 = .ok (.getfield 46, 3) := by decide +kernel
theorem dX8_behindLetter_26 : decode cX8_behindLetter 26 = .ok (.iload_n 3, 1) := by decide +kernel
theorem dX8_behindLetter_27 : decode cX8_behindLetter 27 = .ok (.iaload, 1) := by decide +kernel
theorem dX8_behindLetter_28 : decode cX8_behindLetter 28 = .ok (.ior, 1) := by decide +kernel
theorem dX8_behindLetter_29 : decode cX8_behindLetter 29 = .ok (.iadd, 1) := by decide +kernel
theorem dX8_behindLetter_30 : decode cX8_behindLetter 30 = .ok (.ireturn, 1) := by decide +kernel
theorem dX8_all_0 : decode cX8_all 0 = .ok (.iload_n 1, 1) := by decide +kernel
theorem dX8_all_1 : decode cX8_all 1 = .ok (.iconst (-1), 1) := by decide +kernel
theorem dX8_all_2 : decode cX8_all 2 = .ok (.bipush 15, 2) := by decide +kernel
theorem dX8_all_4 : decode cX8_all 4 = .ok (.invokestatic 83, 3) := by decide +kernel
theorem dX8_all_7 : decode cX8_all 7 = .ok (.ifCond .ne 6, 3) := by decide +kernel
theorem dX8_all_10 : decode cX8_all 10 = .ok (.bipush (-2), 2) := by decide +kernel
theorem dX8_all_12 : decode cX8_all 12 = .ok (.ireturn, 1) := by decide +kernel
theorem dX8_all_13 : decode cX8_all 13 = .ok (.aload_n 0, 1) := by decide +kernel
theorem dX8_all_14 : decode cX8_all 14 = .ok (.getfield 87, 3) := by decide +kernel
theorem dX8_all_17 : decode cX8_all 17 = .ok (.ifCond .ne 6, 3) := by decide +kernel
theorem dX8_all_20 : decode cX8_all 20 = .ok (.bipush (-3), 2) := by decide +kernel
theorem dX8_all_22 : decode cX8_all 22 = .ok (.ireturn, 1) := by decide +kernel
theorem dX8_all_23 : decode cX8_all 23 = .ok (.aload_n 0, 1) := by decide +kernel
theorem dX8_all_24 : decode cX8_all 24 = .ok (.invokevirtual 182, 3) := by decide +kernel
theorem dX8_all_27 : decode cX8_all 27 = .ok (.iload_n 1, 1) := by decide +kernel
theorem dX8_all_28 : decode cX8_all 28 = .ok (.iconst (-1), 1) := by decide +kernel
theorem dX8_all_29 : decode cX8_all 29 = .ok (.if_icmp .ne 10, 3) := by decide +kernel
theorem dX8_all_32 : decode cX8_all 32 = .ok (.aload_n 0, 1) := by decide +kernel
theorem dX8_all_33 : decode cX8_all 33 = .ok (.getfield 49, 3) := by decide +kernel
theorem dX8_all_36 : decode cX8_all 36 = .ok (.iconst 0, 1) := by decide +kernel
theorem dX8_all_37 : decode cX8_all 37 = .ok (.iaload, 1) := by decide +kernel
theorem dX8_all_38 : decode cX8_all 38 = .ok (.ireturn, 1) := by decide +kernel
theorem dX8_all_39 : decode cX8_all 39 = .ok (.iload_n 1, 1) := by decide +kernel
theorem dX8_all_40 : decode cX8_all 40 = .ok (.aload_n 0, 1) := by decide +kernel
theorem dX8_all_41 : decode cX8_all 41 = .ok (.getfield 49, 3) := by decide +kernel
theorem dX8_all_44 : decode cX8_all 44 = .ok (.iconst 0, 1) := by decide +kernel
theorem dX8_all_45 : decode cX8_all 45 = .ok (.iaload, 1) := by decide +kernel
theorem dX8_all_46 : decode cX8_all 46 = .ok (.if_icmp .lt 6, 3) := by decide +kernel
theorem dX8_all_49 : decode cX8_all 49 = .ok (.bipush (-9), 2) := by decide +kernel
theorem dX8_all_51 : decode cX8_all 51 = .ok (.ireturn, 1) := by decide +kernel
theorem dX8_all_52 : decode cX8_all 52 = .ok (.iconst 0, 1) := by decide +kernel
theorem dX8_all_53 : decode cX8_all 53 = .ok (.istore_n 2, 1) := by decide +kernel
theorem dX8_all_54 : decode cX8_all 54 = .ok (.iconst 0, 1) := by decide +kernel
theorem dX8_all_55 : decode cX8_all 55 = .ok (.istore_n 3, 1) := by decide +kernel
theorem dX8_all_56 : decode cX8_all 56 = .ok (.iconst 0, 1) := by decide +kernel
theorem dX8_all_57 : decode cX8_all 57 = .ok (.istore 4, 2) := by decide +kernel
theorem dX8_all_59 : decode cX8_all 59 = .ok (.iload 4, 2) := by decide +kernel
theorem dX8_all_61 : decode cX8_all 61 = .ok (.iload_n 1, 1) := by decide +kernel
theorem dX8_all_62 : decode cX8_all 62 = .ok (.if_icmp .gt 46, 3) := by decide +kernel
theorem dX8_all_65 : decode cX8_all 65 = .ok (.iconst 0, 1) := by decide +kernel
theorem dX8_all_66 : decode cX8_all 66 = .ok (.istore_n 3, 1) := by decide +kernel
theorem dX8_all_67 : decode cX8_all 67 = .ok (.aload_n 0, 1) := by decide +kernel
theorem dX8_all_68 : decode cX8_all 68 = .ok (.getfield 49, 3) := by decide +kernel
theorem dX8_all_71 : decode cX8_all 71 = .ok (.aload_n 0, 1) := by decide +kernel
theorem dX8_all_72 : decode cX8_all 72 = .ok (.iload_n 2, 1) := by decide +kernel
theorem dX8_all_73 : decode cX8_all 73 = .ok (.iload_n 3, 1) := by decide +kernel
theorem dX8_all_74 : decode cX8_all 74 = .ok (.invokevirtual 178, 3) := by decide +kernel
theorem dX8_all_77 : decode cX8_all 77 = .ok (.iaload, 1) := by decide +kernel
theorem dX8_all_78 : decode cX8_all 78 = .ok (.aload_n 0, 1) := by decide +kernel
theorem dX8_all_79 : decode cX8_all 79 = .ok (.getfield 49, 3) := by decide +kernel
theorem dX8_all_82 : decode cX8_all 82 = .ok (.iload_n 2, 1) := by decide +kernel
theorem dX8_all_83 : decode cX8_all 83 = .ok (.iaload, 1) := by decide +kernel
theorem dX8_all_84 : decode cX8_all 84 = .ok (.iconst 1, 1) := by decide +kernel
theorem dX8_all_85 : decode cX8_all 85 = .ok (.isub, 1) := by decide +kernel
theorem dX8_all_86 : decode cX8_all 86 = .ok (.if_icmp .eq 9, 3) := by decide +kernel
theorem dX8_all_89 : decode cX8_all 89 = .ok (.iinc 3 1, 3) := by decide +kernel
theorem dX8_all_92 : decode cX8_all 92 = .ok (.goto (-25), 3) := by decide +kernel
theorem dX8_all_95 : decode cX8_all 95 = .ok (.aload_n 0, 1) := by decide +kernel
theorem dX8_all_96 : decode cX8_all 96 = .ok (.iload_n 2, 1) := by decide +kernel
theorem dX8_all_97 : decode cX8_all 97 = .ok (.iload_n 3, 1) := by decide +kernel
theorem dX8_all_98 : decode cX8_all 98 = .ok (.invokevirtual 178, 3) := by decide +kernel
theorem dX8_all_101 : decode cX8_all 101 = .ok (.istore_n 2, 1) := by decide +kernel
theorem dX8_all_102 : decode cX8_all 102 = .ok (.iinc 4 1, 3) := by decide +kernel
theorem dX8_all_105 : decode cX8_all 105 = .ok (.goto (-46), 3) := by decide +kernel
theorem dX8_all_108 : decode cX8_all 108 = .ok (.iload_n 3, 1) := by decide +kernel
theorem dX8_all_109 : decode cX8_all 109 = .ok (.ireturn, 1) := by decide +kernel
theorem dX8_findWays_0 : decode cX8_findWays 0 = .ok (.aload_n 0, 1) := by decide +kernel
theorem dX8_findWays_1 : decode cX8_findWays 1 = .ok (.invokevirtual 172, 3) := by decide +kernel
theorem dX8_findWays_4 : decode cX8_findWays 4 = .ok (.iconst 0, 1) := by decide +kernel
theorem dX8_findWays_5 : decode cX8_findWays 5 = .ok (.istore_n 2, 1) := by decide +kernel
theorem dX8_findWays_6 : decode cX8_findWays 6 = .ok (.iload_n 2, 1) := by decide +kernel
theorem dX8_findWays_7 : decode cX8_findWays 7 = .ok (.sipush 640, 3) := by decide +kernel
theorem dX8_findWays_10 : decode cX8_findWays 10 = .ok (.if_icmp .ge 24, 3) := by decide +kernel
theorem dX8_findWays_13 : decode cX8_findWays 13 = .ok (.aload_n 0, 1) := by decide +kernel
theorem dX8_findWays_14 : decode cX8_findWays 14 = .ok (.getfield 52, 3) := by decide +kernel
theorem dX8_findWays_17 : decode cX8_findWays 17 = .ok (.iload_n 2, 1) := by decide +kernel
theorem dX8_findWays_18 : decode cX8_findWays 18 = .ok (.iload_n 2, 1) := by decide +kernel
theorem dX8_findWays_19 : decode cX8_findWays 19 = .ok (.ifCond .ne 7, 3) := by decide +kernel
theorem dX8_findWays_22 : decode cX8_findWays 22 = .ok (.lconst 1, 1) := by decide +kernel
theorem dX8_findWays_23 : decode cX8_findWays 23 = .ok (.goto 4, 3) := by decide +kernel
theorem dX8_findWays_26 : decode cX8_findWays 26 = .ok (.lconst 0, 1) := by decide +kernel
theorem dX8_findWays_27 : decode cX8_findWays 27 = .ok (.lastore, 1) := by decide +kernel
theorem dX8_findWays_28 : decode cX8_findWays 28 = .ok (.iinc 2 1, 3) := by decide +kernel
theorem dX8_findWays_31 : decode cX8_findWays 31 = .ok (.goto (-25), 3) := by decide +kernel
theorem dX8_findWays_34 : decode cX8_findWays 34 = .ok (.iconst 0, 1) := by decide +kernel
theorem dX8_findWays_35 : decode cX8_findWays 35 = .ok (.istore_n 2, 1) := by decide +kernel
theorem dX8_findWays_36 : decode cX8_findWays 36 = .ok (.iload_n 2, 1) := by decide +kernel
theorem dX8_findWays_37 : decode cX8_findWays 37 = .ok (.iload_n 1, 1) := by decide +kernel
theorem dX8_findWays_38 : decode cX8_findWays 38 = .ok (.if_icmp .ge 120, 3) := by decide +kernel
theorem dX8_findWays_41 : decode cX8_findWays 41 = .ok (.iconst 0, 1) := by decide +kernel
theorem dX8_findWays_42 : decode cX8_findWays 42 = .ok (.istore_n 3, 1) := by decide +kernel
theorem dX8_findWays_43 : decode cX8_findWays 43 = .ok (.iload_n 3, 1) := by decide +kernel
theorem dX8_findWays_44 : decode cX8_findWays 44 = .ok (.sipush 640, 3) := by decide +kernel
theorem dX8_findWays_47 : decode cX8_findWays 47 = .ok (.if_icmp .ge 16, 3) := by decide +kernel
theorem dX8_findWays_50 : decode cX8_findWays 50 = .ok (.aload_n 0, 1) := by decide +kernel
theorem dX8_findWays_51 : decode cX8_findWays 51 = .ok (.getfield 56, 3) := by decide +kernel
theorem dX8_findWays_54 : decode cX8_findWays 54 = .ok (.iload_n 3, 1) := by decide +kernel
theorem dX8_findWays_55 : decode cX8_findWays 55 = .ok (.lconst 0, 1) := by decide +kernel
theorem dX8_findWays_56 : decode cX8_findWays 56 = .ok (.lastore, 1) := by decide +kernel
theorem dX8_findWays_57 : decode cX8_findWays 57 = .ok (.iinc 3 1, 3) := by decide +kernel
theorem dX8_findWays_60 : decode cX8_findWays 60 = .ok (.goto (-17), 3) := by decide +kernel
theorem dX8_findWays_63 : decode cX8_findWays 63 = .ok (.iconst 0, 1) := by decide +kernel
theorem dX8_findWays_64 : decode cX8_findWays 64 = .ok (.istore_n 3, 1) := by decide +kernel
theorem dX8_findWays_65 : decode cX8_findWays 65 = .ok (.iload_n 3, 1) := by decide +kernel
theorem dX8_findWays_66 : decode cX8_findWays 66 = .ok (.sipush 640, 3) := by decide +kernel
theorem dX8_findWays_69 : decode cX8_findWays 69 = .ok (.if_icmp .ge 56, 3) := by decide +kernel
theorem dX8_findWays_72 : decode cX8_findWays 72 = .ok (.iconst 0, 1) := by decide +kernel
theorem dX8_findWays_73 : decode cX8_findWays 73 = .ok (.istore 4, 2) := by decide +kernel
theorem dX8_findWays_75 : decode cX8_findWays 75 = .ok (.iload 4, 2) := by decide +kernel
theorem dX8_findWays_77 : decode cX8_findWays 77 = .ok (.iconst 3, 1) := by decide +kernel
end
section
theorem dX8_findWays_78 : decode cX8_findWays 78 = .ok (.if_icmp .ge 41, 3) := by decide +kernel
theorem dX8_findWays_81 : decode cX8_findWays 81 = .ok (.aload_n 0, 1) := by decide +kernel
theorem dX8_findWays_82 : decode cX8_findWays 82 = .ok (.getfield 52, 3) := by decide +kernel
theorem dX8_findWays_85 : decode cX8_findWays 85 = .ok (.iload_n 3, 1) := by decide +kernel
theorem dX8_findWays_86 : decode cX8_findWays 86 = .ok (.laload, 1) := by decide +kernel
theorem dX8_findWays_87 : decode cX8_findWays 87 = .ok (.lconst 0, 1) := by decide +kernel
theorem dX8_findWays_88 : decode cX8_findWays 88 = .ok (.lcmp, 1) := by decide +kernel
theorem dX8_findWays_89 : decode cX8_findWays 89 = .ok (.ifCond .le 30, 3) := by decide +kernel
theorem dX8_findWays_92 : decode cX8_findWays 92 = .ok (.aload_n 0, 1) := by decide +kernel
theorem dX8_findWays_93 : decode cX8_findWays 93 = .ok (.getfield 56, 3) := by decide +kernel
theorem dX8_findWays_96 : decode cX8_findWays 96 = .ok (.aload_n 0, 1) := by decide +kernel
theorem dX8_findWays_97 : decode cX8_findWays 97 = .ok (.iload_n 3, 1) := by decide +kernel
theorem dX8_findWays_98 : decode cX8_findWays 98 = .ok (.iload 4, 2) := by decide +kernel
theorem dX8_findWays_100 : decode cX8_findWays 100 = .ok (.invokevirtual 178, 3) := by decide +kernel
theorem dX8_findWays_103 : decode cX8_findWays 103 = .ok (.dup2, 1) := by decide +kernel
theorem dX8_findWays_104 : decode cX8_findWays 104 = .ok (.laload, 1) := by decide +kernel
theorem dX8_findWays_105 : decode cX8_findWays 105 = .ok (.aload_n 0, 1) := by decide +kernel
theorem dX8_findWays_106 : decode cX8_findWays 106 = .ok (.getfield 52, 3) := by decide +kernel
theorem dX8_findWays_109 : decode cX8_findWays 109 = .ok (.iload_n 3, 1) := by decide +kernel
theorem dX8_findWays_110 : decode cX8_findWays 110 = .ok (.laload, 1) := by decide +kernel
theorem dX8_findWays_111 : decode cX8_findWays 111 = .ok (.ladd, 1) := by decide +kernel
theorem dX8_findWays_112 : decode cX8_findWays 112 = .ok (.lastore, 1) := by decide +kernel
theorem dX8_findWays_113 : decode cX8_findWays 113 = .ok (.iinc 4 1, 3) := by decide +kernel
theorem dX8_findWays_116 : decode cX8_findWays 116 = .ok (.goto (-41), 3) := by decide +kernel
theorem dX8_findWays_119 : decode cX8_findWays 119 = .ok (.iinc 3 1, 3) := by decide +kernel
theorem dX8_findWays_122 : decode cX8_findWays 122 = .ok (.goto (-57), 3) := by decide +kernel
theorem dX8_findWays_125 : decode cX8_findWays 125 = .ok (.iconst 0, 1) := by decide +kernel
theorem dX8_findWays_126 : decode cX8_findWays 126 = .ok (.istore_n 3, 1) := by decide +kernel
theorem dX8_findWays_127 : decode cX8_findWays 127 = .ok (.iload_n 3, 1) := by decide +kernel
theorem dX8_findWays_128 : decode cX8_findWays 128 = .ok (.sipush 640, 3) := by decide +kernel
theorem dX8_findWays_131 : decode cX8_findWays 131 = .ok (.if_icmp .ge 21, 3) := by decide +kernel
theorem dX8_findWays_134 : decode cX8_findWays 134 = .ok (.aload_n 0, 1) := by decide +kernel
theorem dX8_findWays_135 : decode cX8_findWays 135 = .ok (.getfield 52, 3) := by decide +kernel
theorem dX8_findWays_138 : decode cX8_findWays 138 = .ok (.iload_n 3, 1) := by decide +kernel
theorem dX8_findWays_139 : decode cX8_findWays 139 = .ok (.aload_n 0, 1) := by decide +kernel
theorem dX8_findWays_140 : decode cX8_findWays 140 = .ok (.getfield 56, 3) := by decide +kernel
theorem dX8_findWays_143 : decode cX8_findWays 143 = .ok (.iload_n 3, 1) := by decide +kernel
theorem dX8_findWays_144 : decode cX8_findWays 144 = .ok (.laload, 1) := by decide +kernel
theorem dX8_findWays_145 : decode cX8_findWays 145 = .ok (.lastore, 1) := by decide +kernel
theorem dX8_findWays_146 : decode cX8_findWays 146 = .ok (.iinc 3 1, 3) := by decide +kernel
theorem dX8_findWays_149 : decode cX8_findWays 149 = .ok (.goto (-22), 3) := by decide +kernel
theorem dX8_findWays_152 : decode cX8_findWays 152 = .ok (.iinc 2 1, 3) := by decide +kernel
theorem dX8_findWays_155 : decode cX8_findWays 155 = .ok (.goto (-119), 3) := by decide +kernel
theorem dX8_findWays_158 : decode cX8_findWays 158 = .ok (.return_, 1) := by decide +kernel
theorem dX8_waysWith_0 : decode cX8_waysWith 0 = .ok (.lconst 0, 1) := by decide +kernel
theorem dX8_waysWith_1 : decode cX8_waysWith 1 = .ok (.lstore_n 2, 1) := by decide +kernel
theorem dX8_waysWith_2 : decode cX8_waysWith 2 = .ok (.iconst 0, 1) := by decide +kernel
theorem dX8_waysWith_3 : decode cX8_waysWith 3 = .ok (.istore 4, 2) := by decide +kernel
theorem dX8_waysWith_5 : decode cX8_waysWith 5 = .ok (.iload 4, 2) := by decide +kernel
theorem dX8_waysWith_7 : decode cX8_waysWith 7 = .ok (.bipush 40, 2) := by decide +kernel
theorem dX8_waysWith_9 : decode cX8_waysWith 9 = .ok (.if_icmp .ge 24, 3) := by decide +kernel
theorem dX8_waysWith_12 : decode cX8_waysWith 12 = .ok (.lload_n 2, 1) := by decide +kernel
theorem dX8_waysWith_13 : decode cX8_waysWith 13 = .ok (.aload_n 0, 1) := by decide +kernel
theorem dX8_waysWith_14 : decode cX8_waysWith 14 = .ok (.getfield 52, 3) := by decide +kernel
theorem dX8_waysWith_17 : decode cX8_waysWith 17 = .ok (.bipush 16, 2) := by decide +kernel
theorem dX8_waysWith_19 : decode cX8_waysWith 19 = .ok (.iload 4, 2) := by decide +kernel
theorem dX8_waysWith_21 : decode cX8_waysWith 21 = .ok (.imul, 1) := by decide +kernel
theorem dX8_waysWith_22 : decode cX8_waysWith 22 = .ok (.iload_n 1, 1) := by decide +kernel
theorem dX8_waysWith_23 : decode cX8_waysWith 23 = .ok (.iadd, 1) := by decide +kernel
theorem dX8_waysWith_24 : decode cX8_waysWith 24 = .ok (.laload, 1) := by decide +kernel
theorem dX8_waysWith_25 : decode cX8_waysWith 25 = .ok (.ladd, 1) := by decide +kernel
theorem dX8_waysWith_26 : decode cX8_waysWith 26 = .ok (.lstore_n 2, 1) := by decide +kernel
theorem dX8_waysWith_27 : decode cX8_waysWith 27 = .ok (.iinc 4 1, 3) := by decide +kernel
theorem dX8_waysWith_30 : decode cX8_waysWith 30 = .ok (.goto (-25), 3) := by decide +kernel
theorem dX8_waysWith_33 : decode cX8_waysWith 33 = .ok (.lload_n 2, 1) := by decide +kernel
theorem dX8_waysWith_34 : decode cX8_waysWith 34 = .ok (.lreturn, 1) := by decide +kernel
theorem dX8_have_0 : decode cX8_have 0 = .ok (.iload_n 1, 1) := by decide +kernel
theorem dX8_have_1 : decode cX8_have 1 = .ok (.iconst 0, 1) := by decide +kernel
theorem dX8_have_2 : decode cX8_have 2 = .ok (.bipush 30, 2) := by decide +kernel
theorem dX8_have_4 : decode cX8_have 4 = .ok (.invokestatic 83, 3) := by decide +kernel
theorem dX8_have_7 : decode cX8_have 7 = .ok (.ifCond .eq 10, 3) := by decide +kernel
theorem dX8_have_10 : decode cX8_have 10 = .ok (.aload_n 0, 1) := by decide +kernel
theorem dX8_have_11 : decode cX8_have 11 = .ok (.getfield 87, 3) := by decide +kernel
theorem dX8_have_14 : decode cX8_have 14 = .ok (.ifCond .ne 7, 3) := by decide +kernel
theorem dX8_have_17 : decode cX8_have 17 = .ok (.ldc2_w 81, 3) := by decide +kernel
theorem dX8_have_20 : decode cX8_have 20 = .ok (.lreturn, 1) := by decide +kernel
theorem dX8_have_21 : decode cX8_have 21 = .ok (.aload_n 0, 1) := by decide +kernel
theorem dX8_have_22 : decode cX8_have 22 = .ok (.iload_n 1, 1) := by decide +kernel
theorem dX8_have_23 : decode cX8_have 23 = .ok (.invokevirtual 185, 3) := by decide +kernel
theorem dX8_have_26 : decode cX8_have 26 = .ok (.aload_n 0, 1) := by decide +kernel
theorem dX8_have_27 : decode cX8_have 27 = .ok (.aload_n 0, 1) := by decide +kernel
theorem dX8_have_28 : decode cX8_have 28 = .ok (.invokevirtual 175, 3) := by decide +kernel
theorem dX8_have_31 : decode cX8_have 31 = .ok (.invokevirtual 189, 3) := by decide +kernel
theorem dX8_have_34 : decode cX8_have 34 = .ok (.lreturn, 1) := by decide +kernel
theorem dX8_free_0 : decode cX8_free 0 = .ok (.iload_n 1, 1) := by decide +kernel
theorem dX8_free_1 : decode cX8_free 1 = .ok (.iconst 0, 1) := by decide +kernel
theorem dX8_free_2 : decode cX8_free 2 = .ok (.bipush 30, 2) := by decide +kernel
theorem dX8_free_4 : decode cX8_free 4 = .ok (.invokestatic 83, 3) := by decide +kernel
theorem dX8_free_7 : decode cX8_free 7 = .ok (.ifCond .eq 10, 3) := by decide +kernel
theorem dX8_free_10 : decode cX8_free 10 = .ok (.aload_n 0, 1) := by decide +kernel
theorem dX8_free_11 : decode cX8_free 11 = .ok (.getfield 87, 3) := by decide +kernel
theorem dX8_free_14 : decode cX8_free 14 = .ok (.ifCond .ne 7, 3) := by decide +kernel
theorem dX8_free_17 : decode cX8_free 17 = .ok (.ldc2_w 81, 3) := by decide +kernel
theorem dX8_free_20 : decode cX8_free 20 = .ok (.lreturn, 1) := by decide +kernel
theorem dX8_free_21 : decode cX8_free 21 = .ok (.aload_n 0, 1) := by decide +kernel
theorem dX8_free_22 : decode cX8_free 22 = .ok (.iload_n 1, 1) := by decide +kernel
theorem dX8_free_23 : decode cX8_free 23 = .ok (.invokevirtual 185, 3) := by decide +kernel
theorem dX8_free_26 : decode cX8_free 26 = .ok (.aload_n 0, 1) := by decide +kernel
theorem dX8_free_27 : decode cX8_free 27 = .ok (.iconst 0, 1) := by decide +kernel
theorem dX8_free_28 : decode cX8_free 28 = .ok (.invokevirtual 189, 3) := by decide +kernel
theorem dX8_free_31 : decode cX8_free 31 = .ok (.lreturn, 1) := by decide +kernel
theorem dX8_longest_0 : decode cX8_longest 0 = .ok (.aload_n 0, 1) := by decide +kernel
theorem dX8_longest_1 : decode cX8_longest 1 = .ok (.getfield 87, 3) := by decide +kernel
theorem dX8_longest_4 : decode cX8_longest 4 = .ok (.ifCond .ne 6, 3) := by decide +kernel
theorem dX8_longest_7 : decode cX8_longest 7 = .ok (.bipush (-3), 2) := by decide +kernel
theorem dX8_longest_9 : decode cX8_longest 9 = .ok (.ireturn, 1) := by decide +kernel
theorem dX8_longest_10 : decode cX8_longest 10 = .ok (.aload_n 0, 1) := by decide +kernel
theorem dX8_longest_11 : decode cX8_longest 11 = .ok (.invokevirtual 172, 3) := by decide +kernel
theorem dX8_longest_14 : decode cX8_longest 14 = .ok (.iconst 0, 1) := by decide +kernel
theorem dX8_longest_15 : decode cX8_longest 15 = .ok (.istore_n 1, 1) := by decide +kernel
theorem dX8_longest_16 : decode cX8_longest 16 = .ok (.iload_n 1, 1) := by decide +kernel
theorem dX8_longest_17 : decode cX8_longest 17 = .ok (.bipush 40, 2) := by decide +kernel
theorem dX8_longest_19 : decode cX8_longest 19 = .ok (.if_icmp .ge 24, 3) := by decide +kernel
theorem dX8_longest_22 : decode cX8_longest 22 = .ok (.aload_n 0, 1) := by decide +kernel
theorem dX8_longest_23 : decode cX8_longest 23 = .ok (.getfield 59, 3) := by decide +kernel
theorem dX8_longest_26 : decode cX8_longest 26 = .ok (.iload_n 1, 1) := by decide +kernel
theorem dX8_longest_27 : decode cX8_longest 27 = .ok (.iload_n 1, 1) := by decide +kernel
theorem dX8_longest_28 : decode cX8_longest 28 = .ok (.ifCond .ne 7, 3) := by decide +kernel
theorem dX8_longest_31 : decode cX8_longest 31 = .ok (.iconst 1, 1) := by decide +kernel
theorem dX8_longest_32 : decode cX8_longest 32 = .ok (.goto 4, 3) := by decide +kernel
theorem dX8_longest_35 : decode cX8_longest 35 = .ok (.iconst 0, 1) := by decide +kernel
theorem dX8_longest_36 : decode cX8_longest 36 = .ok (.iastore, 1) := by decide +kernel
theorem dX8_longest_37 : decode cX8_longest 37 = .ok (.iinc 1 1, 3) := by decide +kernel
theorem dX8_longest_40 : decode cX8_longest 40 = .ok (.goto (-24), 3) := by decide +kernel
theorem dX8_longest_43 : decode cX8_longest 43 = .ok (.iconst 0, 1) := by decide +kernel
theorem dX8_longest_44 : decode cX8_longest 44 = .ok (.istore_n 1, 1) := by decide +kernel
theorem dX8_longest_45 : decode cX8_longest 45 = .ok (.iload_n 1, 1) := by decide +kernel
theorem dX8_longest_46 : decode cX8_longest 46 = .ok (.bipush 40, 2) := by decide +kernel
theorem dX8_longest_48 : decode cX8_longest 48 = .ok (.if_icmp .gt 18, 3) := by decide +kernel
theorem dX8_longest_51 : decode cX8_longest 51 = .ok (.aload_n 0, 1) := by decide +kernel
theorem dX8_longest_52 : decode cX8_longest 52 = .ok (.invokevirtual 193, 3) := by decide +kernel
theorem dX8_longest_55 : decode cX8_longest 55 = .ok (.ifCond .ne 5, 3) := by decide +kernel
theorem dX8_longest_58 : decode cX8_longest 58 = .ok (.iload_n 1, 1) := by decide +kernel
theorem dX8_longest_59 : decode cX8_longest 59 = .ok (.ireturn, 1) := by decide +kernel
theorem dX8_longest_60 : decode cX8_longest 60 = .ok (.iinc 1 1, 3) := by decide +kernel
theorem dX8_longest_63 : decode cX8_longest 63 = .ok (.goto (-18), 3) := by decide +kernel
theorem dX8_longest_66 : decode cX8_longest 66 = .ok (.bipush (-9), 2) := by decide +kernel
theorem dX8_longest_68 : decode cX8_longest 68 = .ok (.ireturn, 1) := by decide +kernel
theorem dX8_goesFree_0 : decode cX8_goesFree 0 = .ok (.iconst 0, 1) := by decide +kernel
theorem dX8_goesFree_1 : decode cX8_goesFree 1 = .ok (.istore_n 1, 1) := by decide +kernel
theorem dX8_goesFree_2 : decode cX8_goesFree 2 = .ok (.iload_n 1, 1) := by decide +kernel
theorem dX8_goesFree_3 : decode cX8_goesFree 3 = .ok (.bipush 40, 2) := by decide +kernel
theorem dX8_goesFree_5 : decode cX8_goesFree 5 = .ok (.if_icmp .ge 16, 3) := by decide +kernel
theorem dX8_goesFree_8 : decode cX8_goesFree 8 = .ok (.aload_n 0, 1) := by decide +kernel
theorem dX8_goesFree_9 : decode cX8_goesFree 9 = .ok (.getfield 62, 3) := by decide +kernel
theorem dX8_goesFree_12 : decode cX8_goesFree 12 = .ok (.iload_n 1, 1) := by decide +kernel
theorem dX8_goesFree_13 : decode cX8_goesFree 13 = .ok (.iconst 0, 1) := by decide +kernel
theorem dX8_goesFree_14 : decode cX8_goesFree 14 = .ok (.iastore, 1) := by decide +kernel
theorem dX8_goesFree_15 : decode cX8_goesFree 15 = .ok (.iinc 1 1, 3) := by decide +kernel
theorem dX8_goesFree_18 : decode cX8_goesFree 18 = .ok (.goto (-16), 3) := by decide +kernel
theorem dX8_goesFree_21 : decode cX8_goesFree 21 = .ok (.iconst 0, 1) := by decide +kernel
theorem dX8_goesFree_22 : decode cX8_goesFree 22 = .ok (.istore_n 1, 1) := by decide +kernel
theorem dX8_goesFree_23 : decode cX8_goesFree 23 = .ok (.iconst 0, 1) := by decide +kernel
theorem dX8_goesFree_24 : decode cX8_goesFree 24 = .ok (.istore_n 2, 1) := by decide +kernel
theorem dX8_goesFree_25 : decode cX8_goesFree 25 = .ok (.iload_n 2, 1) := by decide +kernel
theorem dX8_goesFree_26 : decode cX8_goesFree 26 = .ok (.bipush 120, 2) := by decide +kernel
theorem dX8_goesFree_28 : decode cX8_goesFree 28 = .ok (.if_icmp .ge 44, 3) := by decide +kernel
theorem dX8_goesFree_31 : decode cX8_goesFree 31 = .ok (.aload_n 0, 1) := by decide +kernel
theorem dX8_goesFree_32 : decode cX8_goesFree 32 = .ok (.getfield 59, 3) := by decide +kernel
theorem dX8_goesFree_35 : decode cX8_goesFree 35 = .ok (.iload_n 2, 1) := by decide +kernel
theorem dX8_goesFree_36 : decode cX8_goesFree 36 = .ok (.iconst 3, 1) := by decide +kernel
theorem dX8_goesFree_37 : decode cX8_goesFree 37 = .ok (.idiv, 1) := by decide +kernel
theorem dX8_goesFree_38 : decode cX8_goesFree 38 = .ok (.iaload, 1) := by decide +kernel
theorem dX8_goesFree_39 : decode cX8_goesFree 39 = .ok (.iconst 1, 1) := by decide +kernel
theorem dX8_goesFree_40 : decode cX8_goesFree 40 = .ok (.if_icmp .ne 26, 3) := by decide +kernel
theorem dX8_goesFree_43 : decode cX8_goesFree 43 = .ok (.aload_n 0, 1) := by decide +kernel
theorem dX8_goesFree_44 : decode cX8_goesFree 44 = .ok (.getfield 46, 3) := by decide +kernel
theorem dX8_goesFree_47 : decode cX8_goesFree 47 = .ok (.iload_n 2, 1) := by decide +kernel
theorem dX8_goesFree_48 : decode cX8_goesFree 48 = .ok (.iaload, 1) := by decide +kernel
theorem dX8_goesFree_49 : decode cX8_goesFree 49 = .ok (.ifCond .ne 17, 3) := by decide +kernel
theorem dX8_goesFree_52 : decode cX8_goesFree 52 = .ok (.aload_n 0, 1) := by decide +kernel
theorem dX8_goesFree_53 : decode cX8_goesFree 53 = .ok (.getfield 62, 3) := by decide +kernel
theorem dX8_goesFree_56 : decode cX8_goesFree 56 = .ok (.aload_n 0, 1) := by decide +kernel
theorem dX8_goesFree_57 : decode cX8_goesFree 57 = .ok (.getfield 43, 3) := by decide +kernel
theorem dX8_goesFree_60 : decode cX8_goesFree 60 = .ok (.iload_n 2, 1) := by decide +kernel
theorem dX8_goesFree_61 : decode cX8_goesFree 61 = .ok (.iaload, 1) := by decide +kernel
theorem dX8_goesFree_62 : decode cX8_goesFree 62 = .ok (.iconst 1, 1) := by decide +kernel
theorem dX8_goesFree_63 : decode cX8_goesFree 63 = .ok (.iastore, 1) := by decide +kernel
theorem dX8_goesFree_64 : decode cX8_goesFree 64 = .ok (.iconst 1, 1) := by decide +kernel
theorem dX8_goesFree_65 : decode cX8_goesFree 65 = .ok (.istore_n 1, 1) := by decide +kernel
theorem dX8_goesFree_66 : decode cX8_goesFree 66 = .ok (.iinc 2 1, 3) := by decide +kernel
theorem dX8_goesFree_69 : decode cX8_goesFree 69 = .ok (.goto (-44), 3) := by decide +kernel
theorem dX8_goesFree_72 : decode cX8_goesFree 72 = .ok (.iconst 0, 1) := by decide +kernel
theorem dX8_goesFree_73 : decode cX8_goesFree 73 = .ok (.istore_n 2, 1) := by decide +kernel
theorem dX8_goesFree_74 : decode cX8_goesFree 74 = .ok (.iload_n 2, 1) := by decide +kernel
theorem dX8_goesFree_75 : decode cX8_goesFree 75 = .ok (.bipush 40, 2) := by decide +kernel
theorem dX8_goesFree_77 : decode cX8_goesFree 77 = .ok (.if_icmp .ge 21, 3) := by decide +kernel
theorem dX8_goesFree_80 : decode cX8_goesFree 80 = .ok (.aload_n 0, 1) := by decide +kernel
theorem dX8_goesFree_81 : decode cX8_goesFree 81 = .ok (.getfield 59, 3) := by decide +kernel
theorem dX8_goesFree_84 : decode cX8_goesFree 84 = .ok (.iload_n 2, 1) := by decide +kernel
theorem dX8_goesFree_85 : decode cX8_goesFree 85 = .ok (.aload_n 0, 1) := by decide +kernel
theorem dX8_goesFree_86 : decode cX8_goesFree 86 = .ok (.getfield 62, 3) := by decide +kernel
theorem dX8_goesFree_89 : decode cX8_goesFree 89 = .ok (.iload_n 2, 1) := by decide +kernel
theorem dX8_goesFree_90 : decode cX8_goesFree 90 = .ok (.iaload, 1) := by decide +kernel
theorem dX8_goesFree_91 : decode cX8_goesFree 91 = .ok (.iastore, 1) := by decide +kernel
theorem dX8_goesFree_92 : decode cX8_goesFree 92 = .ok (.iinc 2 1, 3) := by decide +kernel
theorem dX8_goesFree_95 : decode cX8_goesFree 95 = .ok (.goto (-21), 3) := by decide +kernel
theorem dX8_goesFree_98 : decode cX8_goesFree 98 = .ok (.iload_n 1, 1) := by decide +kernel
theorem dX8_goesFree_99 : decode cX8_goesFree 99 = .ok (.ireturn, 1) := by decide +kernel
theorem dX8_isIn_0 : decode cX8_isIn 0 = .ok (.iconst 0, 1) := by decide +kernel
theorem dX8_isIn_1 : decode cX8_isIn 1 = .ok (.istore_n 3, 1) := by decide +kernel
theorem dX8_isIn_2 : decode cX8_isIn 2 = .ok (.iload_n 3, 1) := by decide +kernel
theorem dX8_isIn_3 : decode cX8_isIn 3 = .ok (.iconst 2, 1) := by decide +kernel
theorem dX8_isIn_4 : decode cX8_isIn 4 = .ok (.if_icmp .ge 62, 3) := by decide +kernel
theorem dX8_isIn_7 : decode cX8_isIn 7 = .ok (.aload_n 0, 1) := by decide +kernel
theorem dX8_isIn_8 : decode cX8_isIn 8 = .ok (.aload_n 0, 1) := by decide +kernel
theorem dX8_isIn_9 : decode cX8_isIn 9 = .ok (.getfield 22, 3) := by decide +kernel
theorem dX8_isIn_12 : decode cX8_isIn 12 = .ok (.iload_n 2, 1) := by decide +kernel
theorem dX8_isIn_13 : decode cX8_isIn 13 = .ok (.iaload, 1) := by decide +kernel
theorem dX8_isIn_14 : decode cX8_isIn 14 = .ok (.putfield 133, 3) := by decide +kernel
theorem dX8_isIn_17 : decode cX8_isIn 17 = .ok (.iconst 0, 1) := by decide +kernel
theorem dX8_isIn_18 : decode cX8_isIn 18 = .ok (.istore 4, 2) := by decide +kernel
theorem dX8_isIn_20 : decode cX8_isIn 20 = .ok (.iload 4, 2) := by decide +kernel
theorem dX8_isIn_22 : decode cX8_isIn 22 = .ok (.aload_n 0, 1) := by decide +kernel
theorem dX8_isIn_23 : decode cX8_isIn 23 = .ok (.getfield 133, 3) := by decide +kernel
theorem dX8_isIn_26 : decode cX8_isIn 26 = .ok (.if_icmp .ge 24, 3) := by decide +kernel
theorem dX8_isIn_29 : decode cX8_isIn 29 = .ok (.aload_n 0, 1) := by decide +kernel
theorem dX8_isIn_30 : decode cX8_isIn 30 = .ok (.getfield 40, 3) := by decide +kernel
theorem dX8_isIn_33 : decode cX8_isIn 33 = .ok (.iload 4, 2) := by decide +kernel
theorem dX8_isIn_35 : decode cX8_isIn 35 = .ok (.aload_n 0, 1) := by decide +kernel
theorem dX8_isIn_36 : decode cX8_isIn 36 = .ok (.iload_n 2, 1) := by decide +kernel
theorem dX8_isIn_37 : decode cX8_isIn 37 = .ok (.iload_n 3, 1) := by decide +kernel
theorem dX8_isIn_38 : decode cX8_isIn 38 = .ok (.iload 4, 2) := by decide +kernel
theorem dX8_isIn_40 : decode cX8_isIn 40 = .ok (.invokevirtual 126, 3) := by decide +kernel
theorem dX8_isIn_43 : decode cX8_isIn 43 = .ok (.iastore, 1) := by decide +kernel
theorem dX8_isIn_44 : decode cX8_isIn 44 = .ok (.iinc 4 1, 3) := by decide +kernel
theorem dX8_isIn_47 : decode cX8_isIn 47 = .ok (.goto (-27), 3) := by decide +kernel
theorem dX8_isIn_50 : decode cX8_isIn 50 = .ok (.aload_n 0, 1) := by decide +kernel
theorem dX8_isIn_51 : decode cX8_isIn 51 = .ok (.iload_n 1, 1) := by decide +kernel
theorem dX8_isIn_52 : decode cX8_isIn 52 = .ok (.invokevirtual 136, 3) := by decide +kernel
theorem dX8_isIn_55 : decode cX8_isIn 55 = .ok (.ifCond .ne 5, 3) := by decide +kernel
theorem dX8_isIn_58 : decode cX8_isIn 58 = .ok (.iconst 0, 1) := by decide +kernel
theorem dX8_isIn_59 : decode cX8_isIn 59 = .ok (.ireturn, 1) := by decide +kernel
theorem dX8_isIn_60 : decode cX8_isIn 60 = .ok (.iinc 3 1, 3) := by decide +kernel
theorem dX8_isIn_63 : decode cX8_isIn 63 = .ok (.goto (-61), 3) := by decide +kernel
theorem dX8_isIn_66 : decode cX8_isIn 66 = .ok (.iconst 1, 1) := by decide +kernel
theorem dX8_isIn_67 : decode cX8_isIn 67 = .ok (.ireturn, 1) := by decide +kernel
theorem dX8_spare_0 : decode cX8_spare 0 = .ok (.aload_n 0, 1) := by decide +kernel
theorem dX8_spare_1 : decode cX8_spare 1 = .ok (.getfield 87, 3) := by decide +kernel
theorem dX8_spare_4 : decode cX8_spare 4 = .ok (.ifCond .ne 6, 3) := by decide +kernel
theorem dX8_spare_7 : decode cX8_spare 7 = .ok (.bipush (-3), 2) := by decide +kernel
theorem dX8_spare_9 : decode cX8_spare 9 = .ok (.ireturn, 1) := by decide +kernel
theorem dX8_spare_10 : decode cX8_spare 10 = .ok (.iconst 0, 1) := by decide +kernel
theorem dX8_spare_11 : decode cX8_spare 11 = .ok (.istore_n 1, 1) := by decide +kernel
theorem dX8_spare_12 : decode cX8_spare 12 = .ok (.iconst 0, 1) := by decide +kernel
theorem dX8_spare_13 : decode cX8_spare 13 = .ok (.istore_n 2, 1) := by decide +kernel
theorem dX8_spare_14 : decode cX8_spare 14 = .ok (.iload_n 2, 1) := by decide +kernel
theorem dX8_spare_15 : decode cX8_spare 15 = .ok (.aload_n 0, 1) := by decide +kernel
theorem dX8_spare_16 : decode cX8_spare 16 = .ok (.getfield 87, 3) := by decide +kernel
theorem dX8_spare_19 : decode cX8_spare 19 = .ok (.if_icmp .ge 49, 3) := by decide +kernel
theorem dX8_spare_22 : decode cX8_spare 22 = .ok (.iconst 0, 1) := by decide +kernel
theorem dX8_spare_23 : decode cX8_spare 23 = .ok (.istore_n 3, 1) := by decide +kernel
theorem dX8_spare_24 : decode cX8_spare 24 = .ok (.iload_n 3, 1) := by decide +kernel
theorem dX8_spare_25 : decode cX8_spare 25 = .ok (.aload_n 0, 1) := by decide +kernel
theorem dX8_spare_26 : decode cX8_spare 26 = .ok (.getfield 87, 3) := by decide +kernel
theorem dX8_spare_29 : decode cX8_spare 29 = .ok (.if_icmp .ge 33, 3) := by decide +kernel
theorem dX8_spare_32 : decode cX8_spare 32 = .ok (.iload_n 1, 1) := by decide +kernel
theorem dX8_spare_33 : decode cX8_spare 33 = .ok (.iload_n 3, 1) := by decide +kernel
theorem dX8_spare_34 : decode cX8_spare 34 = .ok (.iload_n 2, 1) := by decide +kernel
theorem dX8_spare_35 : decode cX8_spare 35 = .ok (.if_icmp .eq 18, 3) := by decide +kernel
theorem dX8_spare_38 : decode cX8_spare 38 = .ok (.aload_n 0, 1) := by decide +kernel
theorem dX8_spare_39 : decode cX8_spare 39 = .ok (.iload_n 2, 1) := by decide +kernel
theorem dX8_spare_40 : decode cX8_spare 40 = .ok (.iload_n 3, 1) := by decide +kernel
theorem dX8_spare_41 : decode cX8_spare 41 = .ok (.invokevirtual 197, 3) := by decide +kernel
theorem dX8_spare_44 : decode cX8_spare 44 = .ok (.ifCond .eq 9, 3) := by decide +kernel
theorem dX8_spare_47 : decode cX8_spare 47 = .ok (.iconst 1, 1) := by decide +kernel
theorem dX8_spare_48 : decode cX8_spare 48 = .ok (.iload_n 2, 1) := by decide +kernel
theorem dX8_spare_49 : decode cX8_spare 49 = .ok (.ishl, 1) := by decide +kernel
theorem dX8_spare_50 : decode cX8_spare 50 = .ok (.goto 4, 3) := by decide +kernel
theorem dX8_spare_53 : decode cX8_spare 53 = .ok (.iconst 0, 1) := by decide +kernel
theorem dX8_spare_54 : decode cX8_spare 54 = .ok (.ior, 1) := by decide +kernel
theorem dX8_spare_55 : decode cX8_spare 55 = .ok (.istore_n 1, 1) := by decide +kernel
theorem dX8_spare_56 : decode cX8_spare 56 = .ok (.iinc 3 1, 3) := by decide +kernel
theorem dX8_spare_59 : decode cX8_spare 59 = .ok (.goto (-35), 3) := by decide +kernel
theorem dX8_spare_62 : decode cX8_spare 62 = .ok (.iinc 2 1, 3) := by decide +kernel
theorem dX8_spare_65 : decode cX8_spare 65 = .ok (.goto (-51), 3) := by decide +kernel
theorem dX8_spare_68 : decode cX8_spare 68 = .ok (.iload_n 1, 1) := by decide +kernel
theorem dX8_spare_69 : decode cX8_spare 69 = .ok (.ireturn, 1) := by decide +kernel
theorem dX8_reading_0 : decode cX8_reading 0 = .ok (.aload_n 0, 1) := by decide +kernel
theorem dX8_reading_1 : decode cX8_reading 1 = .ok (.iconst 0, 1) := by decide +kernel
theorem dX8_reading_2 : decode cX8_reading 2 = .ok (.putfield 77, 3) := by decide +kernel
theorem dX8_reading_5 : decode cX8_reading 5 = .ok (.aload_n 0, 1) := by decide +kernel
theorem dX8_reading_6 : decode cX8_reading 6 = .ok (.iload_n 1, 1) := by decide +kernel
theorem dX8_reading_7 : decode cX8_reading 7 = .ok (.invokevirtual 139, 3) := by decide +kernel
theorem dX8_reading_10 : decode cX8_reading 10 = .ok (.ifCond .eq 10, 3) := by decide +kernel
theorem dX8_reading_13 : decode cX8_reading 13 = .ok (.iload_n 2, 1) := by decide +kernel
theorem dX8_reading_14 : decode cX8_reading 14 = .ok (.invokestatic 93, 3) := by decide +kernel
theorem dX8_reading_17 : decode cX8_reading 17 = .ok (.ifCond .ne 5, 3) := by decide +kernel
theorem dX8_reading_20 : decode cX8_reading 20 = .ok (.iconst (-1), 1) := by decide +kernel
theorem dX8_reading_21 : decode cX8_reading 21 = .ok (.ireturn, 1) := by decide +kernel
theorem dX8_reading_22 : decode cX8_reading 22 = .ok (.iload_n 3, 1) := by decide +kernel
theorem dX8_reading_23 : decode cX8_reading 23 = .ok (.invokestatic 97, 3) := by decide +kernel
theorem dX8_reading_26 : decode cX8_reading 26 = .ok (.ifCond .eq 24, 3) := by decide +kernel
theorem dX8_reading_29 : decode cX8_reading 29 = .ok (.iload 5, 2) := by decide +kernel
theorem dX8_reading_31 : decode cX8_reading 31 = .ok (.iconst 0, 1) := by decide +kernel
theorem dX8_reading_32 : decode cX8_reading 32 = .ok (.bipush 8, 2) := by decide +kernel
theorem dX8_reading_34 : decode cX8_reading 34 = .ok (.invokestatic 83, 3) := by decide +kernel
theorem dX8_reading_37 : decode cX8_reading 37 = .ok (.ifCond .eq 13, 3) := by decide +kernel
theorem dX8_reading_40 : decode cX8_reading 40 = .ok (.iload 6, 2) := by decide +kernel
theorem dX8_reading_42 : decode cX8_reading 42 = .ok (.iconst 0, 1) := by decide +kernel
theorem dX8_reading_43 : decode cX8_reading 43 = .ok (.iconst 1, 1) := by decide +kernel
theorem dX8_reading_44 : decode cX8_reading 44 = .ok (.invokestatic 83, 3) := by decide +kernel
theorem dX8_reading_47 : decode cX8_reading 47 = .ok (.ifCond .ne 6, 3) := by decide +kernel
theorem dX8_reading_50 : decode cX8_reading 50 = .ok (.bipush (-2), 2) := by decide +kernel
theorem dX8_reading_52 : decode cX8_reading 52 = .ok (.ireturn, 1) := by decide +kernel
theorem dX8_reading_53 : decode cX8_reading 53 = .ok (.aload_n 0, 1) := by decide +kernel
theorem dX8_reading_54 : decode cX8_reading 54 = .ok (.iload_n 2, 1) := by decide +kernel
theorem dX8_reading_55 : decode cX8_reading 55 = .ok (.iload_n 3, 1) := by decide +kernel
theorem dX8_reading_56 : decode cX8_reading 56 = .ok (.iload 4, 2) := by decide +kernel
theorem dX8_reading_58 : decode cX8_reading 58 = .ok (.iload 5, 2) := by decide +kernel
theorem dX8_reading_60 : decode cX8_reading 60 = .ok (.invokevirtual 100, 3) := by decide +kernel
theorem dX8_reading_63 : decode cX8_reading 63 = .ok (.istore 7, 2) := by decide +kernel
theorem dX8_reading_65 : decode cX8_reading 65 = .ok (.iload 7, 2) := by decide +kernel
theorem dX8_reading_67 : decode cX8_reading 67 = .ok (.ifCond .eq 10, 3) := by decide +kernel
theorem dX8_reading_70 : decode cX8_reading 70 = .ok (.aload_n 0, 1) := by decide +kernel
theorem dX8_reading_71 : decode cX8_reading 71 = .ok (.iload 7, 2) := by decide +kernel
theorem dX8_reading_73 : decode cX8_reading 73 = .ok (.invokevirtual 104, 3) := by decide +kernel
theorem dX8_reading_76 : decode cX8_reading 76 = .ok (.ireturn, 1) := by decide +kernel
theorem dX8_reading_77 : decode cX8_reading 77 = .ok (.bipush 60, 2) := by decide +kernel
theorem dX8_reading_79 : decode cX8_reading 79 = .ok (.iload_n 2, 1) := by decide +kernel
theorem dX8_reading_80 : decode cX8_reading 80 = .ok (.imul, 1) := by decide +kernel
theorem dX8_reading_81 : decode cX8_reading 81 = .ok (.iload 4, 2) := by decide +kernel
theorem dX8_reading_83 : decode cX8_reading 83 = .ok (.iadd, 1) := by decide +kernel
theorem dX8_reading_84 : decode cX8_reading 84 = .ok (.istore 8, 2) := by decide +kernel
theorem dX8_reading_86 : decode cX8_reading 86 = .ok (.aload_n 0, 1) := by decide +kernel
theorem dX8_reading_87 : decode cX8_reading 87 = .ok (.iload 8, 2) := by decide +kernel
theorem dX8_reading_89 : decode cX8_reading 89 = .ok (.iload 5, 2) := by decide +kernel
theorem dX8_reading_91 : decode cX8_reading 91 = .ok (.invokevirtual 151, 3) := by decide +kernel
theorem dX8_reading_94 : decode cX8_reading 94 = .ok (.ifCond .ne 6, 3) := by decide +kernel
theorem dX8_reading_97 : decode cX8_reading 97 = .ok (.bipush (-2), 2) := by decide +kernel
theorem dX8_reading_99 : decode cX8_reading 99 = .ok (.ireturn, 1) := by decide +kernel
theorem dX8_reading_100 : decode cX8_reading 100 = .ok (.aload_n 0, 1) := by decide +kernel
theorem dX8_reading_101 : decode cX8_reading 101 = .ok (.getfield 117, 3) := by decide +kernel
theorem dX8_reading_104 : decode cX8_reading 104 = .ok (.bipush 8, 2) := by decide +kernel
theorem dX8_reading_106 : decode cX8_reading 106 = .ok (.if_icmp .ne 6, 3) := by decide +kernel
theorem dX8_reading_109 : decode cX8_reading 109 = .ok (.bipush (-4), 2) := by decide +kernel
theorem dX8_reading_111 : decode cX8_reading 111 = .ok (.ireturn, 1) := by decide +kernel
theorem dX8_reading_112 : decode cX8_reading 112 = .ok (.aload_n 0, 1) := by decide +kernel
theorem dX8_reading_113 : decode cX8_reading 113 = .ok (.getfield 65, 3) := by decide +kernel
theorem dX8_reading_116 : decode cX8_reading 116 = .ok (.aload_n 0, 1) := by decide +kernel
theorem dX8_reading_117 : decode cX8_reading 117 = .ok (.getfield 117, 3) := by decide +kernel
theorem dX8_reading_120 : decode cX8_reading 120 = .ok (.iload_n 1, 1) := by decide +kernel
theorem dX8_reading_121 : decode cX8_reading 121 = .ok (.iastore, 1) := by decide +kernel
theorem dX8_reading_122 : decode cX8_reading 122 = .ok (.aload_n 0, 1) := by decide +kernel
theorem dX8_reading_123 : decode cX8_reading 123 = .ok (.getfield 68, 3) := by decide +kernel
theorem dX8_reading_126 : decode cX8_reading 126 = .ok (.aload_n 0, 1) := by decide +kernel
theorem dX8_reading_127 : decode cX8_reading 127 = .ok (.getfield 117, 3) := by decide +kernel
theorem dX8_reading_130 : decode cX8_reading 130 = .ok (.iload 5, 2) := by decide +kernel
theorem dX8_reading_132 : decode cX8_reading 132 = .ok (.iastore, 1) := by decide +kernel
theorem dX8_reading_133 : decode cX8_reading 133 = .ok (.aload_n 0, 1) := by decide +kernel
theorem dX8_reading_134 : decode cX8_reading 134 = .ok (.getfield 71, 3) := by decide +kernel
theorem dX8_reading_137 : decode cX8_reading 137 = .ok (.aload_n 0, 1) := by decide +kernel
theorem dX8_reading_138 : decode cX8_reading 138 = .ok (.getfield 117, 3) := by decide +kernel
theorem dX8_reading_141 : decode cX8_reading 141 = .ok (.iload 6, 2) := by decide +kernel
theorem dX8_reading_143 : decode cX8_reading 143 = .ok (.iastore, 1) := by decide +kernel
theorem dX8_reading_144 : decode cX8_reading 144 = .ok (.iconst 0, 1) := by decide +kernel
theorem dX8_reading_145 : decode cX8_reading 145 = .ok (.istore 9, 2) := by decide +kernel
theorem dX8_reading_147 : decode cX8_reading 147 = .ok (.iload 9, 2) := by decide +kernel
theorem dX8_reading_149 : decode cX8_reading 149 = .ok (.iload 5, 2) := by decide +kernel
theorem dX8_reading_151 : decode cX8_reading 151 = .ok (.if_icmp .ge 34, 3) := by decide +kernel
theorem dX8_reading_154 : decode cX8_reading 154 = .ok (.aload_n 0, 1) := by decide +kernel
theorem dX8_reading_155 : decode cX8_reading 155 = .ok (.getfield 74, 3) := by decide +kernel
theorem dX8_reading_158 : decode cX8_reading 158 = .ok (.bipush 8, 2) := by decide +kernel
theorem dX8_reading_160 : decode cX8_reading 160 = .ok (.aload_n 0, 1) := by decide +kernel
theorem dX8_reading_161 : decode cX8_reading 161 = .ok (.getfield 117, 3) := by decide +kernel
theorem dX8_reading_164 : decode cX8_reading 164 = .ok (.imul, 1) := by decide +kernel
theorem dX8_reading_165 : decode cX8_reading 165 = .ok (.iload 9, 2) := by decide +kernel
theorem dX8_reading_167 : decode cX8_reading 167 = .ok (.iadd, 1) := by decide +kernel
theorem dX8_reading_168 : decode cX8_reading 168 = .ok (.aload_n 0, 1) := by decide +kernel
theorem dX8_reading_169 : decode cX8_reading 169 = .ok (.getfield 16, 3) := by decide +kernel
theorem dX8_reading_172 : decode cX8_reading 172 = .ok (.iload 8, 2) := by decide +kernel
theorem dX8_reading_174 : decode cX8_reading 174 = .ok (.iload 9, 2) := by decide +kernel
theorem dX8_reading_176 : decode cX8_reading 176 = .ok (.iadd, 1) := by decide +kernel
theorem dX8_reading_177 : decode cX8_reading 177 = .ok (.iaload, 1) := by decide +kernel
theorem dX8_reading_178 : decode cX8_reading 178 = .ok (.iastore, 1) := by decide +kernel
theorem dX8_reading_179 : decode cX8_reading 179 = .ok (.iinc 9 1, 3) := by decide +kernel
theorem dX8_reading_182 : decode cX8_reading 182 = .ok (.goto (-35), 3) := by decide +kernel
theorem dX8_reading_185 : decode cX8_reading 185 = .ok (.aload_n 0, 1) := by decide +kernel
theorem dX8_reading_186 : decode cX8_reading 186 = .ok (.dup, 1) := by decide +kernel
theorem dX8_reading_187 : decode cX8_reading 187 = .ok (.getfield 117, 3) := by decide +kernel
theorem dX8_reading_190 : decode cX8_reading 190 = .ok (.iconst 1, 1) := by decide +kernel
theorem dX8_reading_191 : decode cX8_reading 191 = .ok (.iadd, 1) := by decide +kernel
theorem dX8_reading_192 : decode cX8_reading 192 = .ok (.putfield 117, 3) := by decide +kernel
theorem dX8_reading_195 : decode cX8_reading 195 = .ok (.aload_n 0, 1) := by decide +kernel
theorem dX8_reading_196 : decode cX8_reading 196 = .ok (.getfield 117, 3) := by decide +kernel
theorem dX8_reading_199 : decode cX8_reading 199 = .ok (.iconst 1, 1) := by decide +kernel
theorem dX8_reading_200 : decode cX8_reading 200 = .ok (.isub, 1) := by decide +kernel
theorem dX8_reading_201 : decode cX8_reading 201 = .ok (.ireturn, 1) := by decide +kernel
theorem dX8_back_0 : decode cX8_back 0 = .ok (.iload_n 1, 1) := by decide +kernel
theorem dX8_back_1 : decode cX8_back 1 = .ok (.iconst 0, 1) := by decide +kernel
theorem dX8_back_2 : decode cX8_back 2 = .ok (.aload_n 0, 1) := by decide +kernel
theorem dX8_back_3 : decode cX8_back 3 = .ok (.getfield 117, 3) := by decide +kernel
theorem dX8_back_6 : decode cX8_back 6 = .ok (.invokestatic 83, 3) := by decide +kernel
theorem dX8_back_9 : decode cX8_back 9 = .ok (.ifCond .ne 6, 3) := by decide +kernel
theorem dX8_back_12 : decode cX8_back 12 = .ok (.bipush (-2), 2) := by decide +kernel
theorem dX8_back_14 : decode cX8_back 14 = .ok (.ireturn, 1) := by decide +kernel
theorem dX8_back_15 : decode cX8_back 15 = .ok (.aload_n 0, 1) := by decide +kernel
theorem dX8_back_16 : decode cX8_back 16 = .ok (.dup, 1) := by decide +kernel
theorem dX8_back_17 : decode cX8_back 17 = .ok (.getfield 117, 3) := by decide +kernel
theorem dX8_back_20 : decode cX8_back 20 = .ok (.iload_n 1, 1) := by decide +kernel
theorem dX8_back_21 : decode cX8_back 21 = .ok (.isub, 1) := by decide +kernel
theorem dX8_back_22 : decode cX8_back 22 = .ok (.putfield 117, 3) := by decide +kernel
theorem dX8_back_25 : decode cX8_back 25 = .ok (.aload_n 0, 1) := by decide +kernel
theorem dX8_back_26 : decode cX8_back 26 = .ok (.getfield 117, 3) := by decide +kernel
theorem dX8_back_29 : decode cX8_back 29 = .ok (.ireturn, 1) := by decide +kernel
theorem dX8_areSo_0 : decode cX8_areSo 0 = .ok (.iconst 0, 1) := by decide +kernel
theorem dX8_areSo_1 : decode cX8_areSo 1 = .ok (.istore_n 1, 1) := by decide +kernel
theorem dX8_areSo_2 : decode cX8_areSo 2 = .ok (.iload_n 1, 1) := by decide +kernel
theorem dX8_areSo_3 : decode cX8_areSo 3 = .ok (.aload_n 0, 1) := by decide +kernel
theorem dX8_areSo_4 : decode cX8_areSo 4 = .ok (.getfield 117, 3) := by decide +kernel
theorem dX8_areSo_7 : decode cX8_areSo 7 = .ok (.if_icmp .ge 92, 3) := by decide +kernel
theorem dX8_areSo_10 : decode cX8_areSo 10 = .ok (.aload_n 0, 1) := by decide +kernel
theorem dX8_areSo_11 : decode cX8_areSo 11 = .ok (.aload_n 0, 1) := by decide +kernel
theorem dX8_areSo_12 : decode cX8_areSo 12 = .ok (.getfield 68, 3) := by decide +kernel
theorem dX8_areSo_15 : decode cX8_areSo 15 = .ok (.iload_n 1, 1) := by decide +kernel
theorem dX8_areSo_16 : decode cX8_areSo 16 = .ok (.iaload, 1) := by decide +kernel
theorem dX8_areSo_17 : decode cX8_areSo 17 = .ok (.putfield 133, 3) := by decide +kernel
theorem dX8_areSo_20 : decode cX8_areSo 20 = .ok (.iconst 0, 1) := by decide +kernel
theorem dX8_areSo_21 : decode cX8_areSo 21 = .ok (.istore_n 2, 1) := by decide +kernel
theorem dX8_areSo_22 : decode cX8_areSo 22 = .ok (.iload_n 2, 1) := by decide +kernel
theorem dX8_areSo_23 : decode cX8_areSo 23 = .ok (.aload_n 0, 1) := by decide +kernel
theorem dX8_areSo_24 : decode cX8_areSo 24 = .ok (.getfield 133, 3) := by decide +kernel
theorem dX8_areSo_27 : decode cX8_areSo 27 = .ok (.if_icmp .ge 26, 3) := by decide +kernel
theorem dX8_areSo_30 : decode cX8_areSo 30 = .ok (.aload_n 0, 1) := by decide +kernel
theorem dX8_areSo_31 : decode cX8_areSo 31 = .ok (.getfield 40, 3) := by decide +kernel
theorem dX8_areSo_34 : decode cX8_areSo 34 = .ok (.iload_n 2, 1) := by decide +kernel
theorem dX8_areSo_35 : decode cX8_areSo 35 = .ok (.aload_n 0, 1) := by decide +kernel
theorem dX8_areSo_36 : decode cX8_areSo 36 = .ok (.getfield 74, 3) := by decide +kernel
theorem dX8_areSo_39 : decode cX8_areSo 39 = .ok (.bipush 8, 2) := by decide +kernel
theorem dX8_areSo_41 : decode cX8_areSo 41 = .ok (.iload_n 1, 1) := by decide +kernel
theorem dX8_areSo_42 : decode cX8_areSo 42 = .ok (.imul, 1) := by decide +kernel
theorem dX8_areSo_43 : decode cX8_areSo 43 = .ok (.iload_n 2, 1) := by decide +kernel
theorem dX8_areSo_44 : decode cX8_areSo 44 = .ok (.iadd, 1) := by decide +kernel
theorem dX8_areSo_45 : decode cX8_areSo 45 = .ok (.iaload, 1) := by decide +kernel
theorem dX8_areSo_46 : decode cX8_areSo 46 = .ok (.iastore, 1) := by decide +kernel
theorem dX8_areSo_47 : decode cX8_areSo 47 = .ok (.iinc 2 1, 3) := by decide +kernel
theorem dX8_areSo_50 : decode cX8_areSo 50 = .ok (.goto (-28), 3) := by decide +kernel
theorem dX8_areSo_53 : decode cX8_areSo 53 = .ok (.aload_n 0, 1) := by decide +kernel
theorem dX8_areSo_54 : decode cX8_areSo 54 = .ok (.aload_n 0, 1) := by decide +kernel
theorem dX8_areSo_55 : decode cX8_areSo 55 = .ok (.getfield 65, 3) := by decide +kernel
theorem dX8_areSo_58 : decode cX8_areSo 58 = .ok (.iload_n 1, 1) := by decide +kernel
theorem dX8_areSo_59 : decode cX8_areSo 59 = .ok (.iaload, 1) := by decide +kernel
theorem dX8_areSo_60 : decode cX8_areSo 60 = .ok (.invokevirtual 136, 3) := by decide +kernel
theorem dX8_areSo_63 : decode cX8_areSo 63 = .ok (.ifCond .le 7, 3) := by decide +kernel
theorem dX8_areSo_66 : decode cX8_areSo 66 = .ok (.iconst 1, 1) := by decide +kernel
theorem dX8_areSo_67 : decode cX8_areSo 67 = .ok (.goto 4, 3) := by decide +kernel
theorem dX8_areSo_70 : decode cX8_areSo 70 = .ok (.iconst 0, 1) := by decide +kernel
theorem dX8_areSo_71 : decode cX8_areSo 71 = .ok (.istore_n 2, 1) := by decide +kernel
theorem dX8_areSo_72 : decode cX8_areSo 72 = .ok (.iload_n 2, 1) := by decide +kernel
theorem dX8_areSo_73 : decode cX8_areSo 73 = .ok (.aload_n 0, 1) := by decide +kernel
theorem dX8_areSo_74 : decode cX8_areSo 74 = .ok (.getfield 71, 3) := by decide +kernel
theorem dX8_areSo_77 : decode cX8_areSo 77 = .ok (.iload_n 1, 1) := by decide +kernel
theorem dX8_areSo_78 : decode cX8_areSo 78 = .ok (.iaload, 1) := by decide +kernel
theorem dX8_areSo_79 : decode cX8_areSo 79 = .ok (.iconst 1, 1) := by decide +kernel
theorem dX8_areSo_80 : decode cX8_areSo 80 = .ok (.if_icmp .ne 7, 3) := by decide +kernel
theorem dX8_areSo_83 : decode cX8_areSo 83 = .ok (.iconst 1, 1) := by decide +kernel
theorem dX8_areSo_84 : decode cX8_areSo 84 = .ok (.goto 4, 3) := by decide +kernel
theorem dX8_areSo_87 : decode cX8_areSo 87 = .ok (.iconst 0, 1) := by decide +kernel
theorem dX8_areSo_88 : decode cX8_areSo 88 = .ok (.if_icmp .eq 5, 3) := by decide +kernel
theorem dX8_areSo_91 : decode cX8_areSo 91 = .ok (.iconst 0, 1) := by decide +kernel
theorem dX8_areSo_92 : decode cX8_areSo 92 = .ok (.ireturn, 1) := by decide +kernel
theorem dX8_areSo_93 : decode cX8_areSo 93 = .ok (.iinc 1 1, 3) := by decide +kernel
theorem dX8_areSo_96 : decode cX8_areSo 96 = .ok (.goto (-94), 3) := by decide +kernel
theorem dX8_areSo_99 : decode cX8_areSo 99 = .ok (.iconst 1, 1) := by decide +kernel
theorem dX8_areSo_100 : decode cX8_areSo 100 = .ok (.ireturn, 1) := by decide +kernel
theorem dX8_kinds_0 : decode cX8_kinds 0 = .ok (.aload_n 0, 1) := by decide +kernel
theorem dX8_kinds_1 : decode cX8_kinds 1 = .ok (.iload_n 1, 1) := by decide +kernel
theorem dX8_kinds_2 : decode cX8_kinds 2 = .ok (.invokevirtual 139, 3) := by decide +kernel
theorem dX8_kinds_5 : decode cX8_kinds 5 = .ok (.ifCond .ne 5, 3) := by decide +kernel
theorem dX8_kinds_8 : decode cX8_kinds 8 = .ok (.iconst (-1), 1) := by decide +kernel
theorem dX8_kinds_9 : decode cX8_kinds 9 = .ok (.ireturn, 1) := by decide +kernel
theorem dX8_kinds_10 : decode cX8_kinds 10 = .ok (.aload_n 0, 1) := by decide +kernel
theorem dX8_kinds_11 : decode cX8_kinds 11 = .ok (.getfield 19, 3) := by decide +kernel
theorem dX8_kinds_14 : decode cX8_kinds 14 = .ok (.iload_n 1, 1) := by decide +kernel
theorem dX8_kinds_15 : decode cX8_kinds 15 = .ok (.iaload, 1) := by decide +kernel
theorem dX8_kinds_16 : decode cX8_kinds 16 = .ok (.istore_n 2, 1) := by decide +kernel
theorem dX8_kinds_17 : decode cX8_kinds 17 = .ok (.iconst 0, 1) := by decide +kernel
theorem dX8_kinds_18 : decode cX8_kinds 18 = .ok (.istore_n 3, 1) := by decide +kernel
theorem dX8_kinds_19 : decode cX8_kinds 19 = .ok (.iconst 0, 1) := by decide +kernel
theorem dX8_kinds_20 : decode cX8_kinds 20 = .ok (.istore 4, 2) := by decide +kernel
theorem dX8_kinds_22 : decode cX8_kinds 22 = .ok (.iload 4, 2) := by decide +kernel
theorem dX8_kinds_24 : decode cX8_kinds 24 = .ok (.iconst 3, 1) := by decide +kernel
theorem dX8_kinds_25 : decode cX8_kinds 25 = .ok (.if_icmp .ge 35, 3) := by decide +kernel
theorem dX8_kinds_28 : decode cX8_kinds 28 = .ok (.aload_n 0, 1) := by decide +kernel
theorem dX8_kinds_29 : decode cX8_kinds 29 = .ok (.getfield 19, 3) := by decide +kernel
theorem dX8_kinds_32 : decode cX8_kinds 32 = .ok (.iload_n 1, 1) := by decide +kernel
theorem dX8_kinds_33 : decode cX8_kinds 33 = .ok (.iload 4, 2) := by decide +kernel
theorem dX8_kinds_35 : decode cX8_kinds 35 = .ok (.iastore, 1) := by decide +kernel
theorem dX8_kinds_36 : decode cX8_kinds 36 = .ok (.iload_n 3, 1) := by decide +kernel
theorem dX8_kinds_37 : decode cX8_kinds 37 = .ok (.aload_n 0, 1) := by decide +kernel
theorem dX8_kinds_38 : decode cX8_kinds 38 = .ok (.invokevirtual 200, 3) := by decide +kernel
theorem dX8_kinds_41 : decode cX8_kinds 41 = .ok (.ifCond .eq 10, 3) := by decide +kernel
theorem dX8_kinds_44 : decode cX8_kinds 44 = .ok (.iconst 1, 1) := by decide +kernel
theorem dX8_kinds_45 : decode cX8_kinds 45 = .ok (.iload 4, 2) := by decide +kernel
theorem dX8_kinds_47 : decode cX8_kinds 47 = .ok (.ishl, 1) := by decide +kernel
theorem dX8_kinds_48 : decode cX8_kinds 48 = .ok (.goto 4, 3) := by decide +kernel
theorem dX8_kinds_51 : decode cX8_kinds 51 = .ok (.iconst 0, 1) := by decide +kernel
theorem dX8_kinds_52 : decode cX8_kinds 52 = .ok (.ior, 1) := by decide +kernel
theorem dX8_kinds_53 : decode cX8_kinds 53 = .ok (.istore_n 3, 1) := by decide +kernel
theorem dX8_kinds_54 : decode cX8_kinds 54 = .ok (.iinc 4 1, 3) := by decide +kernel
theorem dX8_kinds_57 : decode cX8_kinds 57 = .ok (.goto (-35), 3) := by decide +kernel
theorem dX8_kinds_60 : decode cX8_kinds 60 = .ok (.aload_n 0, 1) := by decide +kernel
theorem dX8_kinds_61 : decode cX8_kinds 61 = .ok (.getfield 19, 3) := by decide +kernel
theorem dX8_kinds_64 : decode cX8_kinds 64 = .ok (.iload_n 1, 1) := by decide +kernel
theorem dX8_kinds_65 : decode cX8_kinds 65 = .ok (.iload_n 2, 1) := by decide +kernel
theorem dX8_kinds_66 : decode cX8_kinds 66 = .ok (.iastore, 1) := by decide +kernel
theorem dX8_kinds_67 : decode cX8_kinds 67 = .ok (.iload_n 3, 1) := by decide +kernel
theorem dX8_kinds_68 : decode cX8_kinds 68 = .ok (.ireturn, 1) := by decide +kernel
theorem dX8_lasts_0 : decode cX8_lasts 0 = .ok (.aload_n 0, 1) := by decide +kernel
theorem dX8_lasts_1 : decode cX8_lasts 1 = .ok (.iload_n 1, 1) := by decide +kernel
theorem dX8_lasts_2 : decode cX8_lasts 2 = .ok (.invokevirtual 139, 3) := by decide +kernel
theorem dX8_lasts_5 : decode cX8_lasts 5 = .ok (.ifCond .ne 5, 3) := by decide +kernel
theorem dX8_lasts_8 : decode cX8_lasts 8 = .ok (.iconst (-1), 1) := by decide +kernel
theorem dX8_lasts_9 : decode cX8_lasts 9 = .ok (.ireturn, 1) := by decide +kernel
theorem dX8_lasts_10 : decode cX8_lasts 10 = .ok (.iconst 4, 1) := by decide +kernel
theorem dX8_lasts_11 : decode cX8_lasts 11 = .ok (.iload_n 1, 1) := by decide +kernel
theorem dX8_lasts_12 : decode cX8_lasts 12 = .ok (.imul, 1) := by decide +kernel
theorem dX8_lasts_13 : decode cX8_lasts 13 = .ok (.aload_n 0, 1) := by decide +kernel
theorem dX8_lasts_14 : decode cX8_lasts 14 = .ok (.getfield 22, 3) := by decide +kernel
theorem dX8_lasts_17 : decode cX8_lasts 17 = .ok (.iload_n 1, 1) := by decide +kernel
theorem dX8_lasts_18 : decode cX8_lasts 18 = .ok (.iaload, 1) := by decide +kernel
theorem dX8_lasts_19 : decode cX8_lasts 19 = .ok (.iadd, 1) := by decide +kernel
theorem dX8_lasts_20 : decode cX8_lasts 20 = .ok (.iconst 1, 1) := by decide +kernel
theorem dX8_lasts_21 : decode cX8_lasts 21 = .ok (.isub, 1) := by decide +kernel
theorem dX8_lasts_22 : decode cX8_lasts 22 = .ok (.istore_n 2, 1) := by decide +kernel
theorem dX8_lasts_23 : decode cX8_lasts 23 = .ok (.aload_n 0, 1) := by decide +kernel
theorem dX8_lasts_24 : decode cX8_lasts 24 = .ok (.getfield 25, 3) := by decide +kernel
theorem dX8_lasts_27 : decode cX8_lasts 27 = .ok (.iload_n 2, 1) := by decide +kernel
theorem dX8_lasts_28 : decode cX8_lasts 28 = .ok (.iaload, 1) := by decide +kernel
theorem dX8_lasts_29 : decode cX8_lasts 29 = .ok (.istore_n 3, 1) := by decide +kernel
theorem dX8_lasts_30 : decode cX8_lasts 30 = .ok (.iconst 0, 1) := by decide +kernel
theorem dX8_lasts_31 : decode cX8_lasts 31 = .ok (.istore 4, 2) := by decide +kernel
theorem dX8_lasts_33 : decode cX8_lasts 33 = .ok (.iconst 0, 1) := by decide +kernel
theorem dX8_lasts_34 : decode cX8_lasts 34 = .ok (.istore 5, 2) := by decide +kernel
theorem dX8_lasts_36 : decode cX8_lasts 36 = .ok (.iload 5, 2) := by decide +kernel
theorem dX8_lasts_38 : decode cX8_lasts 38 = .ok (.iconst 3, 1) := by decide +kernel
theorem dX8_lasts_39 : decode cX8_lasts 39 = .ok (.if_icmp .ge 37, 3) := by decide +kernel
theorem dX8_lasts_42 : decode cX8_lasts 42 = .ok (.aload_n 0, 1) := by decide +kernel
theorem dX8_lasts_43 : decode cX8_lasts 43 = .ok (.getfield 25, 3) := by decide +kernel
theorem dX8_lasts_46 : decode cX8_lasts 46 = .ok (.iload_n 2, 1) := by decide +kernel
theorem dX8_lasts_47 : decode cX8_lasts 47 = .ok (.iload 5, 2) := by decide +kernel
theorem dX8_lasts_49 : decode cX8_lasts 49 = .ok (.iastore, 1) := by decide +kernel
theorem dX8_lasts_50 : decode cX8_lasts 50 = .ok (.iload 4, 2) := by decide +kernel
theorem dX8_lasts_52 : decode cX8_lasts 52 = .ok (.aload_n 0, 1) := by decide +kernel
theorem dX8_lasts_53 : decode cX8_lasts 53 = .ok (.invokevirtual 200, 3) := by decide +kernel
theorem dX8_lasts_56 : decode cX8_lasts 56 = .ok (.ifCond .eq 10, 3) := by decide +kernel
theorem dX8_lasts_59 : decode cX8_lasts 59 = .ok (.iconst 1, 1) := by decide +kernel
theorem dX8_lasts_60 : decode cX8_lasts 60 = .ok (.iload 5, 2) := by decide +kernel
theorem dX8_lasts_62 : decode cX8_lasts 62 = .ok (.ishl, 1) := by decide +kernel
theorem dX8_lasts_63 : decode cX8_lasts 63 = .ok (.goto 4, 3) := by decide +kernel
theorem dX8_lasts_66 : decode cX8_lasts 66 = .ok (.iconst 0, 1) := by decide +kernel
theorem dX8_lasts_67 : decode cX8_lasts 67 = .ok (.ior, 1) := by decide +kernel
theorem dX8_lasts_68 : decode cX8_lasts 68 = .ok (.istore 4, 2) := by decide +kernel
theorem dX8_lasts_70 : decode cX8_lasts 70 = .ok (.iinc 5 1, 3) := by decide +kernel
theorem dX8_lasts_73 : decode cX8_lasts 73 = .ok (.goto (-37), 3) := by decide +kernel
theorem dX8_lasts_76 : decode cX8_lasts 76 = .ok (.aload_n 0, 1) := by decide +kernel
theorem dX8_lasts_77 : decode cX8_lasts 77 = .ok (.getfield 25, 3) := by decide +kernel
theorem dX8_lasts_80 : decode cX8_lasts 80 = .ok (.iload_n 2, 1) := by decide +kernel
theorem dX8_lasts_81 : decode cX8_lasts 81 = .ok (.iload_n 3, 1) := by decide +kernel
theorem dX8_lasts_82 : decode cX8_lasts 82 = .ok (.iastore, 1) := by decide +kernel
theorem dX8_lasts_83 : decode cX8_lasts 83 = .ok (.iload 4, 2) := by decide +kernel
theorem dX8_lasts_85 : decode cX8_lasts 85 = .ok (.ireturn, 1) := by decide +kernel
theorem dX8_inLeastTerms_0 : decode cX8_inLeastTerms 0 = .ok (.lload_n 0, 1) := by decide +kernel
theorem dX8_inLeastTerms_1 : decode cX8_inLeastTerms 1 = .ok (.lstore 5, 2) := by decide +kernel
theorem dX8_inLeastTerms_3 : decode cX8_inLeastTerms 3 = .ok (.lload_n 2, 1) := by decide +kernel
theorem dX8_inLeastTerms_4 : decode cX8_inLeastTerms 4 = .ok (.lstore 7, 2) := by decide +kernel
theorem dX8_inLeastTerms_6 : decode cX8_inLeastTerms 6 = .ok (.lload 7, 2) := by decide +kernel
theorem dX8_inLeastTerms_8 : decode cX8_inLeastTerms 8 = .ok (.lconst 0, 1) := by decide +kernel
theorem dX8_inLeastTerms_9 : decode cX8_inLeastTerms 9 = .ok (.lcmp, 1) := by decide +kernel
theorem dX8_inLeastTerms_10 : decode cX8_inLeastTerms 10 = .ok (.ifCond .eq 21, 3) := by decide +kernel
theorem dX8_inLeastTerms_13 : decode cX8_inLeastTerms 13 = .ok (.lload 5, 2) := by decide +kernel
theorem dX8_inLeastTerms_15 : decode cX8_inLeastTerms 15 = .ok (.lload 7, 2) := by decide +kernel
theorem dX8_inLeastTerms_17 : decode cX8_inLeastTerms 17 = .ok (.lrem, 1) := by decide +kernel
theorem dX8_inLeastTerms_18 : decode cX8_inLeastTerms 18 = .ok (.lstore 9, 2) := by decide +kernel
theorem dX8_inLeastTerms_20 : decode cX8_inLeastTerms 20 = .ok (.lload 7, 2) := by decide +kernel
theorem dX8_inLeastTerms_22 : decode cX8_inLeastTerms 22 = .ok (.lstore 5, 2) := by decide +kernel
theorem dX8_inLeastTerms_24 : decode cX8_inLeastTerms 24 = .ok (.lload 9, 2) := by decide +kernel
theorem dX8_inLeastTerms_26 : decode cX8_inLeastTerms 26 = .ok (.lstore 7, 2) := by decide +kernel
theorem dX8_inLeastTerms_28 : decode cX8_inLeastTerms 28 = .ok (.goto (-22), 3) := by decide +kernel
theorem dX8_inLeastTerms_31 : decode cX8_inLeastTerms 31 = .ok (.iload 4, 2) := by decide +kernel
theorem dX8_inLeastTerms_33 : decode cX8_inLeastTerms 33 = .ok (.ifCond .ne 10, 3) := by decide +kernel
theorem dX8_inLeastTerms_36 : decode cX8_inLeastTerms 36 = .ok (.lload_n 0, 1) := by decide +kernel
theorem dX8_inLeastTerms_37 : decode cX8_inLeastTerms 37 = .ok (.lload 5, 2) := by decide +kernel
theorem dX8_inLeastTerms_39 : decode cX8_inLeastTerms 39 = .ok (.ldiv, 1) := by decide +kernel
theorem dX8_inLeastTerms_40 : decode cX8_inLeastTerms 40 = .ok (.goto 7, 3) := by decide +kernel
theorem dX8_inLeastTerms_43 : decode cX8_inLeastTerms 43 = .ok (.lload_n 2, 1) := by decide +kernel
theorem dX8_inLeastTerms_44 : decode cX8_inLeastTerms 44 = .ok (.lload 5, 2) := by decide +kernel
theorem dX8_inLeastTerms_46 : decode cX8_inLeastTerms 46 = .ok (.ldiv, 1) := by decide +kernel
theorem dX8_inLeastTerms_47 : decode cX8_inLeastTerms 47 = .ok (.lreturn, 1) := by decide +kernel
theorem dX8_odds_0 : decode cX8_odds 0 = .ok (.iload_n 1, 1) := by decide +kernel
theorem dX8_odds_1 : decode cX8_odds 1 = .ok (.iconst 0, 1) := by decide +kernel
theorem dX8_odds_2 : decode cX8_odds 2 = .ok (.bipush 30, 2) := by decide +kernel
theorem dX8_odds_4 : decode cX8_odds 4 = .ok (.invokestatic 83, 3) := by decide +kernel
theorem dX8_odds_7 : decode cX8_odds 7 = .ok (.ifCond .eq 19, 3) := by decide +kernel
theorem dX8_odds_10 : decode cX8_odds 10 = .ok (.iload_n 2, 1) := by decide +kernel
theorem dX8_odds_11 : decode cX8_odds 11 = .ok (.iconst 0, 1) := by decide +kernel
theorem dX8_odds_12 : decode cX8_odds 12 = .ok (.iconst 1, 1) := by decide +kernel
theorem dX8_odds_13 : decode cX8_odds 13 = .ok (.invokestatic 83, 3) := by decide +kernel
theorem dX8_odds_16 : decode cX8_odds 16 = .ok (.ifCond .eq 10, 3) := by decide +kernel
theorem dX8_odds_19 : decode cX8_odds 19 = .ok (.aload_n 0, 1) := by decide +kernel
theorem dX8_odds_20 : decode cX8_odds 20 = .ok (.getfield 87, 3) := by decide +kernel
theorem dX8_odds_23 : decode cX8_odds 23 = .ok (.ifCond .ne 7, 3) := by decide +kernel
theorem dX8_odds_26 : decode cX8_odds 26 = .ok (.ldc2_w 81, 3) := by decide +kernel
theorem dX8_odds_29 : decode cX8_odds 29 = .ok (.lreturn, 1) := by decide +kernel
theorem dX8_odds_30 : decode cX8_odds 30 = .ok (.aload_n 0, 1) := by decide +kernel
theorem dX8_odds_31 : decode cX8_odds 31 = .ok (.iload_n 1, 1) := by decide +kernel
theorem dX8_odds_32 : decode cX8_odds 32 = .ok (.invokevirtual 185, 3) := by decide +kernel
theorem dX8_odds_35 : decode cX8_odds 35 = .ok (.lconst 1, 1) := by decide +kernel
theorem dX8_odds_36 : decode cX8_odds 36 = .ok (.lstore_n 3, 1) := by decide +kernel
theorem dX8_odds_37 : decode cX8_odds 37 = .ok (.iconst 0, 1) := by decide +kernel
theorem dX8_odds_38 : decode cX8_odds 38 = .ok (.istore 5, 2) := by decide +kernel
theorem dX8_odds_40 : decode cX8_odds 40 = .ok (.iload 5, 2) := by decide +kernel
theorem dX8_odds_42 : decode cX8_odds 42 = .ok (.iload_n 1, 1) := by decide +kernel
theorem dX8_odds_43 : decode cX8_odds 43 = .ok (.if_icmp .ge 15, 3) := by decide +kernel
theorem dX8_odds_46 : decode cX8_odds 46 = .ok (.lload_n 3, 1) := by decide +kernel
theorem dX8_odds_47 : decode cX8_odds 47 = .ok (.ldc2_w 203, 3) := by decide +kernel
theorem dX8_odds_50 : decode cX8_odds 50 = .ok (.lmul, 1) := by decide +kernel
theorem dX8_odds_51 : decode cX8_odds 51 = .ok (.lstore_n 3, 1) := by decide +kernel
theorem dX8_odds_52 : decode cX8_odds 52 = .ok (.iinc 5 1, 3) := by decide +kernel
theorem dX8_odds_55 : decode cX8_odds 55 = .ok (.goto (-15), 3) := by decide +kernel
theorem dX8_odds_58 : decode cX8_odds 58 = .ok (.aload_n 0, 1) := by decide +kernel
theorem dX8_odds_59 : decode cX8_odds 59 = .ok (.aload_n 0, 1) := by decide +kernel
theorem dX8_odds_60 : decode cX8_odds 60 = .ok (.invokevirtual 175, 3) := by decide +kernel
theorem dX8_odds_63 : decode cX8_odds 63 = .ok (.invokevirtual 189, 3) := by decide +kernel
theorem dX8_odds_66 : decode cX8_odds 66 = .ok (.lload_n 3, 1) := by decide +kernel
theorem dX8_odds_67 : decode cX8_odds 67 = .ok (.iload_n 2, 1) := by decide +kernel
theorem dX8_odds_68 : decode cX8_odds 68 = .ok (.invokestatic 205, 3) := by decide +kernel
theorem dX8_odds_71 : decode cX8_odds 71 = .ok (.lreturn, 1) := by decide +kernel
theorem dX8_sheet_0 : decode cX8_sheet 0 = .ok (.aload_n 0, 1) := by decide +kernel
theorem dX8_sheet_1 : decode cX8_sheet 1 = .ok (.iconst 0, 1) := by decide +kernel
theorem dX8_sheet_2 : decode cX8_sheet 2 = .ok (.putfield 77, 3) := by decide +kernel
theorem dX8_sheet_5 : decode cX8_sheet 5 = .ok (.iload_n 1, 1) := by decide +kernel
theorem dX8_sheet_6 : decode cX8_sheet 6 = .ok (.invokestatic 93, 3) := by decide +kernel
theorem dX8_sheet_9 : decode cX8_sheet 9 = .ok (.ifCond .ne 5, 3) := by decide +kernel
theorem dX8_sheet_12 : decode cX8_sheet 12 = .ok (.iconst (-1), 1) := by decide +kernel
theorem dX8_sheet_13 : decode cX8_sheet 13 = .ok (.ireturn, 1) := by decide +kernel
theorem dX8_sheet_14 : decode cX8_sheet 14 = .ok (.iload_n 2, 1) := by decide +kernel
theorem dX8_sheet_15 : decode cX8_sheet 15 = .ok (.invokestatic 97, 3) := by decide +kernel
theorem dX8_sheet_18 : decode cX8_sheet 18 = .ok (.ifCond .eq 9, 3) := by decide +kernel
theorem dX8_sheet_21 : decode cX8_sheet 21 = .ok (.iload_n 3, 1) := by decide +kernel
theorem dX8_sheet_22 : decode cX8_sheet 22 = .ok (.bipush 60, 2) := by decide +kernel
theorem dX8_sheet_24 : decode cX8_sheet 24 = .ok (.if_icmp .le 6, 3) := by decide +kernel
theorem dX8_sheet_27 : decode cX8_sheet 27 = .ok (.bipush (-2), 2) := by decide +kernel
theorem dX8_sheet_29 : decode cX8_sheet 29 = .ok (.ireturn, 1) := by decide +kernel
theorem dX8_sheet_30 : decode cX8_sheet 30 = .ok (.iload_n 3, 1) := by decide +kernel
theorem dX8_sheet_31 : decode cX8_sheet 31 = .ok (.ifCond .ge 9, 3) := by decide +kernel
theorem dX8_sheet_34 : decode cX8_sheet 34 = .ok (.aload_n 0, 1) := by decide +kernel
theorem dX8_sheet_35 : decode cX8_sheet 35 = .ok (.iconst 4, 1) := by decide +kernel
theorem dX8_sheet_36 : decode cX8_sheet 36 = .ok (.invokevirtual 104, 3) := by decide +kernel
theorem dX8_sheet_39 : decode cX8_sheet 39 = .ok (.ireturn, 1) := by decide +kernel
theorem dX8_sheet_40 : decode cX8_sheet 40 = .ok (.aload_n 0, 1) := by decide +kernel
theorem dX8_sheet_41 : decode cX8_sheet 41 = .ok (.getfield 9, 3) := by decide +kernel
theorem dX8_sheet_44 : decode cX8_sheet 44 = .ok (.iload_n 1, 1) := by decide +kernel
theorem dX8_sheet_45 : decode cX8_sheet 45 = .ok (.iload_n 2, 1) := by decide +kernel
theorem dX8_sheet_46 : decode cX8_sheet 46 = .ok (.iastore, 1) := by decide +kernel
theorem dX8_sheet_47 : decode cX8_sheet 47 = .ok (.aload_n 0, 1) := by decide +kernel
theorem dX8_sheet_48 : decode cX8_sheet 48 = .ok (.getfield 13, 3) := by decide +kernel
theorem dX8_sheet_51 : decode cX8_sheet 51 = .ok (.iload_n 1, 1) := by decide +kernel
theorem dX8_sheet_52 : decode cX8_sheet 52 = .ok (.iload_n 3, 1) := by decide +kernel
theorem dX8_sheet_53 : decode cX8_sheet 53 = .ok (.iastore, 1) := by decide +kernel
theorem dX8_sheet_54 : decode cX8_sheet 54 = .ok (.iconst 0, 1) := by decide +kernel
theorem dX8_sheet_55 : decode cX8_sheet 55 = .ok (.istore 4, 2) := by decide +kernel
theorem dX8_sheet_57 : decode cX8_sheet 57 = .ok (.iload 4, 2) := by decide +kernel
theorem dX8_sheet_59 : decode cX8_sheet 59 = .ok (.bipush 60, 2) := by decide +kernel
theorem dX8_sheet_61 : decode cX8_sheet 61 = .ok (.if_icmp .ge 22, 3) := by decide +kernel
theorem dX8_sheet_64 : decode cX8_sheet 64 = .ok (.aload_n 0, 1) := by decide +kernel
theorem dX8_sheet_65 : decode cX8_sheet 65 = .ok (.getfield 16, 3) := by decide +kernel
theorem dX8_sheet_68 : decode cX8_sheet 68 = .ok (.bipush 60, 2) := by decide +kernel
theorem dX8_sheet_70 : decode cX8_sheet 70 = .ok (.iload_n 1, 1) := by decide +kernel
theorem dX8_sheet_71 : decode cX8_sheet 71 = .ok (.imul, 1) := by decide +kernel
theorem dX8_sheet_72 : decode cX8_sheet 72 = .ok (.iload 4, 2) := by decide +kernel
theorem dX8_sheet_74 : decode cX8_sheet 74 = .ok (.iadd, 1) := by decide +kernel
theorem dX8_sheet_75 : decode cX8_sheet 75 = .ok (.iconst 0, 1) := by decide +kernel
theorem dX8_sheet_76 : decode cX8_sheet 76 = .ok (.iastore, 1) := by decide +kernel
theorem dX8_sheet_77 : decode cX8_sheet 77 = .ok (.iinc 4 1, 3) := by decide +kernel
theorem dX8_sheet_80 : decode cX8_sheet 80 = .ok (.goto (-23), 3) := by decide +kernel
theorem dX8_sheet_83 : decode cX8_sheet 83 = .ok (.iconst 1, 1) := by decide +kernel
theorem dX8_sheet_84 : decode cX8_sheet 84 = .ok (.ireturn, 1) := by decide +kernel
theorem dX8_lose_0 : decode cX8_lose 0 = .ok (.iload_n 1, 1) := by decide +kernel
theorem dX8_lose_1 : decode cX8_lose 1 = .ok (.invokestatic 93, 3) := by decide +kernel
theorem dX8_lose_4 : decode cX8_lose 4 = .ok (.ifCond .ne 5, 3) := by decide +kernel
theorem dX8_lose_7 : decode cX8_lose 7 = .ok (.iconst (-1), 1) := by decide +kernel
theorem dX8_lose_8 : decode cX8_lose 8 = .ok (.ireturn, 1) := by decide +kernel
theorem dX8_lose_9 : decode cX8_lose 9 = .ok (.aload_n 0, 1) := by decide +kernel
theorem dX8_lose_10 : decode cX8_lose 10 = .ok (.getfield 9, 3) := by decide +kernel
theorem dX8_lose_13 : decode cX8_lose 13 = .ok (.iload_n 1, 1) := by decide +kernel
theorem dX8_lose_14 : decode cX8_lose 14 = .ok (.iaload, 1) := by decide +kernel
theorem dX8_lose_15 : decode cX8_lose 15 = .ok (.bipush (-9), 2) := by decide +kernel
theorem dX8_lose_17 : decode cX8_lose 17 = .ok (.if_icmp .ne 7, 3) := by decide +kernel
theorem dX8_lose_20 : decode cX8_lose 20 = .ok (.iconst 0, 1) := by decide +kernel
theorem dX8_lose_21 : decode cX8_lose 21 = .ok (.goto 4, 3) := by decide +kernel
theorem dX8_lose_24 : decode cX8_lose 24 = .ok (.iconst 1, 1) := by decide +kernel
theorem dX8_lose_25 : decode cX8_lose 25 = .ok (.istore_n 2, 1) := by decide +kernel
theorem dX8_lose_26 : decode cX8_lose 26 = .ok (.aload_n 0, 1) := by decide +kernel
theorem dX8_lose_27 : decode cX8_lose 27 = .ok (.getfield 9, 3) := by decide +kernel
theorem dX8_lose_30 : decode cX8_lose 30 = .ok (.iload_n 1, 1) := by decide +kernel
theorem dX8_lose_31 : decode cX8_lose 31 = .ok (.bipush (-9), 2) := by decide +kernel
theorem dX8_lose_33 : decode cX8_lose 33 = .ok (.iastore, 1) := by decide +kernel
theorem dX8_lose_34 : decode cX8_lose 34 = .ok (.iload_n 2, 1) := by decide +kernel
theorem dX8_lose_35 : decode cX8_lose 35 = .ok (.ireturn, 1) := by decide +kernel
theorem dX8_put_0 : decode cX8_put 0 = .ok (.aload_n 0, 1) := by decide +kernel
theorem dX8_put_1 : decode cX8_put 1 = .ok (.iconst 0, 1) := by decide +kernel
theorem dX8_put_2 : decode cX8_put 2 = .ok (.putfield 77, 3) := by decide +kernel
theorem dX8_put_5 : decode cX8_put 5 = .ok (.iload_n 1, 1) := by decide +kernel
theorem dX8_put_6 : decode cX8_put 6 = .ok (.invokestatic 93, 3) := by decide +kernel
theorem dX8_put_9 : decode cX8_put 9 = .ok (.ifCond .ne 5, 3) := by decide +kernel
theorem dX8_put_12 : decode cX8_put 12 = .ok (.iconst (-1), 1) := by decide +kernel
theorem dX8_put_13 : decode cX8_put 13 = .ok (.ireturn, 1) := by decide +kernel
theorem dX8_put_14 : decode cX8_put 14 = .ok (.aload_n 0, 1) := by decide +kernel
theorem dX8_put_15 : decode cX8_put 15 = .ok (.getfield 9, 3) := by decide +kernel
theorem dX8_put_18 : decode cX8_put 18 = .ok (.iload_n 1, 1) := by decide +kernel
theorem dX8_put_19 : decode cX8_put 19 = .ok (.iaload, 1) := by decide +kernel
theorem dX8_put_20 : decode cX8_put 20 = .ok (.bipush (-9), 2) := by decide +kernel
theorem dX8_put_22 : decode cX8_put 22 = .ok (.if_icmp .ne 9, 3) := by decide +kernel
theorem dX8_put_25 : decode cX8_put 25 = .ok (.aload_n 0, 1) := by decide +kernel
theorem dX8_put_26 : decode cX8_put 26 = .ok (.iconst 1, 1) := by decide +kernel
theorem dX8_put_27 : decode cX8_put 27 = .ok (.invokevirtual 104, 3) := by decide +kernel
theorem dX8_put_30 : decode cX8_put 30 = .ok (.ireturn, 1) := by decide +kernel
theorem dX8_put_31 : decode cX8_put 31 = .ok (.iload_n 2, 1) := by decide +kernel
theorem dX8_put_32 : decode cX8_put 32 = .ok (.iconst 0, 1) := by decide +kernel
theorem dX8_put_33 : decode cX8_put 33 = .ok (.aload_n 0, 1) := by decide +kernel
theorem dX8_put_34 : decode cX8_put 34 = .ok (.getfield 13, 3) := by decide +kernel
theorem dX8_put_37 : decode cX8_put 37 = .ok (.iload_n 1, 1) := by decide +kernel
theorem dX8_put_38 : decode cX8_put 38 = .ok (.iaload, 1) := by decide +kernel
theorem dX8_put_39 : decode cX8_put 39 = .ok (.iconst 1, 1) := by decide +kernel
theorem dX8_put_40 : decode cX8_put 40 = .ok (.isub, 1) := by decide +kernel
theorem dX8_put_41 : decode cX8_put 41 = .ok (.invokestatic 83, 3) := by decide +kernel
theorem dX8_put_44 : decode cX8_put 44 = .ok (.ifCond .ne 9, 3) := by decide +kernel
theorem dX8_put_47 : decode cX8_put 47 = .ok (.aload_n 0, 1) := by decide +kernel
theorem dX8_put_48 : decode cX8_put 48 = .ok (.iconst 3, 1) := by decide +kernel
theorem dX8_put_49 : decode cX8_put 49 = .ok (.invokevirtual 104, 3) := by decide +kernel
theorem dX8_put_52 : decode cX8_put 52 = .ok (.ireturn, 1) := by decide +kernel
theorem dX8_put_53 : decode cX8_put 53 = .ok (.aload_n 0, 1) := by decide +kernel
theorem dX8_put_54 : decode cX8_put 54 = .ok (.getfield 16, 3) := by decide +kernel
theorem dX8_put_57 : decode cX8_put 57 = .ok (.bipush 60, 2) := by decide +kernel
theorem dX8_put_59 : decode cX8_put 59 = .ok (.iload_n 1, 1) := by decide +kernel
theorem dX8_put_60 : decode cX8_put 60 = .ok (.imul, 1) := by decide +kernel
theorem dX8_put_61 : decode cX8_put 61 = .ok (.iload_n 2, 1) := by decide +kernel
theorem dX8_put_62 : decode cX8_put 62 = .ok (.iadd, 1) := by decide +kernel
theorem dX8_put_63 : decode cX8_put 63 = .ok (.aload_n 0, 1) := by decide +kernel
theorem dX8_put_64 : decode cX8_put 64 = .ok (.getfield 9, 3) := by decide +kernel
theorem dX8_put_67 : decode cX8_put 67 = .ok (.iload_n 1, 1) := by decide +kernel
theorem dX8_put_68 : decode cX8_put 68 = .ok (.iaload, 1) := by decide +kernel
theorem dX8_put_69 : decode cX8_put 69 = .ok (.ifCond .ne 8, 3) := by decide +kernel
theorem dX8_put_72 : decode cX8_put 72 = .ok (.iload_n 3, 1) := by decide +kernel
theorem dX8_put_73 : decode cX8_put 73 = .ok (.i2b, 1) := by decide +kernel
theorem dX8_put_74 : decode cX8_put 74 = .ok (.goto 19, 3) := by decide +kernel
theorem dX8_put_77 : decode cX8_put 77 = .ok (.aload_n 0, 1) := by decide +kernel
theorem dX8_put_78 : decode cX8_put 78 = .ok (.getfield 9, 3) := by decide +kernel
theorem dX8_put_81 : decode cX8_put 81 = .ok (.iload_n 1, 1) := by decide +kernel
theorem dX8_put_82 : decode cX8_put 82 = .ok (.iaload, 1) := by decide +kernel
theorem dX8_put_83 : decode cX8_put 83 = .ok (.iconst 1, 1) := by decide +kernel
theorem dX8_put_84 : decode cX8_put 84 = .ok (.if_icmp .ne 8, 3) := by decide +kernel
theorem dX8_put_87 : decode cX8_put 87 = .ok (.iload_n 3, 1) := by decide +kernel
theorem dX8_put_88 : decode cX8_put 88 = .ok (.i2s, 1) := by decide +kernel
theorem dX8_put_89 : decode cX8_put 89 = .ok (.goto 4, 3) := by decide +kernel
theorem dX8_put_92 : decode cX8_put 92 = .ok (.iload_n 3, 1) := by decide +kernel
theorem dX8_put_93 : decode cX8_put 93 = .ok (.iastore, 1) := by decide +kernel
theorem dX8_put_94 : decode cX8_put 94 = .ok (.iconst 1, 1) := by decide +kernel
theorem dX8_put_95 : decode cX8_put 95 = .ok (.ireturn, 1) := by decide +kernel
theorem dX8_cell_0 : decode cX8_cell 0 = .ok (.aload_n 0, 1) := by decide +kernel
theorem dX8_cell_1 : decode cX8_cell 1 = .ok (.iconst 0, 1) := by decide +kernel
theorem dX8_cell_2 : decode cX8_cell 2 = .ok (.putfield 77, 3) := by decide +kernel
theorem dX8_cell_5 : decode cX8_cell 5 = .ok (.iload_n 1, 1) := by decide +kernel
theorem dX8_cell_6 : decode cX8_cell 6 = .ok (.invokestatic 93, 3) := by decide +kernel
theorem dX8_cell_9 : decode cX8_cell 9 = .ok (.ifCond .eq 10, 3) := by decide +kernel
theorem dX8_cell_12 : decode cX8_cell 12 = .ok (.iload_n 3, 1) := by decide +kernel
theorem dX8_cell_13 : decode cX8_cell 13 = .ok (.invokestatic 97, 3) := by decide +kernel
theorem dX8_cell_16 : decode cX8_cell 16 = .ok (.ifCond .ne 7, 3) := by decide +kernel
theorem dX8_cell_19 : decode cX8_cell 19 = .ok (.ldc2_w 81, 3) := by decide +kernel
theorem dX8_cell_22 : decode cX8_cell 22 = .ok (.lreturn, 1) := by decide +kernel
theorem dX8_cell_23 : decode cX8_cell 23 = .ok (.aload_n 0, 1) := by decide +kernel
theorem dX8_cell_24 : decode cX8_cell 24 = .ok (.getfield 9, 3) := by decide +kernel
theorem dX8_cell_27 : decode cX8_cell 27 = .ok (.iload_n 1, 1) := by decide +kernel
theorem dX8_cell_28 : decode cX8_cell 28 = .ok (.iaload, 1) := by decide +kernel
theorem dX8_cell_29 : decode cX8_cell 29 = .ok (.bipush (-9), 2) := by decide +kernel
theorem dX8_cell_31 : decode cX8_cell 31 = .ok (.if_icmp .eq 19, 3) := by decide +kernel
theorem dX8_cell_34 : decode cX8_cell 34 = .ok (.aload_n 0, 1) := by decide +kernel
theorem dX8_cell_35 : decode cX8_cell 35 = .ok (.getfield 9, 3) := by decide +kernel
theorem dX8_cell_38 : decode cX8_cell 38 = .ok (.iload_n 1, 1) := by decide +kernel
theorem dX8_cell_39 : decode cX8_cell 39 = .ok (.iaload, 1) := by decide +kernel
theorem dX8_cell_40 : decode cX8_cell 40 = .ok (.iload_n 3, 1) := by decide +kernel
theorem dX8_cell_41 : decode cX8_cell 41 = .ok (.if_icmp .eq 9, 3) := by decide +kernel
theorem dX8_cell_44 : decode cX8_cell 44 = .ok (.aload_n 0, 1) := by decide +kernel
theorem dX8_cell_45 : decode cX8_cell 45 = .ok (.iconst 2, 1) := by decide +kernel
theorem dX8_cell_46 : decode cX8_cell 46 = .ok (.invokevirtual 209, 3) := by decide +kernel
theorem dX8_cell_49 : decode cX8_cell 49 = .ok (.lreturn, 1) := by decide +kernel
theorem dX8_cell_50 : decode cX8_cell 50 = .ok (.aload_n 0, 1) := by decide +kernel
theorem dX8_cell_51 : decode cX8_cell 51 = .ok (.getfield 9, 3) := by decide +kernel
theorem dX8_cell_54 : decode cX8_cell 54 = .ok (.iload_n 1, 1) := by decide +kernel
theorem dX8_cell_55 : decode cX8_cell 55 = .ok (.iaload, 1) := by decide +kernel
theorem dX8_cell_56 : decode cX8_cell 56 = .ok (.bipush (-9), 2) := by decide +kernel
theorem dX8_cell_58 : decode cX8_cell 58 = .ok (.if_icmp .ne 9, 3) := by decide +kernel
theorem dX8_cell_61 : decode cX8_cell 61 = .ok (.aload_n 0, 1) := by decide +kernel
theorem dX8_cell_62 : decode cX8_cell 62 = .ok (.iconst 1, 1) := by decide +kernel
theorem dX8_cell_63 : decode cX8_cell 63 = .ok (.invokevirtual 209, 3) := by decide +kernel
theorem dX8_cell_66 : decode cX8_cell 66 = .ok (.lreturn, 1) := by decide +kernel
theorem dX8_cell_67 : decode cX8_cell 67 = .ok (.iload_n 2, 1) := by decide +kernel
theorem dX8_cell_68 : decode cX8_cell 68 = .ok (.iconst 0, 1) := by decide +kernel
theorem dX8_cell_69 : decode cX8_cell 69 = .ok (.aload_n 0, 1) := by decide +kernel
theorem dX8_cell_70 : decode cX8_cell 70 = .ok (.getfield 13, 3) := by decide +kernel
theorem dX8_cell_73 : decode cX8_cell 73 = .ok (.iload_n 1, 1) := by decide +kernel
theorem dX8_cell_74 : decode cX8_cell 74 = .ok (.iaload, 1) := by decide +kernel
theorem dX8_cell_75 : decode cX8_cell 75 = .ok (.iconst 1, 1) := by decide +kernel
theorem dX8_cell_76 : decode cX8_cell 76 = .ok (.isub, 1) := by decide +kernel
theorem dX8_cell_77 : decode cX8_cell 77 = .ok (.invokestatic 83, 3) := by decide +kernel
theorem dX8_cell_80 : decode cX8_cell 80 = .ok (.ifCond .ne 9, 3) := by decide +kernel
theorem dX8_cell_83 : decode cX8_cell 83 = .ok (.aload_n 0, 1) := by decide +kernel
theorem dX8_cell_84 : decode cX8_cell 84 = .ok (.iconst 3, 1) := by decide +kernel
theorem dX8_cell_85 : decode cX8_cell 85 = .ok (.invokevirtual 209, 3) := by decide +kernel
theorem dX8_cell_88 : decode cX8_cell 88 = .ok (.lreturn, 1) := by decide +kernel
theorem dX8_cell_89 : decode cX8_cell 89 = .ok (.aload_n 0, 1) := by decide +kernel
theorem dX8_cell_90 : decode cX8_cell 90 = .ok (.getfield 16, 3) := by decide +kernel
theorem dX8_cell_93 : decode cX8_cell 93 = .ok (.bipush 60, 2) := by decide +kernel
theorem dX8_cell_95 : decode cX8_cell 95 = .ok (.iload_n 1, 1) := by decide +kernel
theorem dX8_cell_96 : decode cX8_cell 96 = .ok (.imul, 1) := by decide +kernel
theorem dX8_cell_97 : decode cX8_cell 97 = .ok (.iload_n 2, 1) := by decide +kernel
theorem dX8_cell_98 : decode cX8_cell 98 = .ok (.iadd, 1) := by decide +kernel
theorem dX8_cell_99 : decode cX8_cell 99 = .ok (.iaload, 1) := by decide +kernel
theorem dX8_cell_100 : decode cX8_cell 100 = .ok (.i2l, 1) := by decide +kernel
theorem dX8_cell_101 : decode cX8_cell 101 = .ok (.lreturn, 1) := by decide +kernel
theorem dX8_copy_0 : decode cX8_copy 0 = .ok (.aload_n 0, 1) := by decide +kernel
theorem dX8_copy_1 : decode cX8_copy 1 = .ok (.iconst 0, 1) := by decide +kernel
theorem dX8_copy_2 : decode cX8_copy 2 = .ok (.putfield 77, 3) := by decide +kernel
theorem dX8_copy_5 : decode cX8_copy 5 = .ok (.iload_n 1, 1) := by decide +kernel
theorem dX8_copy_6 : decode cX8_copy 6 = .ok (.invokestatic 93, 3) := by decide +kernel
theorem dX8_copy_9 : decode cX8_copy 9 = .ok (.ifCond .eq 10, 3) := by decide +kernel
theorem dX8_copy_12 : decode cX8_copy 12 = .ok (.iload_n 3, 1) := by decide +kernel
theorem dX8_copy_13 : decode cX8_copy 13 = .ok (.invokestatic 93, 3) := by decide +kernel
theorem dX8_copy_16 : decode cX8_copy 16 = .ok (.ifCond .ne 5, 3) := by decide +kernel
theorem dX8_copy_19 : decode cX8_copy 19 = .ok (.iconst (-1), 1) := by decide +kernel
theorem dX8_copy_20 : decode cX8_copy 20 = .ok (.ireturn, 1) := by decide +kernel
theorem dX8_copy_21 : decode cX8_copy 21 = .ok (.aload_n 0, 1) := by decide +kernel
theorem dX8_copy_22 : decode cX8_copy 22 = .ok (.getfield 9, 3) := by decide +kernel
theorem dX8_copy_25 : decode cX8_copy 25 = .ok (.iload_n 1, 1) := by decide +kernel
theorem dX8_copy_26 : decode cX8_copy 26 = .ok (.iaload, 1) := by decide +kernel
theorem dX8_copy_27 : decode cX8_copy 27 = .ok (.bipush (-9), 2) := by decide +kernel
theorem dX8_copy_29 : decode cX8_copy 29 = .ok (.if_icmp .eq 14, 3) := by decide +kernel
theorem dX8_copy_32 : decode cX8_copy 32 = .ok (.aload_n 0, 1) := by decide +kernel
theorem dX8_copy_33 : decode cX8_copy 33 = .ok (.getfield 9, 3) := by decide +kernel
theorem dX8_copy_36 : decode cX8_copy 36 = .ok (.iload_n 3, 1) := by decide +kernel
theorem dX8_copy_37 : decode cX8_copy 37 = .ok (.iaload, 1) := by decide +kernel
theorem dX8_copy_38 : decode cX8_copy 38 = .ok (.bipush (-9), 2) := by decide +kernel
theorem dX8_copy_40 : decode cX8_copy 40 = .ok (.if_icmp .ne 9, 3) := by decide +kernel
theorem dX8_copy_43 : decode cX8_copy 43 = .ok (.aload_n 0, 1) := by decide +kernel
theorem dX8_copy_44 : decode cX8_copy 44 = .ok (.iconst 1, 1) := by decide +kernel
theorem dX8_copy_45 : decode cX8_copy 45 = .ok (.invokevirtual 104, 3) := by decide +kernel
theorem dX8_copy_48 : decode cX8_copy 48 = .ok (.ireturn, 1) := by decide +kernel
theorem dX8_copy_49 : decode cX8_copy 49 = .ok (.aload_n 0, 1) := by decide +kernel
theorem dX8_copy_50 : decode cX8_copy 50 = .ok (.getfield 9, 3) := by decide +kernel
theorem dX8_copy_53 : decode cX8_copy 53 = .ok (.iload_n 1, 1) := by decide +kernel
theorem dX8_copy_54 : decode cX8_copy 54 = .ok (.iaload, 1) := by decide +kernel
theorem dX8_copy_55 : decode cX8_copy 55 = .ok (.aload_n 0, 1) := by decide +kernel
theorem dX8_copy_56 : decode cX8_copy 56 = .ok (.getfield 9, 3) := by decide +kernel
theorem dX8_copy_59 : decode cX8_copy 59 = .ok (.iload_n 3, 1) := by decide +kernel
theorem dX8_copy_60 : decode cX8_copy 60 = .ok (.iaload, 1) := by decide +kernel
theorem dX8_copy_61 : decode cX8_copy 61 = .ok (.if_icmp .eq 9, 3) := by decide +kernel
theorem dX8_copy_64 : decode cX8_copy 64 = .ok (.aload_n 0, 1) := by decide +kernel
theorem dX8_copy_65 : decode cX8_copy 65 = .ok (.iconst 2, 1) := by decide +kernel
theorem dX8_copy_66 : decode cX8_copy 66 = .ok (.invokevirtual 104, 3) := by decide +kernel
theorem dX8_copy_69 : decode cX8_copy 69 = .ok (.ireturn, 1) := by decide +kernel
theorem dX8_copy_70 : decode cX8_copy 70 = .ok (.iload_n 2, 1) := by decide +kernel
theorem dX8_copy_71 : decode cX8_copy 71 = .ok (.ifCond .lt 38, 3) := by decide +kernel
theorem dX8_copy_74 : decode cX8_copy 74 = .ok (.iload 4, 2) := by decide +kernel
theorem dX8_copy_76 : decode cX8_copy 76 = .ok (.ifCond .lt 33, 3) := by decide +kernel
theorem dX8_copy_79 : decode cX8_copy 79 = .ok (.iload 5, 2) := by decide +kernel
theorem dX8_copy_81 : decode cX8_copy 81 = .ok (.ifCond .lt 28, 3) := by decide +kernel
theorem dX8_copy_84 : decode cX8_copy 84 = .ok (.iload_n 2, 1) := by decide +kernel
theorem dX8_copy_85 : decode cX8_copy 85 = .ok (.aload_n 0, 1) := by decide +kernel
theorem dX8_copy_86 : decode cX8_copy 86 = .ok (.getfield 13, 3) := by decide +kernel
theorem dX8_copy_89 : decode cX8_copy 89 = .ok (.iload_n 1, 1) := by decide +kernel
theorem dX8_copy_90 : decode cX8_copy 90 = .ok (.iaload, 1) := by decide +kernel
theorem dX8_copy_91 : decode cX8_copy 91 = .ok (.if_icmp .gt 18, 3) := by decide +kernel
theorem dX8_copy_94 : decode cX8_copy 94 = .ok (.iload 4, 2) := by decide +kernel
theorem dX8_copy_96 : decode cX8_copy 96 = .ok (.aload_n 0, 1) := by decide +kernel
theorem dX8_copy_97 : decode cX8_copy 97 = .ok (.getfield 13, 3) := by decide +kernel
theorem dX8_copy_100 : decode cX8_copy 100 = .ok (.iload_n 3, 1) := by decide +kernel
theorem dX8_copy_101 : decode cX8_copy 101 = .ok (.iaload, 1) := by decide +kernel
theorem dX8_copy_102 : decode cX8_copy 102 = .ok (.if_icmp .gt 7, 3) := by decide +kernel
theorem dX8_copy_105 : decode cX8_copy 105 = .ok (.iconst 1, 1) := by decide +kernel
theorem dX8_copy_106 : decode cX8_copy 106 = .ok (.goto 4, 3) := by decide +kernel
theorem dX8_copy_109 : decode cX8_copy 109 = .ok (.iconst 0, 1) := by decide +kernel
theorem dX8_copy_110 : decode cX8_copy 110 = .ok (.istore 6, 2) := by decide +kernel
theorem dX8_copy_112 : decode cX8_copy 112 = .ok (.iload 6, 2) := by decide +kernel
theorem dX8_copy_114 : decode cX8_copy 114 = .ok (.ifCond .eq 30, 3) := by decide +kernel
theorem dX8_copy_117 : decode cX8_copy 117 = .ok (.iload 5, 2) := by decide +kernel
theorem dX8_copy_119 : decode cX8_copy 119 = .ok (.aload_n 0, 1) := by decide +kernel
theorem dX8_copy_120 : decode cX8_copy 120 = .ok (.getfield 13, 3) := by decide +kernel
theorem dX8_copy_123 : decode cX8_copy 123 = .ok (.iload_n 1, 1) := by decide +kernel
theorem dX8_copy_124 : decode cX8_copy 124 = .ok (.iaload, 1) := by decide +kernel
theorem dX8_copy_125 : decode cX8_copy 125 = .ok (.iload_n 2, 1) := by decide +kernel
theorem dX8_copy_126 : decode cX8_copy 126 = .ok (.isub, 1) := by decide +kernel
theorem dX8_copy_127 : decode cX8_copy 127 = .ok (.if_icmp .gt 17, 3) := by decide +kernel
theorem dX8_copy_130 : decode cX8_copy 130 = .ok (.iload 5, 2) := by decide +kernel
theorem dX8_copy_132 : decode cX8_copy 132 = .ok (.aload_n 0, 1) := by decide +kernel
theorem dX8_copy_133 : decode cX8_copy 133 = .ok (.getfield 13, 3) := by decide +kernel
theorem dX8_copy_136 : decode cX8_copy 136 = .ok (.iload_n 3, 1) := by decide +kernel
theorem dX8_copy_137 : decode cX8_copy 137 = .ok (.iaload, 1) := by decide +kernel
theorem dX8_copy_138 : decode cX8_copy 138 = .ok (.iload 4, 2) := by decide +kernel
theorem dX8_copy_140 : decode cX8_copy 140 = .ok (.isub, 1) := by decide +kernel
theorem dX8_copy_141 : decode cX8_copy 141 = .ok (.if_icmp .le 9, 3) := by decide +kernel
theorem dX8_copy_144 : decode cX8_copy 144 = .ok (.aload_n 0, 1) := by decide +kernel
theorem dX8_copy_145 : decode cX8_copy 145 = .ok (.iconst 3, 1) := by decide +kernel
theorem dX8_copy_146 : decode cX8_copy 146 = .ok (.invokevirtual 104, 3) := by decide +kernel
theorem dX8_copy_149 : decode cX8_copy 149 = .ok (.ireturn, 1) := by decide +kernel
theorem dX8_copy_150 : decode cX8_copy 150 = .ok (.iload_n 2, 1) := by decide +kernel
theorem dX8_copy_151 : decode cX8_copy 151 = .ok (.iload 4, 2) := by decide +kernel
theorem dX8_copy_153 : decode cX8_copy 153 = .ok (.if_icmp .ge 7, 3) := by decide +kernel
theorem dX8_copy_156 : decode cX8_copy 156 = .ok (.iconst 1, 1) := by decide +kernel
theorem dX8_copy_157 : decode cX8_copy 157 = .ok (.goto 4, 3) := by decide +kernel
theorem dX8_copy_160 : decode cX8_copy 160 = .ok (.iconst 0, 1) := by decide +kernel
theorem dX8_copy_161 : decode cX8_copy 161 = .ok (.istore 7, 2) := by decide +kernel
theorem dX8_copy_163 : decode cX8_copy 163 = .ok (.iconst 0, 1) := by decide +kernel
theorem dX8_copy_164 : decode cX8_copy 164 = .ok (.istore 8, 2) := by decide +kernel
theorem dX8_copy_166 : decode cX8_copy 166 = .ok (.iload 8, 2) := by decide +kernel
theorem dX8_copy_168 : decode cX8_copy 168 = .ok (.iload 5, 2) := by decide +kernel
theorem dX8_copy_170 : decode cX8_copy 170 = .ok (.if_icmp .ge 57, 3) := by decide +kernel
theorem dX8_copy_173 : decode cX8_copy 173 = .ok (.iload 7, 2) := by decide +kernel
theorem dX8_copy_175 : decode cX8_copy 175 = .ok (.ifCond .eq 13, 3) := by decide +kernel
theorem dX8_copy_178 : decode cX8_copy 178 = .ok (.iload 5, 2) := by decide +kernel
theorem dX8_copy_180 : decode cX8_copy 180 = .ok (.iconst 1, 1) := by decide +kernel
theorem dX8_copy_181 : decode cX8_copy 181 = .ok (.isub, 1) := by decide +kernel
theorem dX8_copy_182 : decode cX8_copy 182 = .ok (.iload 8, 2) := by decide +kernel
theorem dX8_copy_184 : decode cX8_copy 184 = .ok (.isub, 1) := by decide +kernel
theorem dX8_copy_185 : decode cX8_copy 185 = .ok (.goto 5, 3) := by decide +kernel
theorem dX8_copy_188 : decode cX8_copy 188 = .ok (.iload 8, 2) := by decide +kernel
theorem dX8_copy_190 : decode cX8_copy 190 = .ok (.istore 9, 2) := by decide +kernel
theorem dX8_copy_192 : decode cX8_copy 192 = .ok (.aload_n 0, 1) := by decide +kernel
theorem dX8_copy_193 : decode cX8_copy 193 = .ok (.getfield 16, 3) := by decide +kernel
theorem dX8_copy_196 : decode cX8_copy 196 = .ok (.bipush 60, 2) := by decide +kernel
theorem dX8_copy_198 : decode cX8_copy 198 = .ok (.iload_n 3, 1) := by decide +kernel
theorem dX8_copy_199 : decode cX8_copy 199 = .ok (.imul, 1) := by decide +kernel
theorem dX8_copy_200 : decode cX8_copy 200 = .ok (.iload 4, 2) := by decide +kernel
theorem dX8_copy_202 : decode cX8_copy 202 = .ok (.iadd, 1) := by decide +kernel
theorem dX8_copy_203 : decode cX8_copy 203 = .ok (.iload 9, 2) := by decide +kernel
theorem dX8_copy_205 : decode cX8_copy 205 = .ok (.iadd, 1) := by decide +kernel
theorem dX8_copy_206 : decode cX8_copy 206 = .ok (.aload_n 0, 1) := by decide +kernel
theorem dX8_copy_207 : decode cX8_copy 207 = .ok (.getfield 16, 3) := by decide +kernel
theorem dX8_copy_210 : decode cX8_copy 210 = .ok (.bipush 60, 2) := by decide +kernel
theorem dX8_copy_212 : decode cX8_copy 212 = .ok (.iload_n 1, 1) := by decide +kernel
theorem dX8_copy_213 : decode cX8_copy 213 = .ok (.imul, 1) := by decide +kernel
theorem dX8_copy_214 : decode cX8_copy 214 = .ok (.iload_n 2, 1) := by decide +kernel
theorem dX8_copy_215 : decode cX8_copy 215 = .ok (.iadd, 1) := by decide +kernel
theorem dX8_copy_216 : decode cX8_copy 216 = .ok (.iload 9, 2) := by decide +kernel
theorem dX8_copy_218 : decode cX8_copy 218 = .ok (.iadd, 1) := by decide +kernel
theorem dX8_copy_219 : decode cX8_copy 219 = .ok (.iaload, 1) := by decide +kernel
theorem dX8_copy_220 : decode cX8_copy 220 = .ok (.iastore, 1) := by decide +kernel
theorem dX8_copy_221 : decode cX8_copy 221 = .ok (.iinc 8 1, 3) := by decide +kernel
theorem dX8_copy_224 : decode cX8_copy 224 = .ok (.goto (-58), 3) := by decide +kernel
theorem dX8_copy_227 : decode cX8_copy 227 = .ok (.iload 5, 2) := by decide +kernel
theorem dX8_copy_229 : decode cX8_copy 229 = .ok (.ireturn, 1) := by decide +kernel
theorem dX8_begins_0 : decode cX8_begins 0 = .ok (.aload_n 0, 1) := by decide +kernel
theorem dX8_begins_1 : decode cX8_begins 1 = .ok (.bipush 31, 2) := by decide +kernel
theorem dX8_begins_3 : decode cX8_begins 3 = .ok (.aload_n 0, 1) := by decide +kernel
theorem dX8_begins_4 : decode cX8_begins 4 = .ok (.getfield 212, 3) := by decide +kernel
theorem dX8_begins_7 : decode cX8_begins 7 = .ok (.imul, 1) := by decide +kernel
theorem dX8_begins_8 : decode cX8_begins 8 = .ok (.iload_n 1, 1) := by decide +kernel
theorem dX8_begins_9 : decode cX8_begins 9 = .ok (.iadd, 1) := by decide +kernel
theorem dX8_begins_10 : decode cX8_begins 10 = .ok (.putfield 212, 3) := by decide +kernel
theorem dX8_begins_13 : decode cX8_begins 13 = .ok (.return_, 1) := by decide +kernel
theorem dX8_tell_0 : decode cX8_tell 0 = .ok (.aload_n 0, 1) := by decide +kernel
theorem dX8_tell_1 : decode cX8_tell 1 = .ok (.iload_n 1, 1) := by decide +kernel
theorem dX8_tell_2 : decode cX8_tell 2 = .ok (.invokevirtual 139, 3) := by decide +kernel
theorem dX8_tell_5 : decode cX8_tell 5 = .ok (.ifCond .ne 5, 3) := by decide +kernel
theorem dX8_tell_8 : decode cX8_tell 8 = .ok (.iconst (-1), 1) := by decide +kernel
theorem dX8_tell_9 : decode cX8_tell 9 = .ok (.ireturn, 1) := by decide +kernel
theorem dX8_tell_10 : decode cX8_tell 10 = .ok (.aload_n 0, 1) := by decide +kernel
theorem dX8_tell_11 : decode cX8_tell 11 = .ok (.getfield 22, 3) := by decide +kernel
theorem dX8_tell_14 : decode cX8_tell 14 = .ok (.iload_n 1, 1) := by decide +kernel
theorem dX8_tell_15 : decode cX8_tell 15 = .ok (.iaload, 1) := by decide +kernel
theorem dX8_tell_16 : decode cX8_tell 16 = .ok (.istore_n 2, 1) := by decide +kernel
theorem dX8_tell_17 : decode cX8_tell 17 = .ok (.aload_n 0, 1) := by decide +kernel
theorem dX8_tell_18 : decode cX8_tell 18 = .ok (.getfield 19, 3) := by decide +kernel
theorem dX8_tell_21 : decode cX8_tell 21 = .ok (.iload_n 1, 1) := by decide +kernel
theorem dX8_tell_22 : decode cX8_tell 22 = .ok (.iaload, 1) := by decide +kernel
theorem dX8_tell_23 : decode cX8_tell 23 = .ok (.lookupswitch 67 #[(1, 25), (2, 40)], 25) := by decide +kernel
theorem dX8_tell_48 : decode cX8_tell 48 = .ok (.aload_n 0, 1) := by decide +kernel
theorem dX8_tell_49 : decode cX8_tell 49 = .ok (.iconst 2, 1) := by decide +kernel
theorem dX8_tell_50 : decode cX8_tell 50 = .ok (.invokevirtual 215, 3) := by decide +kernel
theorem dX8_tell_53 : decode cX8_tell 53 = .ok (.aload_n 0, 1) := by decide +kernel
theorem dX8_tell_54 : decode cX8_tell 54 = .ok (.iconst 1, 1) := by decide +kernel
theorem dX8_tell_55 : decode cX8_tell 55 = .ok (.invokevirtual 215, 3) := by decide +kernel
theorem dX8_tell_58 : decode cX8_tell 58 = .ok (.iload_n 2, 1) := by decide +kernel
theorem dX8_tell_59 : decode cX8_tell 59 = .ok (.bipush 100, 2) := by decide +kernel
theorem dX8_tell_61 : decode cX8_tell 61 = .ok (.iadd, 1) := by decide +kernel
theorem dX8_tell_62 : decode cX8_tell 62 = .ok (.ireturn, 1) := by decide +kernel
theorem dX8_tell_63 : decode cX8_tell 63 = .ok (.aload_n 0, 1) := by decide +kernel
theorem dX8_tell_64 : decode cX8_tell 64 = .ok (.iconst 3, 1) := by decide +kernel
theorem dX8_tell_65 : decode cX8_tell 65 = .ok (.invokevirtual 215, 3) := by decide +kernel
theorem dX8_tell_68 : decode cX8_tell 68 = .ok (.aload_n 0, 1) := by decide +kernel
theorem dX8_tell_69 : decode cX8_tell 69 = .ok (.iconst 2, 1) := by decide +kernel
theorem dX8_tell_70 : decode cX8_tell 70 = .ok (.invokevirtual 215, 3) := by decide +kernel
theorem dX8_tell_73 : decode cX8_tell 73 = .ok (.aload_n 0, 1) := by decide +kernel
theorem dX8_tell_74 : decode cX8_tell 74 = .ok (.iconst 1, 1) := by decide +kernel
theorem dX8_tell_75 : decode cX8_tell 75 = .ok (.invokevirtual 215, 3) := by decide +kernel
theorem dX8_tell_78 : decode cX8_tell 78 = .ok (.aload_n 0, 1) := by decide +kernel
theorem dX8_tell_79 : decode cX8_tell 79 = .ok (.iconst 1, 1) := by decide +kernel
theorem dX8_tell_80 : decode cX8_tell 80 = .ok (.invokevirtual 215, 3) := by decide +kernel
theorem dX8_tell_83 : decode cX8_tell 83 = .ok (.iconst 2, 1) := by decide +kernel
theorem dX8_tell_84 : decode cX8_tell 84 = .ok (.iload_n 2, 1) := by decide +kernel
theorem dX8_tell_85 : decode cX8_tell 85 = .ok (.imul, 1) := by decide +kernel
theorem dX8_tell_86 : decode cX8_tell 86 = .ok (.bipush 100, 2) := by decide +kernel
theorem dX8_tell_88 : decode cX8_tell 88 = .ok (.iadd, 1) := by decide +kernel
theorem dX8_tell_89 : decode cX8_tell 89 = .ok (.ireturn, 1) := by decide +kernel
theorem dX8_tell_90 : decode cX8_tell 90 = .ok (.aload_n 0, 1) := by decide +kernel
theorem dX8_tell_91 : decode cX8_tell 91 = .ok (.iconst 1, 1) := by decide +kernel
theorem dX8_tell_92 : decode cX8_tell 92 = .ok (.invokevirtual 215, 3) := by decide +kernel
theorem dX8_tell_95 : decode cX8_tell 95 = .ok (.iload_n 2, 1) := by decide +kernel
theorem dX8_tell_96 : decode cX8_tell 96 = .ok (.ireturn, 1) := by decide +kernel
theorem dX8_spelt_0 : decode cX8_spelt 0 = .ok (.aload_n 0, 1) := by decide +kernel
theorem dX8_spelt_1 : decode cX8_spelt 1 = .ok (.iload_n 1, 1) := by decide +kernel
theorem dX8_spelt_2 : decode cX8_spelt 2 = .ok (.invokevirtual 139, 3) := by decide +kernel
theorem dX8_spelt_5 : decode cX8_spelt 5 = .ok (.ifCond .ne 5, 3) := by decide +kernel
theorem dX8_spelt_8 : decode cX8_spelt 8 = .ok (.iconst (-1), 1) := by decide +kernel
theorem dX8_spelt_9 : decode cX8_spelt 9 = .ok (.ireturn, 1) := by decide +kernel
theorem dX8_spelt_10 : decode cX8_spelt 10 = .ok (.aload_n 0, 1) := by decide +kernel
theorem dX8_spelt_11 : decode cX8_spelt 11 = .ok (.aload_n 0, 1) := by decide +kernel
theorem dX8_spelt_12 : decode cX8_spelt 12 = .ok (.getfield 19, 3) := by decide +kernel
theorem dX8_spelt_15 : decode cX8_spelt 15 = .ok (.iload_n 1, 1) := by decide +kernel
theorem dX8_spelt_16 : decode cX8_spelt 16 = .ok (.iaload, 1) := by decide +kernel
theorem dX8_spelt_17 : decode cX8_spelt 17 = .ok (.iconst 2, 1) := by decide +kernel
theorem dX8_spelt_18 : decode cX8_spelt 18 = .ok (.if_icmp .ne 7, 3) := by decide +kernel
theorem dX8_spelt_21 : decode cX8_spelt 21 = .ok (.iconst 5, 1) := by decide +kernel
theorem dX8_spelt_22 : decode cX8_spelt 22 = .ok (.goto 4, 3) := by decide +kernel
theorem dX8_spelt_25 : decode cX8_spelt 25 = .ok (.iconst 4, 1) := by decide +kernel
theorem dX8_spelt_26 : decode cX8_spelt 26 = .ok (.invokevirtual 215, 3) := by decide +kernel
theorem dX8_spelt_29 : decode cX8_spelt 29 = .ok (.aload_n 0, 1) := by decide +kernel
theorem dX8_spelt_30 : decode cX8_spelt 30 = .ok (.getfield 19, 3) := by decide +kernel
theorem dX8_spelt_33 : decode cX8_spelt 33 = .ok (.iload_n 1, 1) := by decide +kernel
theorem dX8_spelt_34 : decode cX8_spelt 34 = .ok (.iaload, 1) := by decide +kernel
theorem dX8_spelt_35 : decode cX8_spelt 35 = .ok (.iconst 2, 1) := by decide +kernel
theorem dX8_spelt_36 : decode cX8_spelt 36 = .ok (.if_icmp .ne 8, 3) := by decide +kernel
theorem dX8_spelt_39 : decode cX8_spelt 39 = .ok (.bipush 30, 2) := by decide +kernel
theorem dX8_spelt_41 : decode cX8_spelt 41 = .ok (.goto 11, 3) := by decide +kernel
theorem dX8_spelt_44 : decode cX8_spelt 44 = .ok (.aload_n 0, 1) := by decide +kernel
theorem dX8_spelt_45 : decode cX8_spelt 45 = .ok (.getfield 25, 3) := by decide +kernel
theorem dX8_spelt_48 : decode cX8_spelt 48 = .ok (.iconst 4, 1) := by decide +kernel
theorem dX8_spelt_49 : decode cX8_spelt 49 = .ok (.iload_n 1, 1) := by decide +kernel
theorem dX8_spelt_50 : decode cX8_spelt 50 = .ok (.imul, 1) := by decide +kernel
theorem dX8_spelt_51 : decode cX8_spelt 51 = .ok (.iaload, 1) := by decide +kernel
theorem dX8_spelt_52 : decode cX8_spelt 52 = .ok (.ireturn, 1) := by decide +kernel
theorem dX8_as_0 : decode cX8_as 0 = .ok (.aload_n 0, 1) := by decide +kernel
theorem dX8_as_1 : decode cX8_as 1 = .ok (.iconst 0, 1) := by decide +kernel
theorem dX8_as_2 : decode cX8_as 2 = .ok (.putfield 77, 3) := by decide +kernel
theorem dX8_as_5 : decode cX8_as 5 = .ok (.aload_n 0, 1) := by decide +kernel
theorem dX8_as_6 : decode cX8_as 6 = .ok (.iload_n 1, 1) := by decide +kernel
theorem dX8_as_7 : decode cX8_as 7 = .ok (.invokevirtual 139, 3) := by decide +kernel
theorem dX8_as_10 : decode cX8_as 10 = .ok (.ifCond .ne 5, 3) := by decide +kernel
theorem dX8_as_13 : decode cX8_as 13 = .ok (.iconst (-1), 1) := by decide +kernel
theorem dX8_as_14 : decode cX8_as 14 = .ok (.ireturn, 1) := by decide +kernel
theorem dX8_as_15 : decode cX8_as 15 = .ok (.iload_n 2, 1) := by decide +kernel
theorem dX8_as_16 : decode cX8_as 16 = .ok (.iconst 0, 1) := by decide +kernel
theorem dX8_as_17 : decode cX8_as 17 = .ok (.iconst 2, 1) := by decide +kernel
theorem dX8_as_18 : decode cX8_as 18 = .ok (.invokestatic 83, 3) := by decide +kernel
theorem dX8_as_21 : decode cX8_as 21 = .ok (.ifCond .ne 6, 3) := by decide +kernel
theorem dX8_as_24 : decode cX8_as 24 = .ok (.bipush (-2), 2) := by decide +kernel
theorem dX8_as_26 : decode cX8_as 26 = .ok (.ireturn, 1) := by decide +kernel
theorem dX8_as_27 : decode cX8_as 27 = .ok (.aload_n 0, 1) := by decide +kernel
theorem dX8_as_28 : decode cX8_as 28 = .ok (.getfield 19, 3) := by decide +kernel
theorem dX8_as_31 : decode cX8_as 31 = .ok (.iload_n 1, 1) := by decide +kernel
theorem dX8_as_32 : decode cX8_as 32 = .ok (.iaload, 1) := by decide +kernel
theorem dX8_as_33 : decode cX8_as 33 = .ok (.iload_n 2, 1) := by decide +kernel
theorem dX8_as_34 : decode cX8_as 34 = .ok (.if_icmp .lt 7, 3) := by decide +kernel
theorem dX8_as_37 : decode cX8_as 37 = .ok (.iconst 1, 1) := by decide +kernel
theorem dX8_as_38 : decode cX8_as 38 = .ok (.goto 8, 3) := by decide +kernel
theorem dX8_as_41 : decode cX8_as 41 = .ok (.aload_n 0, 1) := by decide +kernel
theorem dX8_as_42 : decode cX8_as 42 = .ok (.iconst 2, 1) := by decide +kernel
theorem dX8_as_43 : decode cX8_as 43 = .ok (.invokevirtual 104, 3) := by decide +kernel
theorem dX8_as_46 : decode cX8_as 46 = .ok (.ireturn, 1) := by decide +kernel
theorem dX8_trace_0 : decode cX8_trace 0 = .ok (.aload_n 0, 1) := by decide +kernel
theorem dX8_trace_1 : decode cX8_trace 1 = .ok (.getfield 212, 3) := by decide +kernel
theorem dX8_trace_4 : decode cX8_trace 4 = .ok (.ireturn, 1) := by decide +kernel
theorem dX8_fault_0 : decode cX8_fault 0 = .ok (.aload_n 0, 1) := by decide +kernel
theorem dX8_fault_1 : decode cX8_fault 1 = .ok (.getfield 77, 3) := by decide +kernel
theorem dX8_fault_4 : decode cX8_fault 4 = .ok (.ireturn, 1) := by decide +kernel
theorem dX8_many_0 : decode cX8_many 0 = .ok (.iload_n 1, 1) := by decide +kernel
theorem dX8_many_1 : decode cX8_many 1 = .ok (.tableswitch 55 0 3 #[31, 36, 41, 50], 31) := by decide +kernel
theorem dX8_many_32 : decode cX8_many 32 = .ok (.aload_n 0, 1) := by decide +kernel
theorem dX8_many_33 : decode cX8_many 33 = .ok (.getfield 87, 3) := by decide +kernel
theorem dX8_many_36 : decode cX8_many 36 = .ok (.ireturn, 1) := by decide +kernel
theorem dX8_many_37 : decode cX8_many 37 = .ok (.aload_n 0, 1) := by decide +kernel
theorem dX8_many_38 : decode cX8_many 38 = .ok (.getfield 114, 3) := by decide +kernel
theorem dX8_many_41 : decode cX8_many 41 = .ok (.ireturn, 1) := by decide +kernel
theorem dX8_many_42 : decode cX8_many 42 = .ok (.aload_n 0, 1) := by decide +kernel
theorem dX8_many_43 : decode cX8_many 43 = .ok (.invokevirtual 145, 3) := by decide +kernel
theorem dX8_many_46 : decode cX8_many 46 = .ok (.aload_n 0, 1) := by decide +kernel
theorem dX8_many_47 : decode cX8_many 47 = .ok (.invokevirtual 158, 3) := by decide +kernel
theorem dX8_many_50 : decode cX8_many 50 = .ok (.ireturn, 1) := by decide +kernel
theorem dX8_many_51 : decode cX8_many 51 = .ok (.aload_n 0, 1) := by decide +kernel
theorem dX8_many_52 : decode cX8_many 52 = .ok (.getfield 117, 3) := by decide +kernel
theorem dX8_many_55 : decode cX8_many 55 = .ok (.ireturn, 1) := by decide +kernel
theorem dX8_many_56 : decode cX8_many 56 = .ok (.bipush (-2), 2) := by decide +kernel
theorem dX8_many_58 : decode cX8_many 58 = .ok (.ireturn, 1) := by decide +kernel
theorem dJ6_bitCount_0f7a4_0 : decode cJ6_bitCount_0f7a4 0 = .ok (.iload_n 0, 1) := by decide +kernel
theorem dJ6_bitCount_0f7a4_1 : decode cJ6_bitCount_0f7a4 1 = .ok (.iload_n 0, 1) := by decide +kernel
theorem dJ6_bitCount_0f7a4_2 : decode cJ6_bitCount_0f7a4 2 = .ok (.iconst 1, 1) := by decide +kernel
theorem dJ6_bitCount_0f7a4_3 : decode cJ6_bitCount_0f7a4 3 = .ok (.iushr, 1) := by decide +kernel
theorem dJ6_bitCount_0f7a4_4 : decode cJ6_bitCount_0f7a4 4 = .ok (.ldc_w 265, 3) := by decide +kernel
theorem dJ6_bitCount_0f7a4_7 : decode cJ6_bitCount_0f7a4 7 = .ok (.iand, 1) := by decide +kernel
theorem dJ6_bitCount_0f7a4_8 : decode cJ6_bitCount_0f7a4 8 = .ok (.isub, 1) := by decide +kernel
theorem dJ6_bitCount_0f7a4_9 : decode cJ6_bitCount_0f7a4 9 = .ok (.istore_n 0, 1) := by decide +kernel
theorem dJ6_bitCount_0f7a4_10 : decode cJ6_bitCount_0f7a4 10 = .ok (.iload_n 0, 1) := by decide +kernel
theorem dJ6_bitCount_0f7a4_11 : decode cJ6_bitCount_0f7a4 11 = .ok (.ldc_w 266, 3) := by decide +kernel
theorem dJ6_bitCount_0f7a4_14 : decode cJ6_bitCount_0f7a4 14 = .ok (.iand, 1) := by decide +kernel
theorem dJ6_bitCount_0f7a4_15 : decode cJ6_bitCount_0f7a4 15 = .ok (.iload_n 0, 1) := by decide +kernel
theorem dJ6_bitCount_0f7a4_16 : decode cJ6_bitCount_0f7a4 16 = .ok (.iconst 2, 1) := by decide +kernel
theorem dJ6_bitCount_0f7a4_17 : decode cJ6_bitCount_0f7a4 17 = .ok (.iushr, 1) := by decide +kernel
theorem dJ6_bitCount_0f7a4_18 : decode cJ6_bitCount_0f7a4 18 = .ok (.ldc_w 266, 3) := by decide +kernel
theorem dJ6_bitCount_0f7a4_21 : decode cJ6_bitCount_0f7a4 21 = .ok (.iand, 1) := by decide +kernel
theorem dJ6_bitCount_0f7a4_22 : decode cJ6_bitCount_0f7a4 22 = .ok (.iadd, 1) := by decide +kernel
theorem dJ6_bitCount_0f7a4_23 : decode cJ6_bitCount_0f7a4 23 = .ok (.istore_n 0, 1) := by decide +kernel
theorem dJ6_bitCount_0f7a4_24 : decode cJ6_bitCount_0f7a4 24 = .ok (.iload_n 0, 1) := by decide +kernel
theorem dJ6_bitCount_0f7a4_25 : decode cJ6_bitCount_0f7a4 25 = .ok (.iload_n 0, 1) := by decide +kernel
theorem dJ6_bitCount_0f7a4_26 : decode cJ6_bitCount_0f7a4 26 = .ok (.iconst 4, 1) := by decide +kernel
theorem dJ6_bitCount_0f7a4_27 : decode cJ6_bitCount_0f7a4 27 = .ok (.iushr, 1) := by decide +kernel
theorem dJ6_bitCount_0f7a4_28 : decode cJ6_bitCount_0f7a4 28 = .ok (.iadd, 1) := by decide +kernel
theorem dJ6_bitCount_0f7a4_29 : decode cJ6_bitCount_0f7a4 29 = .ok (.ldc_w 267, 3) := by decide +kernel
theorem dJ6_bitCount_0f7a4_32 : decode cJ6_bitCount_0f7a4 32 = .ok (.iand, 1) := by decide +kernel
theorem dJ6_bitCount_0f7a4_33 : decode cJ6_bitCount_0f7a4 33 = .ok (.istore_n 0, 1) := by decide +kernel
theorem dJ6_bitCount_0f7a4_34 : decode cJ6_bitCount_0f7a4 34 = .ok (.iload_n 0, 1) := by decide +kernel
theorem dJ6_bitCount_0f7a4_35 : decode cJ6_bitCount_0f7a4 35 = .ok (.iload_n 0, 1) := by decide +kernel
theorem dJ6_bitCount_0f7a4_36 : decode cJ6_bitCount_0f7a4 36 = .ok (.bipush 8, 2) := by decide +kernel
theorem dJ6_bitCount_0f7a4_38 : decode cJ6_bitCount_0f7a4 38 = .ok (.iushr, 1) := by decide +kernel
theorem dJ6_bitCount_0f7a4_39 : decode cJ6_bitCount_0f7a4 39 = .ok (.iadd, 1) := by decide +kernel
theorem dJ6_bitCount_0f7a4_40 : decode cJ6_bitCount_0f7a4 40 = .ok (.istore_n 0, 1) := by decide +kernel
theorem dJ6_bitCount_0f7a4_41 : decode cJ6_bitCount_0f7a4 41 = .ok (.iload_n 0, 1) := by decide +kernel
theorem dJ6_bitCount_0f7a4_42 : decode cJ6_bitCount_0f7a4 42 = .ok (.iload_n 0, 1) := by decide +kernel
theorem dJ6_bitCount_0f7a4_43 : decode cJ6_bitCount_0f7a4 43 = .ok (.bipush 16, 2) := by decide +kernel
theorem dJ6_bitCount_0f7a4_45 : decode cJ6_bitCount_0f7a4 45 = .ok (.iushr, 1) := by decide +kernel
theorem dJ6_bitCount_0f7a4_46 : decode cJ6_bitCount_0f7a4 46 = .ok (.iadd, 1) := by decide +kernel
theorem dJ6_bitCount_0f7a4_47 : decode cJ6_bitCount_0f7a4 47 = .ok (.istore_n 0, 1) := by decide +kernel
theorem dJ6_bitCount_0f7a4_48 : decode cJ6_bitCount_0f7a4 48 = .ok (.iload_n 0, 1) := by decide +kernel
theorem dJ6_bitCount_0f7a4_49 : decode cJ6_bitCount_0f7a4 49 = .ok (.bipush 63, 2) := by decide +kernel
theorem dJ6_bitCount_0f7a4_51 : decode cJ6_bitCount_0f7a4 51 = .ok (.iand, 1) := by decide +kernel
theorem dJ6_bitCount_0f7a4_52 : decode cJ6_bitCount_0f7a4 52 = .ok (.ireturn, 1) := by decide +kernel
theorem dJ9_max_7cf53_0 : decode cJ9_max_7cf53 0 = .ok (.iload_n 0, 1) := by decide +kernel
theorem dJ9_max_7cf53_1 : decode cJ9_max_7cf53 1 = .ok (.iload_n 1, 1) := by decide +kernel
theorem dJ9_max_7cf53_2 : decode cJ9_max_7cf53 2 = .ok (.if_icmp .lt 7, 3) := by decide +kernel
theorem dJ9_max_7cf53_5 : decode cJ9_max_7cf53 5 = .ok (.iload_n 0, 1) := by decide +kernel
theorem dJ9_max_7cf53_6 : decode cJ9_max_7cf53 6 = .ok (.goto 4, 3) := by decide +kernel
theorem dJ9_max_7cf53_9 : decode cJ9_max_7cf53 9 = .ok (.iload_n 1, 1) := by decide +kernel
theorem dJ9_max_7cf53_10 : decode cJ9_max_7cf53 10 = .ok (.ireturn, 1) := by decide +kernel
theorem dJ9_min_7cf53_0 : decode cJ9_min_7cf53 0 = .ok (.iload_n 0, 1) := by decide +kernel
theorem dJ9_min_7cf53_1 : decode cJ9_min_7cf53 1 = .ok (.iload_n 1, 1) := by decide +kernel
theorem dJ9_min_7cf53_2 : decode cJ9_min_7cf53 2 = .ok (.if_icmp .gt 7, 3) := by decide +kernel
theorem dJ9_min_7cf53_5 : decode cJ9_min_7cf53 5 = .ok (.iload_n 0, 1) := by decide +kernel
theorem dJ9_min_7cf53_6 : decode cJ9_min_7cf53 6 = .ok (.goto 4, 3) := by decide +kernel
theorem dJ9_min_7cf53_9 : decode cJ9_min_7cf53 9 = .ok (.iload_n 1, 1) := by decide +kernel
theorem dJ9_min_7cf53_10 : decode cJ9_min_7cf53 10 = .ok (.ireturn, 1) := by decide +kernel
theorem dJ7_fill_d0a16_0 : decode cJ7_fill_d0a16 0 = .ok (.iconst 0, 1) := by decide +kernel
theorem dJ7_fill_d0a16_1 : decode cJ7_fill_d0a16 1 = .ok (.istore_n 3, 1) := by decide +kernel
theorem dJ7_fill_d0a16_2 : decode cJ7_fill_d0a16 2 = .ok (.aload_n 0, 1) := by decide +kernel
theorem dJ7_fill_d0a16_3 : decode cJ7_fill_d0a16 3 = .ok (.arraylength, 1) := by decide +kernel
theorem dJ7_fill_d0a16_4 : decode cJ7_fill_d0a16 4 = .ok (.istore 4, 2) := by decide +kernel
theorem dJ7_fill_d0a16_6 : decode cJ7_fill_d0a16 6 = .ok (.iload_n 3, 1) := by decide +kernel
theorem dJ7_fill_d0a16_7 : decode cJ7_fill_d0a16 7 = .ok (.iload 4, 2) := by decide +kernel
theorem dJ7_fill_d0a16_9 : decode cJ7_fill_d0a16 9 = .ok (.if_icmp .ge 13, 3) := by decide +kernel
theorem dJ7_fill_d0a16_12 : decode cJ7_fill_d0a16 12 = .ok (.aload_n 0, 1) := by decide +kernel
theorem dJ7_fill_d0a16_13 : decode cJ7_fill_d0a16 13 = .ok (.iload_n 3, 1) := by decide +kernel
theorem dJ7_fill_d0a16_14 : decode cJ7_fill_d0a16 14 = .ok (.lload_n 1, 1) := by decide +kernel
theorem dJ7_fill_d0a16_15 : decode cJ7_fill_d0a16 15 = .ok (.lastore, 1) := by decide +kernel
theorem dJ7_fill_d0a16_16 : decode cJ7_fill_d0a16 16 = .ok (.iinc 3 1, 3) := by decide +kernel
theorem dJ7_fill_d0a16_19 : decode cJ7_fill_d0a16 19 = .ok (.goto (-13), 3) := by decide +kernel
theorem dJ7_fill_d0a16_22 : decode cJ7_fill_d0a16 22 = .ok (.return_, 1) := by decide +kernel
theorem dJ7_fill_53178_0 : decode cJ7_fill_53178 0 = .ok (.iconst 0, 1) := by decide +kernel
theorem dJ7_fill_53178_1 : decode cJ7_fill_53178 1 = .ok (.istore_n 2, 1) := by decide +kernel
theorem dJ7_fill_53178_2 : decode cJ7_fill_53178 2 = .ok (.aload_n 0, 1) := by decide +kernel
theorem dJ7_fill_53178_3 : decode cJ7_fill_53178 3 = .ok (.arraylength, 1) := by decide +kernel
theorem dJ7_fill_53178_4 : decode cJ7_fill_53178 4 = .ok (.istore_n 3, 1) := by decide +kernel
theorem dJ7_fill_53178_5 : decode cJ7_fill_53178 5 = .ok (.iload_n 2, 1) := by decide +kernel
theorem dJ7_fill_53178_6 : decode cJ7_fill_53178 6 = .ok (.iload_n 3, 1) := by decide +kernel
theorem dJ7_fill_53178_7 : decode cJ7_fill_53178 7 = .ok (.if_icmp .ge 13, 3) := by decide +kernel
theorem dJ7_fill_53178_10 : decode cJ7_fill_53178 10 = .ok (.aload_n 0, 1) := by decide +kernel
theorem dJ7_fill_53178_11 : decode cJ7_fill_53178 11 = .ok (.iload_n 2, 1) := by decide +kernel
theorem dJ7_fill_53178_12 : decode cJ7_fill_53178 12 = .ok (.iload_n 1, 1) := by decide +kernel
theorem dJ7_fill_53178_13 : decode cJ7_fill_53178 13 = .ok (.iastore, 1) := by decide +kernel
theorem dJ7_fill_53178_14 : decode cJ7_fill_53178 14 = .ok (.iinc 2 1, 3) := by decide +kernel
theorem dJ7_fill_53178_17 : decode cJ7_fill_53178 17 = .ok (.goto (-12), 3) := by decide +kernel
theorem dJ7_fill_53178_20 : decode cJ7_fill_53178 20 = .ok (.return_, 1) := by decide +kernel
theorem dL_law_0 : decode cL_law 0 = .ok (.new 7, 3) := by decide +kernel
theorem dL_law_3 : decode cL_law 3 = .ok (.dup, 1) := by decide +kernel
theorem dL_law_4 : decode cL_law 4 = .ok (.invokespecial 9, 3) := by decide +kernel
theorem dL_law_7 : decode cL_law 7 = .ok (.astore_n 1, 1) := by decide +kernel
theorem dL_law_8 : decode cL_law 8 = .ok (.new 10, 3) := by decide +kernel
theorem dL_law_11 : decode cL_law 11 = .ok (.dup, 1) := by decide +kernel
theorem dL_law_12 : decode cL_law 12 = .ok (.invokespecial 12, 3) := by decide +kernel
theorem dL_law_15 : decode cL_law 15 = .ok (.astore_n 2, 1) := by decide +kernel
theorem dL_law_16 : decode cL_law 16 = .ok (.iconst 0, 1) := by decide +kernel
theorem dL_law_17 : decode cL_law 17 = .ok (.istore_n 3, 1) := by decide +kernel
theorem dL_law_18 : decode cL_law 18 = .ok (.iload_n 3, 1) := by decide +kernel
theorem dL_law_19 : decode cL_law 19 = .ok (.aload_n 0, 1) := by decide +kernel
theorem dL_law_20 : decode cL_law 20 = .ok (.arraylength, 1) := by decide +kernel
theorem dL_law_21 : decode cL_law 21 = .ok (.bipush 7, 2) := by decide +kernel
theorem dL_law_23 : decode cL_law 23 = .ok (.isub, 1) := by decide +kernel
theorem dL_law_24 : decode cL_law 24 = .ok (.if_icmp .gt 1022, 3) := by decide +kernel
theorem dL_law_27 : decode cL_law 27 = .ok (.aload_n 0, 1) := by decide +kernel
theorem dL_law_28 : decode cL_law 28 = .ok (.iload_n 3, 1) := by decide +kernel
theorem dL_law_29 : decode cL_law 29 = .ok (.iaload, 1) := by decide +kernel
theorem dL_law_30 : decode cL_law 30 = .ok (.bipush 31, 2) := by decide +kernel
theorem dL_law_32 : decode cL_law 32 = .ok (.iand, 1) := by decide +kernel
theorem dL_law_33 : decode cL_law 33 = .ok (.tableswitch 1007 0 27 #[127, 180, 213, 256, 279, 292, 355, 388, 411, 435, 459, 472, 485, 560, 583, 606, 629, 663, 706, 729, 772, 816, 879, 902, 925, 958, 971, 984], 127) := by decide +kernel
theorem dL_law_160 : decode cL_law 160 = .ok (.aload_n 1, 1) := by decide +kernel
theorem dL_law_161 : decode cL_law 161 = .ok (.aload_n 0, 1) := by decide +kernel
theorem dL_law_162 : decode cL_law 162 = .ok (.iload_n 3, 1) := by decide +kernel
theorem dL_law_163 : decode cL_law 163 = .ok (.iconst 1, 1) := by decide +kernel
theorem dL_law_164 : decode cL_law 164 = .ok (.iadd, 1) := by decide +kernel
theorem dL_law_165 : decode cL_law 165 = .ok (.iaload, 1) := by decide +kernel
theorem dL_law_166 : decode cL_law 166 = .ok (.aload_n 0, 1) := by decide +kernel
theorem dL_law_167 : decode cL_law 167 = .ok (.iload_n 3, 1) := by decide +kernel
theorem dL_law_168 : decode cL_law 168 = .ok (.iconst 2, 1) := by decide +kernel
theorem dL_law_169 : decode cL_law 169 = .ok (.iadd, 1) := by decide +kernel
theorem dL_law_170 : decode cL_law 170 = .ok (.iaload, 1) := by decide +kernel
theorem dL_law_171 : decode cL_law 171 = .ok (.aload_n 0, 1) := by decide +kernel
theorem dL_law_172 : decode cL_law 172 = .ok (.iload_n 3, 1) := by decide +kernel
theorem dL_law_173 : decode cL_law 173 = .ok (.iconst 3, 1) := by decide +kernel
theorem dL_law_174 : decode cL_law 174 = .ok (.iadd, 1) := by decide +kernel
theorem dL_law_175 : decode cL_law 175 = .ok (.iaload, 1) := by decide +kernel
theorem dL_law_176 : decode cL_law 176 = .ok (.aload_n 0, 1) := by decide +kernel
theorem dL_law_177 : decode cL_law 177 = .ok (.iload_n 3, 1) := by decide +kernel
theorem dL_law_178 : decode cL_law 178 = .ok (.iconst 4, 1) := by decide +kernel
theorem dL_law_179 : decode cL_law 179 = .ok (.iadd, 1) := by decide +kernel
theorem dL_law_180 : decode cL_law 180 = .ok (.iaload, 1) := by decide +kernel
theorem dL_law_181 : decode cL_law 181 = .ok (.invokevirtual 13, 3) := by decide +kernel
theorem dL_law_184 : decode cL_law 184 = .ok (.aload_n 2, 1) := by decide +kernel
theorem dL_law_185 : decode cL_law 185 = .ok (.aload_n 0, 1) := by decide +kernel
theorem dL_law_186 : decode cL_law 186 = .ok (.iload_n 3, 1) := by decide +kernel
theorem dL_law_187 : decode cL_law 187 = .ok (.iconst 1, 1) := by decide +kernel
theorem dL_law_188 : decode cL_law 188 = .ok (.iadd, 1) := by decide +kernel
theorem dL_law_189 : decode cL_law 189 = .ok (.iaload, 1) := by decide +kernel
theorem dL_law_190 : decode cL_law 190 = .ok (.aload_n 0, 1) := by decide +kernel
theorem dL_law_191 : decode cL_law 191 = .ok (.iload_n 3, 1) := by decide +kernel
theorem dL_law_192 : decode cL_law 192 = .ok (.iconst 2, 1) := by decide +kernel
theorem dL_law_193 : decode cL_law 193 = .ok (.iadd, 1) := by decide +kernel
theorem dL_law_194 : decode cL_law 194 = .ok (.iaload, 1) := by decide +kernel
theorem dL_law_195 : decode cL_law 195 = .ok (.aload_n 0, 1) := by decide +kernel
theorem dL_law_196 : decode cL_law 196 = .ok (.iload_n 3, 1) := by decide +kernel
theorem dL_law_197 : decode cL_law 197 = .ok (.iconst 3, 1) := by decide +kernel
theorem dL_law_198 : decode cL_law 198 = .ok (.iadd, 1) := by decide +kernel
theorem dL_law_199 : decode cL_law 199 = .ok (.iaload, 1) := by decide +kernel
theorem dL_law_200 : decode cL_law 200 = .ok (.aload_n 0, 1) := by decide +kernel
theorem dL_law_201 : decode cL_law 201 = .ok (.iload_n 3, 1) := by decide +kernel
theorem dL_law_202 : decode cL_law 202 = .ok (.iconst 4, 1) := by decide +kernel
theorem dL_law_203 : decode cL_law 203 = .ok (.iadd, 1) := by decide +kernel
theorem dL_law_204 : decode cL_law 204 = .ok (.iaload, 1) := by decide +kernel
theorem dL_law_205 : decode cL_law 205 = .ok (.invokevirtual 17, 3) := by decide +kernel
theorem dL_law_208 : decode cL_law 208 = .ok (.if_icmp .eq 832, 3) := by decide +kernel
theorem dL_law_211 : decode cL_law 211 = .ok (.iconst 0, 1) := by decide +kernel
theorem dL_law_212 : decode cL_law 212 = .ok (.ireturn, 1) := by decide +kernel
theorem dL_law_213 : decode cL_law 213 = .ok (.aload_n 1, 1) := by decide +kernel
theorem dL_law_214 : decode cL_law 214 = .ok (.aload_n 0, 1) := by decide +kernel
theorem dL_law_215 : decode cL_law 215 = .ok (.iload_n 3, 1) := by decide +kernel
theorem dL_law_216 : decode cL_law 216 = .ok (.iconst 1, 1) := by decide +kernel
theorem dL_law_217 : decode cL_law 217 = .ok (.iadd, 1) := by decide +kernel
theorem dL_law_218 : decode cL_law 218 = .ok (.iaload, 1) := by decide +kernel
theorem dL_law_219 : decode cL_law 219 = .ok (.aload_n 0, 1) := by decide +kernel
theorem dL_law_220 : decode cL_law 220 = .ok (.iload_n 3, 1) := by decide +kernel
theorem dL_law_221 : decode cL_law 221 = .ok (.iconst 2, 1) := by decide +kernel
theorem dL_law_222 : decode cL_law 222 = .ok (.iadd, 1) := by decide +kernel
theorem dL_law_223 : decode cL_law 223 = .ok (.iaload, 1) := by decide +kernel
theorem dL_law_224 : decode cL_law 224 = .ok (.invokevirtual 18, 3) := by decide +kernel
theorem dL_law_227 : decode cL_law 227 = .ok (.aload_n 2, 1) := by decide +kernel
theorem dL_law_228 : decode cL_law 228 = .ok (.aload_n 0, 1) := by decide +kernel
theorem dL_law_229 : decode cL_law 229 = .ok (.iload_n 3, 1) := by decide +kernel
theorem dL_law_230 : decode cL_law 230 = .ok (.iconst 1, 1) := by decide +kernel
theorem dL_law_231 : decode cL_law 231 = .ok (.iadd, 1) := by decide +kernel
theorem dL_law_232 : decode cL_law 232 = .ok (.iaload, 1) := by decide +kernel
theorem dL_law_233 : decode cL_law 233 = .ok (.aload_n 0, 1) := by decide +kernel
theorem dL_law_234 : decode cL_law 234 = .ok (.iload_n 3, 1) := by decide +kernel
theorem dL_law_235 : decode cL_law 235 = .ok (.iconst 2, 1) := by decide +kernel
theorem dL_law_236 : decode cL_law 236 = .ok (.iadd, 1) := by decide +kernel
theorem dL_law_237 : decode cL_law 237 = .ok (.iaload, 1) := by decide +kernel
theorem dL_law_238 : decode cL_law 238 = .ok (.invokevirtual 22, 3) := by decide +kernel
theorem dL_law_241 : decode cL_law 241 = .ok (.if_icmp .eq 799, 3) := by decide +kernel
theorem dL_law_244 : decode cL_law 244 = .ok (.iconst 0, 1) := by decide +kernel
theorem dL_law_245 : decode cL_law 245 = .ok (.ireturn, 1) := by decide +kernel
theorem dL_law_246 : decode cL_law 246 = .ok (.aload_n 1, 1) := by decide +kernel
theorem dL_law_247 : decode cL_law 247 = .ok (.aload_n 0, 1) := by decide +kernel
theorem dL_law_248 : decode cL_law 248 = .ok (.iload_n 3, 1) := by decide +kernel
theorem dL_law_249 : decode cL_law 249 = .ok (.iconst 1, 1) := by decide +kernel
theorem dL_law_250 : decode cL_law 250 = .ok (.iadd, 1) := by decide +kernel
theorem dL_law_251 : decode cL_law 251 = .ok (.iaload, 1) := by decide +kernel
theorem dL_law_252 : decode cL_law 252 = .ok (.aload_n 0, 1) := by decide +kernel
theorem dL_law_253 : decode cL_law 253 = .ok (.iload_n 3, 1) := by decide +kernel
theorem dL_law_254 : decode cL_law 254 = .ok (.iconst 2, 1) := by decide +kernel
theorem dL_law_255 : decode cL_law 255 = .ok (.iadd, 1) := by decide +kernel
theorem dL_law_256 : decode cL_law 256 = .ok (.iaload, 1) := by decide +kernel
theorem dL_law_257 : decode cL_law 257 = .ok (.aload_n 0, 1) := by decide +kernel
theorem dL_law_258 : decode cL_law 258 = .ok (.iload_n 3, 1) := by decide +kernel
theorem dL_law_259 : decode cL_law 259 = .ok (.iconst 3, 1) := by decide +kernel
theorem dL_law_260 : decode cL_law 260 = .ok (.iadd, 1) := by decide +kernel
theorem dL_law_261 : decode cL_law 261 = .ok (.iaload, 1) := by decide +kernel
theorem dL_law_262 : decode cL_law 262 = .ok (.invokevirtual 23, 3) := by decide +kernel
theorem dL_law_265 : decode cL_law 265 = .ok (.aload_n 2, 1) := by decide +kernel
theorem dL_law_266 : decode cL_law 266 = .ok (.aload_n 0, 1) := by decide +kernel
theorem dL_law_267 : decode cL_law 267 = .ok (.iload_n 3, 1) := by decide +kernel
theorem dL_law_268 : decode cL_law 268 = .ok (.iconst 1, 1) := by decide +kernel
theorem dL_law_269 : decode cL_law 269 = .ok (.iadd, 1) := by decide +kernel
theorem dL_law_270 : decode cL_law 270 = .ok (.iaload, 1) := by decide +kernel
theorem dL_law_271 : decode cL_law 271 = .ok (.aload_n 0, 1) := by decide +kernel
theorem dL_law_272 : decode cL_law 272 = .ok (.iload_n 3, 1) := by decide +kernel
theorem dL_law_273 : decode cL_law 273 = .ok (.iconst 2, 1) := by decide +kernel
theorem dL_law_274 : decode cL_law 274 = .ok (.iadd, 1) := by decide +kernel
theorem dL_law_275 : decode cL_law 275 = .ok (.iaload, 1) := by decide +kernel
theorem dL_law_276 : decode cL_law 276 = .ok (.aload_n 0, 1) := by decide +kernel
theorem dL_law_277 : decode cL_law 277 = .ok (.iload_n 3, 1) := by decide +kernel
theorem dL_law_278 : decode cL_law 278 = .ok (.iconst 3, 1) := by decide +kernel
theorem dL_law_279 : decode cL_law 279 = .ok (.iadd, 1) := by decide +kernel
theorem dL_law_280 : decode cL_law 280 = .ok (.iaload, 1) := by decide +kernel
theorem dL_law_281 : decode cL_law 281 = .ok (.invokevirtual 27, 3) := by decide +kernel
theorem dL_law_284 : decode cL_law 284 = .ok (.if_icmp .eq 756, 3) := by decide +kernel
theorem dL_law_287 : decode cL_law 287 = .ok (.iconst 0, 1) := by decide +kernel
theorem dL_law_288 : decode cL_law 288 = .ok (.ireturn, 1) := by decide +kernel
theorem dL_law_289 : decode cL_law 289 = .ok (.aload_n 1, 1) := by decide +kernel
theorem dL_law_290 : decode cL_law 290 = .ok (.aload_n 0, 1) := by decide +kernel
theorem dL_law_291 : decode cL_law 291 = .ok (.iload_n 3, 1) := by decide +kernel
theorem dL_law_292 : decode cL_law 292 = .ok (.iconst 1, 1) := by decide +kernel
theorem dL_law_293 : decode cL_law 293 = .ok (.iadd, 1) := by decide +kernel
theorem dL_law_294 : decode cL_law 294 = .ok (.iaload, 1) := by decide +kernel
theorem dL_law_295 : decode cL_law 295 = .ok (.invokevirtual 28, 3) := by decide +kernel
theorem dL_law_298 : decode cL_law 298 = .ok (.aload_n 2, 1) := by decide +kernel
theorem dL_law_299 : decode cL_law 299 = .ok (.aload_n 0, 1) := by decide +kernel
theorem dL_law_300 : decode cL_law 300 = .ok (.iload_n 3, 1) := by decide +kernel
theorem dL_law_301 : decode cL_law 301 = .ok (.iconst 1, 1) := by decide +kernel
theorem dL_law_302 : decode cL_law 302 = .ok (.iadd, 1) := by decide +kernel
theorem dL_law_303 : decode cL_law 303 = .ok (.iaload, 1) := by decide +kernel
theorem dL_law_304 : decode cL_law 304 = .ok (.invokevirtual 32, 3) := by decide +kernel
theorem dL_law_307 : decode cL_law 307 = .ok (.if_icmp .eq 733, 3) := by decide +kernel
theorem dL_law_310 : decode cL_law 310 = .ok (.iconst 0, 1) := by decide +kernel
theorem dL_law_311 : decode cL_law 311 = .ok (.ireturn, 1) := by decide +kernel
theorem dL_law_312 : decode cL_law 312 = .ok (.aload_n 1, 1) := by decide +kernel
theorem dL_law_313 : decode cL_law 313 = .ok (.invokevirtual 33, 3) := by decide +kernel
theorem dL_law_316 : decode cL_law 316 = .ok (.aload_n 2, 1) := by decide +kernel
theorem dL_law_317 : decode cL_law 317 = .ok (.invokevirtual 37, 3) := by decide +kernel
theorem dL_law_320 : decode cL_law 320 = .ok (.if_icmp .eq 720, 3) := by decide +kernel
theorem dL_law_323 : decode cL_law 323 = .ok (.iconst 0, 1) := by decide +kernel
theorem dL_law_324 : decode cL_law 324 = .ok (.ireturn, 1) := by decide +kernel
theorem dL_law_325 : decode cL_law 325 = .ok (.aload_n 1, 1) := by decide +kernel
theorem dL_law_326 : decode cL_law 326 = .ok (.aload_n 0, 1) := by decide +kernel
theorem dL_law_327 : decode cL_law 327 = .ok (.iload_n 3, 1) := by decide +kernel
theorem dL_law_328 : decode cL_law 328 = .ok (.iconst 1, 1) := by decide +kernel
theorem dL_law_329 : decode cL_law 329 = .ok (.iadd, 1) := by decide +kernel
theorem dL_law_330 : decode cL_law 330 = .ok (.iaload, 1) := by decide +kernel
theorem dL_law_331 : decode cL_law 331 = .ok (.aload_n 0, 1) := by decide +kernel
theorem dL_law_332 : decode cL_law 332 = .ok (.iload_n 3, 1) := by decide +kernel
theorem dL_law_333 : decode cL_law 333 = .ok (.iconst 2, 1) := by decide +kernel
theorem dL_law_334 : decode cL_law 334 = .ok (.iadd, 1) := by decide +kernel
theorem dL_law_335 : decode cL_law 335 = .ok (.iaload, 1) := by decide +kernel
theorem dL_law_336 : decode cL_law 336 = .ok (.aload_n 0, 1) := by decide +kernel
theorem dL_law_337 : decode cL_law 337 = .ok (.iload_n 3, 1) := by decide +kernel
theorem dL_law_338 : decode cL_law 338 = .ok (.iconst 3, 1) := by decide +kernel
theorem dL_law_339 : decode cL_law 339 = .ok (.iadd, 1) := by decide +kernel
theorem dL_law_340 : decode cL_law 340 = .ok (.iaload, 1) := by decide +kernel
theorem dL_law_341 : decode cL_law 341 = .ok (.aload_n 0, 1) := by decide +kernel
theorem dL_law_342 : decode cL_law 342 = .ok (.iload_n 3, 1) := by decide +kernel
theorem dL_law_343 : decode cL_law 343 = .ok (.iconst 4, 1) := by decide +kernel
theorem dL_law_344 : decode cL_law 344 = .ok (.iadd, 1) := by decide +kernel
theorem dL_law_345 : decode cL_law 345 = .ok (.iaload, 1) := by decide +kernel
theorem dL_law_346 : decode cL_law 346 = .ok (.aload_n 0, 1) := by decide +kernel
theorem dL_law_347 : decode cL_law 347 = .ok (.iload_n 3, 1) := by decide +kernel
theorem dL_law_348 : decode cL_law 348 = .ok (.iconst 5, 1) := by decide +kernel
theorem dL_law_349 : decode cL_law 349 = .ok (.iadd, 1) := by decide +kernel
theorem dL_law_350 : decode cL_law 350 = .ok (.iaload, 1) := by decide +kernel
theorem dL_law_351 : decode cL_law 351 = .ok (.invokevirtual 38, 3) := by decide +kernel
theorem dL_law_354 : decode cL_law 354 = .ok (.aload_n 2, 1) := by decide +kernel
theorem dL_law_355 : decode cL_law 355 = .ok (.aload_n 0, 1) := by decide +kernel
theorem dL_law_356 : decode cL_law 356 = .ok (.iload_n 3, 1) := by decide +kernel
theorem dL_law_357 : decode cL_law 357 = .ok (.iconst 1, 1) := by decide +kernel
theorem dL_law_358 : decode cL_law 358 = .ok (.iadd, 1) := by decide +kernel
theorem dL_law_359 : decode cL_law 359 = .ok (.iaload, 1) := by decide +kernel
theorem dL_law_360 : decode cL_law 360 = .ok (.aload_n 0, 1) := by decide +kernel
theorem dL_law_361 : decode cL_law 361 = .ok (.iload_n 3, 1) := by decide +kernel
theorem dL_law_362 : decode cL_law 362 = .ok (.iconst 2, 1) := by decide +kernel
theorem dL_law_363 : decode cL_law 363 = .ok (.iadd, 1) := by decide +kernel
theorem dL_law_364 : decode cL_law 364 = .ok (.iaload, 1) := by decide +kernel
theorem dL_law_365 : decode cL_law 365 = .ok (.aload_n 0, 1) := by decide +kernel
theorem dL_law_366 : decode cL_law 366 = .ok (.iload_n 3, 1) := by decide +kernel
theorem dL_law_367 : decode cL_law 367 = .ok (.iconst 3, 1) := by decide +kernel
theorem dL_law_368 : decode cL_law 368 = .ok (.iadd, 1) := by decide +kernel
theorem dL_law_369 : decode cL_law 369 = .ok (.iaload, 1) := by decide +kernel
theorem dL_law_370 : decode cL_law 370 = .ok (.aload_n 0, 1) := by decide +kernel
theorem dL_law_371 : decode cL_law 371 = .ok (.iload_n 3, 1) := by decide +kernel
theorem dL_law_372 : decode cL_law 372 = .ok (.iconst 4, 1) := by decide +kernel
theorem dL_law_373 : decode cL_law 373 = .ok (.iadd, 1) := by decide +kernel
theorem dL_law_374 : decode cL_law 374 = .ok (.iaload, 1) := by decide +kernel
theorem dL_law_375 : decode cL_law 375 = .ok (.aload_n 0, 1) := by decide +kernel
theorem dL_law_376 : decode cL_law 376 = .ok (.iload_n 3, 1) := by decide +kernel
theorem dL_law_377 : decode cL_law 377 = .ok (.iconst 5, 1) := by decide +kernel
theorem dL_law_378 : decode cL_law 378 = .ok (.iadd, 1) := by decide +kernel
theorem dL_law_379 : decode cL_law 379 = .ok (.iaload, 1) := by decide +kernel
theorem dL_law_380 : decode cL_law 380 = .ok (.invokevirtual 42, 3) := by decide +kernel
theorem dL_law_383 : decode cL_law 383 = .ok (.if_icmp .eq 657, 3) := by decide +kernel
theorem dL_law_386 : decode cL_law 386 = .ok (.iconst 0, 1) := by decide +kernel
theorem dL_law_387 : decode cL_law 387 = .ok (.ireturn, 1) := by decide +kernel
theorem dL_law_388 : decode cL_law 388 = .ok (.aload_n 1, 1) := by decide +kernel
theorem dL_law_389 : decode cL_law 389 = .ok (.aload_n 0, 1) := by decide +kernel
theorem dL_law_390 : decode cL_law 390 = .ok (.iload_n 3, 1) := by decide +kernel
theorem dL_law_391 : decode cL_law 391 = .ok (.iconst 1, 1) := by decide +kernel
theorem dL_law_392 : decode cL_law 392 = .ok (.iadd, 1) := by decide +kernel
theorem dL_law_393 : decode cL_law 393 = .ok (.iaload, 1) := by decide +kernel
theorem dL_law_394 : decode cL_law 394 = .ok (.aload_n 0, 1) := by decide +kernel
theorem dL_law_395 : decode cL_law 395 = .ok (.iload_n 3, 1) := by decide +kernel
theorem dL_law_396 : decode cL_law 396 = .ok (.iconst 2, 1) := by decide +kernel
theorem dL_law_397 : decode cL_law 397 = .ok (.iadd, 1) := by decide +kernel
theorem dL_law_398 : decode cL_law 398 = .ok (.iaload, 1) := by decide +kernel
theorem dL_law_399 : decode cL_law 399 = .ok (.invokevirtual 43, 3) := by decide +kernel
theorem dL_law_402 : decode cL_law 402 = .ok (.aload_n 2, 1) := by decide +kernel
theorem dL_law_403 : decode cL_law 403 = .ok (.aload_n 0, 1) := by decide +kernel
theorem dL_law_404 : decode cL_law 404 = .ok (.iload_n 3, 1) := by decide +kernel
theorem dL_law_405 : decode cL_law 405 = .ok (.iconst 1, 1) := by decide +kernel
theorem dL_law_406 : decode cL_law 406 = .ok (.iadd, 1) := by decide +kernel
theorem dL_law_407 : decode cL_law 407 = .ok (.iaload, 1) := by decide +kernel
theorem dL_law_408 : decode cL_law 408 = .ok (.aload_n 0, 1) := by decide +kernel
theorem dL_law_409 : decode cL_law 409 = .ok (.iload_n 3, 1) := by decide +kernel
theorem dL_law_410 : decode cL_law 410 = .ok (.iconst 2, 1) := by decide +kernel
theorem dL_law_411 : decode cL_law 411 = .ok (.iadd, 1) := by decide +kernel
theorem dL_law_412 : decode cL_law 412 = .ok (.iaload, 1) := by decide +kernel
theorem dL_law_413 : decode cL_law 413 = .ok (.invokevirtual 46, 3) := by decide +kernel
theorem dL_law_416 : decode cL_law 416 = .ok (.if_icmp .eq 624, 3) := by decide +kernel
theorem dL_law_419 : decode cL_law 419 = .ok (.iconst 0, 1) := by decide +kernel
theorem dL_law_420 : decode cL_law 420 = .ok (.ireturn, 1) := by decide +kernel
theorem dL_law_421 : decode cL_law 421 = .ok (.aload_n 1, 1) := by decide +kernel
theorem dL_law_422 : decode cL_law 422 = .ok (.aload_n 0, 1) := by decide +kernel
theorem dL_law_423 : decode cL_law 423 = .ok (.iload_n 3, 1) := by decide +kernel
theorem dL_law_424 : decode cL_law 424 = .ok (.iconst 1, 1) := by decide +kernel
theorem dL_law_425 : decode cL_law 425 = .ok (.iadd, 1) := by decide +kernel
theorem dL_law_426 : decode cL_law 426 = .ok (.iaload, 1) := by decide +kernel
theorem dL_law_427 : decode cL_law 427 = .ok (.invokevirtual 47, 3) := by decide +kernel
theorem dL_law_430 : decode cL_law 430 = .ok (.aload_n 2, 1) := by decide +kernel
theorem dL_law_431 : decode cL_law 431 = .ok (.aload_n 0, 1) := by decide +kernel
theorem dL_law_432 : decode cL_law 432 = .ok (.iload_n 3, 1) := by decide +kernel
theorem dL_law_433 : decode cL_law 433 = .ok (.iconst 1, 1) := by decide +kernel
theorem dL_law_434 : decode cL_law 434 = .ok (.iadd, 1) := by decide +kernel
theorem dL_law_435 : decode cL_law 435 = .ok (.iaload, 1) := by decide +kernel
theorem dL_law_436 : decode cL_law 436 = .ok (.invokevirtual 50, 3) := by decide +kernel
theorem dL_law_439 : decode cL_law 439 = .ok (.if_icmp .eq 601, 3) := by decide +kernel
theorem dL_law_442 : decode cL_law 442 = .ok (.iconst 0, 1) := by decide +kernel
theorem dL_law_443 : decode cL_law 443 = .ok (.ireturn, 1) := by decide +kernel
theorem dL_law_444 : decode cL_law 444 = .ok (.aload_n 1, 1) := by decide +kernel
theorem dL_law_445 : decode cL_law 445 = .ok (.aload_n 0, 1) := by decide +kernel
theorem dL_law_446 : decode cL_law 446 = .ok (.iload_n 3, 1) := by decide +kernel
theorem dL_law_447 : decode cL_law 447 = .ok (.iconst 1, 1) := by decide +kernel
theorem dL_law_448 : decode cL_law 448 = .ok (.iadd, 1) := by decide +kernel
theorem dL_law_449 : decode cL_law 449 = .ok (.iaload, 1) := by decide +kernel
theorem dL_law_450 : decode cL_law 450 = .ok (.invokevirtual 51, 3) := by decide +kernel
theorem dL_law_453 : decode cL_law 453 = .ok (.aload_n 2, 1) := by decide +kernel
theorem dL_law_454 : decode cL_law 454 = .ok (.aload_n 0, 1) := by decide +kernel
theorem dL_law_455 : decode cL_law 455 = .ok (.iload_n 3, 1) := by decide +kernel
theorem dL_law_456 : decode cL_law 456 = .ok (.iconst 1, 1) := by decide +kernel
theorem dL_law_457 : decode cL_law 457 = .ok (.iadd, 1) := by decide +kernel
theorem dL_law_458 : decode cL_law 458 = .ok (.iaload, 1) := by decide +kernel
theorem dL_law_459 : decode cL_law 459 = .ok (.invokevirtual 55, 3) := by decide +kernel
theorem dL_law_462 : decode cL_law 462 = .ok (.lcmp, 1) := by decide +kernel
theorem dL_law_463 : decode cL_law 463 = .ok (.ifCond .eq 577, 3) := by decide +kernel
theorem dL_law_466 : decode cL_law 466 = .ok (.iconst 0, 1) := by decide +kernel
theorem dL_law_467 : decode cL_law 467 = .ok (.ireturn, 1) := by decide +kernel
theorem dL_law_468 : decode cL_law 468 = .ok (.aload_n 1, 1) := by decide +kernel
theorem dL_law_469 : decode cL_law 469 = .ok (.aload_n 0, 1) := by decide +kernel
theorem dL_law_470 : decode cL_law 470 = .ok (.iload_n 3, 1) := by decide +kernel
theorem dL_law_471 : decode cL_law 471 = .ok (.iconst 1, 1) := by decide +kernel
theorem dL_law_472 : decode cL_law 472 = .ok (.iadd, 1) := by decide +kernel
theorem dL_law_473 : decode cL_law 473 = .ok (.iaload, 1) := by decide +kernel
theorem dL_law_474 : decode cL_law 474 = .ok (.invokevirtual 56, 3) := by decide +kernel
theorem dL_law_477 : decode cL_law 477 = .ok (.aload_n 2, 1) := by decide +kernel
theorem dL_law_478 : decode cL_law 478 = .ok (.aload_n 0, 1) := by decide +kernel
theorem dL_law_479 : decode cL_law 479 = .ok (.iload_n 3, 1) := by decide +kernel
theorem dL_law_480 : decode cL_law 480 = .ok (.iconst 1, 1) := by decide +kernel
theorem dL_law_481 : decode cL_law 481 = .ok (.iadd, 1) := by decide +kernel
theorem dL_law_482 : decode cL_law 482 = .ok (.iaload, 1) := by decide +kernel
theorem dL_law_483 : decode cL_law 483 = .ok (.invokevirtual 59, 3) := by decide +kernel
theorem dL_law_486 : decode cL_law 486 = .ok (.lcmp, 1) := by decide +kernel
theorem dL_law_487 : decode cL_law 487 = .ok (.ifCond .eq 553, 3) := by decide +kernel
theorem dL_law_490 : decode cL_law 490 = .ok (.iconst 0, 1) := by decide +kernel
theorem dL_law_491 : decode cL_law 491 = .ok (.ireturn, 1) := by decide +kernel
theorem dL_law_492 : decode cL_law 492 = .ok (.aload_n 1, 1) := by decide +kernel
theorem dL_law_493 : decode cL_law 493 = .ok (.invokevirtual 60, 3) := by decide +kernel
theorem dL_law_496 : decode cL_law 496 = .ok (.aload_n 2, 1) := by decide +kernel
theorem dL_law_497 : decode cL_law 497 = .ok (.invokevirtual 63, 3) := by decide +kernel
theorem dL_law_500 : decode cL_law 500 = .ok (.if_icmp .eq 540, 3) := by decide +kernel
theorem dL_law_503 : decode cL_law 503 = .ok (.iconst 0, 1) := by decide +kernel
theorem dL_law_504 : decode cL_law 504 = .ok (.ireturn, 1) := by decide +kernel
theorem dL_law_505 : decode cL_law 505 = .ok (.aload_n 1, 1) := by decide +kernel
theorem dL_law_506 : decode cL_law 506 = .ok (.invokevirtual 64, 3) := by decide +kernel
theorem dL_law_509 : decode cL_law 509 = .ok (.aload_n 2, 1) := by decide +kernel
theorem dL_law_510 : decode cL_law 510 = .ok (.invokevirtual 67, 3) := by decide +kernel
theorem dL_law_513 : decode cL_law 513 = .ok (.if_icmp .eq 527, 3) := by decide +kernel
theorem dL_law_516 : decode cL_law 516 = .ok (.iconst 0, 1) := by decide +kernel
theorem dL_law_517 : decode cL_law 517 = .ok (.ireturn, 1) := by decide +kernel
theorem dL_law_518 : decode cL_law 518 = .ok (.aload_n 1, 1) := by decide +kernel
theorem dL_law_519 : decode cL_law 519 = .ok (.aload_n 0, 1) := by decide +kernel
theorem dL_law_520 : decode cL_law 520 = .ok (.iload_n 3, 1) := by decide +kernel
theorem dL_law_521 : decode cL_law 521 = .ok (.iconst 1, 1) := by decide +kernel
theorem dL_law_522 : decode cL_law 522 = .ok (.iadd, 1) := by decide +kernel
theorem dL_law_523 : decode cL_law 523 = .ok (.iaload, 1) := by decide +kernel
theorem dL_law_524 : decode cL_law 524 = .ok (.aload_n 0, 1) := by decide +kernel
theorem dL_law_525 : decode cL_law 525 = .ok (.iload_n 3, 1) := by decide +kernel
theorem dL_law_526 : decode cL_law 526 = .ok (.iconst 2, 1) := by decide +kernel
theorem dL_law_527 : decode cL_law 527 = .ok (.iadd, 1) := by decide +kernel
theorem dL_law_528 : decode cL_law 528 = .ok (.iaload, 1) := by decide +kernel
theorem dL_law_529 : decode cL_law 529 = .ok (.aload_n 0, 1) := by decide +kernel
theorem dL_law_530 : decode cL_law 530 = .ok (.iload_n 3, 1) := by decide +kernel
theorem dL_law_531 : decode cL_law 531 = .ok (.iconst 3, 1) := by decide +kernel
theorem dL_law_532 : decode cL_law 532 = .ok (.iadd, 1) := by decide +kernel
theorem dL_law_533 : decode cL_law 533 = .ok (.iaload, 1) := by decide +kernel
theorem dL_law_534 : decode cL_law 534 = .ok (.aload_n 0, 1) := by decide +kernel
theorem dL_law_535 : decode cL_law 535 = .ok (.iload_n 3, 1) := by decide +kernel
theorem dL_law_536 : decode cL_law 536 = .ok (.iconst 4, 1) := by decide +kernel
theorem dL_law_537 : decode cL_law 537 = .ok (.iadd, 1) := by decide +kernel
theorem dL_law_538 : decode cL_law 538 = .ok (.iaload, 1) := by decide +kernel
theorem dL_law_539 : decode cL_law 539 = .ok (.aload_n 0, 1) := by decide +kernel
theorem dL_law_540 : decode cL_law 540 = .ok (.iload_n 3, 1) := by decide +kernel
theorem dL_law_541 : decode cL_law 541 = .ok (.iconst 5, 1) := by decide +kernel
theorem dL_law_542 : decode cL_law 542 = .ok (.iadd, 1) := by decide +kernel
theorem dL_law_543 : decode cL_law 543 = .ok (.iaload, 1) := by decide +kernel
theorem dL_law_544 : decode cL_law 544 = .ok (.aload_n 0, 1) := by decide +kernel
theorem dL_law_545 : decode cL_law 545 = .ok (.iload_n 3, 1) := by decide +kernel
theorem dL_law_546 : decode cL_law 546 = .ok (.bipush 6, 2) := by decide +kernel
theorem dL_law_548 : decode cL_law 548 = .ok (.iadd, 1) := by decide +kernel
theorem dL_law_549 : decode cL_law 549 = .ok (.iaload, 1) := by decide +kernel
theorem dL_law_550 : decode cL_law 550 = .ok (.invokevirtual 68, 3) := by decide +kernel
theorem dL_law_553 : decode cL_law 553 = .ok (.aload_n 2, 1) := by decide +kernel
theorem dL_law_554 : decode cL_law 554 = .ok (.aload_n 0, 1) := by decide +kernel
theorem dL_law_555 : decode cL_law 555 = .ok (.iload_n 3, 1) := by decide +kernel
theorem dL_law_556 : decode cL_law 556 = .ok (.iconst 1, 1) := by decide +kernel
theorem dL_law_557 : decode cL_law 557 = .ok (.iadd, 1) := by decide +kernel
theorem dL_law_558 : decode cL_law 558 = .ok (.iaload, 1) := by decide +kernel
theorem dL_law_559 : decode cL_law 559 = .ok (.aload_n 0, 1) := by decide +kernel
theorem dL_law_560 : decode cL_law 560 = .ok (.iload_n 3, 1) := by decide +kernel
theorem dL_law_561 : decode cL_law 561 = .ok (.iconst 2, 1) := by decide +kernel
theorem dL_law_562 : decode cL_law 562 = .ok (.iadd, 1) := by decide +kernel
theorem dL_law_563 : decode cL_law 563 = .ok (.iaload, 1) := by decide +kernel
theorem dL_law_564 : decode cL_law 564 = .ok (.aload_n 0, 1) := by decide +kernel
theorem dL_law_565 : decode cL_law 565 = .ok (.iload_n 3, 1) := by decide +kernel
theorem dL_law_566 : decode cL_law 566 = .ok (.iconst 3, 1) := by decide +kernel
theorem dL_law_567 : decode cL_law 567 = .ok (.iadd, 1) := by decide +kernel
theorem dL_law_568 : decode cL_law 568 = .ok (.iaload, 1) := by decide +kernel
theorem dL_law_569 : decode cL_law 569 = .ok (.aload_n 0, 1) := by decide +kernel
theorem dL_law_570 : decode cL_law 570 = .ok (.iload_n 3, 1) := by decide +kernel
theorem dL_law_571 : decode cL_law 571 = .ok (.iconst 4, 1) := by decide +kernel
theorem dL_law_572 : decode cL_law 572 = .ok (.iadd, 1) := by decide +kernel
theorem dL_law_573 : decode cL_law 573 = .ok (.iaload, 1) := by decide +kernel
theorem dL_law_574 : decode cL_law 574 = .ok (.aload_n 0, 1) := by decide +kernel
theorem dL_law_575 : decode cL_law 575 = .ok (.iload_n 3, 1) := by decide +kernel
theorem dL_law_576 : decode cL_law 576 = .ok (.iconst 5, 1) := by decide +kernel
theorem dL_law_577 : decode cL_law 577 = .ok (.iadd, 1) := by decide +kernel
theorem dL_law_578 : decode cL_law 578 = .ok (.iaload, 1) := by decide +kernel
theorem dL_law_579 : decode cL_law 579 = .ok (.aload_n 0, 1) := by decide +kernel
theorem dL_law_580 : decode cL_law 580 = .ok (.iload_n 3, 1) := by decide +kernel
theorem dL_law_581 : decode cL_law 581 = .ok (.bipush 6, 2) := by decide +kernel
theorem dL_law_583 : decode cL_law 583 = .ok (.iadd, 1) := by decide +kernel
theorem dL_law_584 : decode cL_law 584 = .ok (.iaload, 1) := by decide +kernel
theorem dL_law_585 : decode cL_law 585 = .ok (.invokevirtual 72, 3) := by decide +kernel
theorem dL_law_588 : decode cL_law 588 = .ok (.if_icmp .eq 452, 3) := by decide +kernel
theorem dL_law_591 : decode cL_law 591 = .ok (.iconst 0, 1) := by decide +kernel
theorem dL_law_592 : decode cL_law 592 = .ok (.ireturn, 1) := by decide +kernel
theorem dL_law_593 : decode cL_law 593 = .ok (.aload_n 1, 1) := by decide +kernel
theorem dL_law_594 : decode cL_law 594 = .ok (.aload_n 0, 1) := by decide +kernel
theorem dL_law_595 : decode cL_law 595 = .ok (.iload_n 3, 1) := by decide +kernel
theorem dL_law_596 : decode cL_law 596 = .ok (.iconst 1, 1) := by decide +kernel
theorem dL_law_597 : decode cL_law 597 = .ok (.iadd, 1) := by decide +kernel
theorem dL_law_598 : decode cL_law 598 = .ok (.iaload, 1) := by decide +kernel
theorem dL_law_599 : decode cL_law 599 = .ok (.invokevirtual 73, 3) := by decide +kernel
theorem dL_law_602 : decode cL_law 602 = .ok (.aload_n 2, 1) := by decide +kernel
theorem dL_law_603 : decode cL_law 603 = .ok (.aload_n 0, 1) := by decide +kernel
theorem dL_law_604 : decode cL_law 604 = .ok (.iload_n 3, 1) := by decide +kernel
theorem dL_law_605 : decode cL_law 605 = .ok (.iconst 1, 1) := by decide +kernel
theorem dL_law_606 : decode cL_law 606 = .ok (.iadd, 1) := by decide +kernel
theorem dL_law_607 : decode cL_law 607 = .ok (.iaload, 1) := by decide +kernel
theorem dL_law_608 : decode cL_law 608 = .ok (.invokevirtual 76, 3) := by decide +kernel
theorem dL_law_611 : decode cL_law 611 = .ok (.if_icmp .eq 429, 3) := by decide +kernel
theorem dL_law_614 : decode cL_law 614 = .ok (.iconst 0, 1) := by decide +kernel
theorem dL_law_615 : decode cL_law 615 = .ok (.ireturn, 1) := by decide +kernel
theorem dL_law_616 : decode cL_law 616 = .ok (.aload_n 1, 1) := by decide +kernel
theorem dL_law_617 : decode cL_law 617 = .ok (.aload_n 0, 1) := by decide +kernel
theorem dL_law_618 : decode cL_law 618 = .ok (.iload_n 3, 1) := by decide +kernel
theorem dL_law_619 : decode cL_law 619 = .ok (.iconst 1, 1) := by decide +kernel
theorem dL_law_620 : decode cL_law 620 = .ok (.iadd, 1) := by decide +kernel
theorem dL_law_621 : decode cL_law 621 = .ok (.iaload, 1) := by decide +kernel
theorem dL_law_622 : decode cL_law 622 = .ok (.invokevirtual 77, 3) := by decide +kernel
theorem dL_law_625 : decode cL_law 625 = .ok (.aload_n 2, 1) := by decide +kernel
theorem dL_law_626 : decode cL_law 626 = .ok (.aload_n 0, 1) := by decide +kernel
theorem dL_law_627 : decode cL_law 627 = .ok (.iload_n 3, 1) := by decide +kernel
theorem dL_law_628 : decode cL_law 628 = .ok (.iconst 1, 1) := by decide +kernel
theorem dL_law_629 : decode cL_law 629 = .ok (.iadd, 1) := by decide +kernel
theorem dL_law_630 : decode cL_law 630 = .ok (.iaload, 1) := by decide +kernel
theorem dL_law_631 : decode cL_law 631 = .ok (.invokevirtual 80, 3) := by decide +kernel
theorem dL_law_634 : decode cL_law 634 = .ok (.if_icmp .eq 406, 3) := by decide +kernel
theorem dL_law_637 : decode cL_law 637 = .ok (.iconst 0, 1) := by decide +kernel
theorem dL_law_638 : decode cL_law 638 = .ok (.ireturn, 1) := by decide +kernel
theorem dL_law_639 : decode cL_law 639 = .ok (.aload_n 1, 1) := by decide +kernel
theorem dL_law_640 : decode cL_law 640 = .ok (.aload_n 0, 1) := by decide +kernel
theorem dL_law_641 : decode cL_law 641 = .ok (.iload_n 3, 1) := by decide +kernel
theorem dL_law_642 : decode cL_law 642 = .ok (.iconst 1, 1) := by decide +kernel
theorem dL_law_643 : decode cL_law 643 = .ok (.iadd, 1) := by decide +kernel
theorem dL_law_644 : decode cL_law 644 = .ok (.iaload, 1) := by decide +kernel
theorem dL_law_645 : decode cL_law 645 = .ok (.invokevirtual 81, 3) := by decide +kernel
theorem dL_law_648 : decode cL_law 648 = .ok (.aload_n 2, 1) := by decide +kernel
theorem dL_law_649 : decode cL_law 649 = .ok (.aload_n 0, 1) := by decide +kernel
theorem dL_law_650 : decode cL_law 650 = .ok (.iload_n 3, 1) := by decide +kernel
theorem dL_law_651 : decode cL_law 651 = .ok (.iconst 1, 1) := by decide +kernel
theorem dL_law_652 : decode cL_law 652 = .ok (.iadd, 1) := by decide +kernel
theorem dL_law_653 : decode cL_law 653 = .ok (.iaload, 1) := by decide +kernel
theorem dL_law_654 : decode cL_law 654 = .ok (.invokevirtual 84, 3) := by decide +kernel
theorem dL_law_657 : decode cL_law 657 = .ok (.if_icmp .eq 383, 3) := by decide +kernel
theorem dL_law_660 : decode cL_law 660 = .ok (.iconst 0, 1) := by decide +kernel
theorem dL_law_661 : decode cL_law 661 = .ok (.ireturn, 1) := by decide +kernel
theorem dL_law_662 : decode cL_law 662 = .ok (.aload_n 1, 1) := by decide +kernel
theorem dL_law_663 : decode cL_law 663 = .ok (.aload_n 0, 1) := by decide +kernel
theorem dL_law_664 : decode cL_law 664 = .ok (.iload_n 3, 1) := by decide +kernel
theorem dL_law_665 : decode cL_law 665 = .ok (.iconst 1, 1) := by decide +kernel
theorem dL_law_666 : decode cL_law 666 = .ok (.iadd, 1) := by decide +kernel
theorem dL_law_667 : decode cL_law 667 = .ok (.iaload, 1) := by decide +kernel
theorem dL_law_668 : decode cL_law 668 = .ok (.aload_n 0, 1) := by decide +kernel
theorem dL_law_669 : decode cL_law 669 = .ok (.iload_n 3, 1) := by decide +kernel
theorem dL_law_670 : decode cL_law 670 = .ok (.iconst 2, 1) := by decide +kernel
theorem dL_law_671 : decode cL_law 671 = .ok (.iadd, 1) := by decide +kernel
theorem dL_law_672 : decode cL_law 672 = .ok (.iaload, 1) := by decide +kernel
theorem dL_law_673 : decode cL_law 673 = .ok (.invokevirtual 85, 3) := by decide +kernel
theorem dL_law_676 : decode cL_law 676 = .ok (.aload_n 2, 1) := by decide +kernel
theorem dL_law_677 : decode cL_law 677 = .ok (.aload_n 0, 1) := by decide +kernel
theorem dL_law_678 : decode cL_law 678 = .ok (.iload_n 3, 1) := by decide +kernel
theorem dL_law_679 : decode cL_law 679 = .ok (.iconst 1, 1) := by decide +kernel
theorem dL_law_680 : decode cL_law 680 = .ok (.iadd, 1) := by decide +kernel
theorem dL_law_681 : decode cL_law 681 = .ok (.iaload, 1) := by decide +kernel
theorem dL_law_682 : decode cL_law 682 = .ok (.aload_n 0, 1) := by decide +kernel
theorem dL_law_683 : decode cL_law 683 = .ok (.iload_n 3, 1) := by decide +kernel
theorem dL_law_684 : decode cL_law 684 = .ok (.iconst 2, 1) := by decide +kernel
theorem dL_law_685 : decode cL_law 685 = .ok (.iadd, 1) := by decide +kernel
theorem dL_law_686 : decode cL_law 686 = .ok (.iaload, 1) := by decide +kernel
theorem dL_law_687 : decode cL_law 687 = .ok (.invokevirtual 89, 3) := by decide +kernel
theorem dL_law_690 : decode cL_law 690 = .ok (.lcmp, 1) := by decide +kernel
theorem dL_law_691 : decode cL_law 691 = .ok (.ifCond .eq 349, 3) := by decide +kernel
theorem dL_law_694 : decode cL_law 694 = .ok (.iconst 0, 1) := by decide +kernel
theorem dL_law_695 : decode cL_law 695 = .ok (.ireturn, 1) := by decide +kernel
theorem dL_law_696 : decode cL_law 696 = .ok (.aload_n 1, 1) := by decide +kernel
theorem dL_law_697 : decode cL_law 697 = .ok (.aload_n 0, 1) := by decide +kernel
theorem dL_law_698 : decode cL_law 698 = .ok (.iload_n 3, 1) := by decide +kernel
theorem dL_law_699 : decode cL_law 699 = .ok (.iconst 1, 1) := by decide +kernel
theorem dL_law_700 : decode cL_law 700 = .ok (.iadd, 1) := by decide +kernel
theorem dL_law_701 : decode cL_law 701 = .ok (.iaload, 1) := by decide +kernel
theorem dL_law_702 : decode cL_law 702 = .ok (.aload_n 0, 1) := by decide +kernel
theorem dL_law_703 : decode cL_law 703 = .ok (.iload_n 3, 1) := by decide +kernel
theorem dL_law_704 : decode cL_law 704 = .ok (.iconst 2, 1) := by decide +kernel
theorem dL_law_705 : decode cL_law 705 = .ok (.iadd, 1) := by decide +kernel
theorem dL_law_706 : decode cL_law 706 = .ok (.iaload, 1) := by decide +kernel
theorem dL_law_707 : decode cL_law 707 = .ok (.aload_n 0, 1) := by decide +kernel
theorem dL_law_708 : decode cL_law 708 = .ok (.iload_n 3, 1) := by decide +kernel
theorem dL_law_709 : decode cL_law 709 = .ok (.iconst 3, 1) := by decide +kernel
theorem dL_law_710 : decode cL_law 710 = .ok (.iadd, 1) := by decide +kernel
theorem dL_law_711 : decode cL_law 711 = .ok (.iaload, 1) := by decide +kernel
theorem dL_law_712 : decode cL_law 712 = .ok (.invokevirtual 90, 3) := by decide +kernel
theorem dL_law_715 : decode cL_law 715 = .ok (.aload_n 2, 1) := by decide +kernel
theorem dL_law_716 : decode cL_law 716 = .ok (.aload_n 0, 1) := by decide +kernel
theorem dL_law_717 : decode cL_law 717 = .ok (.iload_n 3, 1) := by decide +kernel
theorem dL_law_718 : decode cL_law 718 = .ok (.iconst 1, 1) := by decide +kernel
theorem dL_law_719 : decode cL_law 719 = .ok (.iadd, 1) := by decide +kernel
theorem dL_law_720 : decode cL_law 720 = .ok (.iaload, 1) := by decide +kernel
theorem dL_law_721 : decode cL_law 721 = .ok (.aload_n 0, 1) := by decide +kernel
theorem dL_law_722 : decode cL_law 722 = .ok (.iload_n 3, 1) := by decide +kernel
theorem dL_law_723 : decode cL_law 723 = .ok (.iconst 2, 1) := by decide +kernel
theorem dL_law_724 : decode cL_law 724 = .ok (.iadd, 1) := by decide +kernel
theorem dL_law_725 : decode cL_law 725 = .ok (.iaload, 1) := by decide +kernel
theorem dL_law_726 : decode cL_law 726 = .ok (.aload_n 0, 1) := by decide +kernel
theorem dL_law_727 : decode cL_law 727 = .ok (.iload_n 3, 1) := by decide +kernel
theorem dL_law_728 : decode cL_law 728 = .ok (.iconst 3, 1) := by decide +kernel
theorem dL_law_729 : decode cL_law 729 = .ok (.iadd, 1) := by decide +kernel
theorem dL_law_730 : decode cL_law 730 = .ok (.iaload, 1) := by decide +kernel
theorem dL_law_731 : decode cL_law 731 = .ok (.invokevirtual 93, 3) := by decide +kernel
theorem dL_law_734 : decode cL_law 734 = .ok (.if_icmp .eq 306, 3) := by decide +kernel
theorem dL_law_737 : decode cL_law 737 = .ok (.iconst 0, 1) := by decide +kernel
theorem dL_law_738 : decode cL_law 738 = .ok (.ireturn, 1) := by decide +kernel
theorem dL_law_739 : decode cL_law 739 = .ok (.aload_n 1, 1) := by decide +kernel
theorem dL_law_740 : decode cL_law 740 = .ok (.aload_n 0, 1) := by decide +kernel
theorem dL_law_741 : decode cL_law 741 = .ok (.iload_n 3, 1) := by decide +kernel
theorem dL_law_742 : decode cL_law 742 = .ok (.iconst 1, 1) := by decide +kernel
theorem dL_law_743 : decode cL_law 743 = .ok (.iadd, 1) := by decide +kernel
theorem dL_law_744 : decode cL_law 744 = .ok (.iaload, 1) := by decide +kernel
theorem dL_law_745 : decode cL_law 745 = .ok (.invokevirtual 94, 3) := by decide +kernel
theorem dL_law_748 : decode cL_law 748 = .ok (.aload_n 2, 1) := by decide +kernel
theorem dL_law_749 : decode cL_law 749 = .ok (.aload_n 0, 1) := by decide +kernel
theorem dL_law_750 : decode cL_law 750 = .ok (.iload_n 3, 1) := by decide +kernel
theorem dL_law_751 : decode cL_law 751 = .ok (.iconst 1, 1) := by decide +kernel
theorem dL_law_752 : decode cL_law 752 = .ok (.iadd, 1) := by decide +kernel
theorem dL_law_753 : decode cL_law 753 = .ok (.iaload, 1) := by decide +kernel
theorem dL_law_754 : decode cL_law 754 = .ok (.invokevirtual 97, 3) := by decide +kernel
theorem dL_law_757 : decode cL_law 757 = .ok (.if_icmp .eq 283, 3) := by decide +kernel
theorem dL_law_760 : decode cL_law 760 = .ok (.iconst 0, 1) := by decide +kernel
theorem dL_law_761 : decode cL_law 761 = .ok (.ireturn, 1) := by decide +kernel
theorem dL_law_762 : decode cL_law 762 = .ok (.aload_n 1, 1) := by decide +kernel
theorem dL_law_763 : decode cL_law 763 = .ok (.aload_n 0, 1) := by decide +kernel
theorem dL_law_764 : decode cL_law 764 = .ok (.iload_n 3, 1) := by decide +kernel
theorem dL_law_765 : decode cL_law 765 = .ok (.iconst 1, 1) := by decide +kernel
theorem dL_law_766 : decode cL_law 766 = .ok (.iadd, 1) := by decide +kernel
theorem dL_law_767 : decode cL_law 767 = .ok (.iaload, 1) := by decide +kernel
theorem dL_law_768 : decode cL_law 768 = .ok (.aload_n 0, 1) := by decide +kernel
theorem dL_law_769 : decode cL_law 769 = .ok (.iload_n 3, 1) := by decide +kernel
theorem dL_law_770 : decode cL_law 770 = .ok (.iconst 2, 1) := by decide +kernel
theorem dL_law_771 : decode cL_law 771 = .ok (.iadd, 1) := by decide +kernel
theorem dL_law_772 : decode cL_law 772 = .ok (.iaload, 1) := by decide +kernel
theorem dL_law_773 : decode cL_law 773 = .ok (.aload_n 0, 1) := by decide +kernel
theorem dL_law_774 : decode cL_law 774 = .ok (.iload_n 3, 1) := by decide +kernel
theorem dL_law_775 : decode cL_law 775 = .ok (.iconst 3, 1) := by decide +kernel
theorem dL_law_776 : decode cL_law 776 = .ok (.iadd, 1) := by decide +kernel
theorem dL_law_777 : decode cL_law 777 = .ok (.iaload, 1) := by decide +kernel
theorem dL_law_778 : decode cL_law 778 = .ok (.invokevirtual 98, 3) := by decide +kernel
theorem dL_law_781 : decode cL_law 781 = .ok (.aload_n 2, 1) := by decide +kernel
theorem dL_law_782 : decode cL_law 782 = .ok (.aload_n 0, 1) := by decide +kernel
theorem dL_law_783 : decode cL_law 783 = .ok (.iload_n 3, 1) := by decide +kernel
theorem dL_law_784 : decode cL_law 784 = .ok (.iconst 1, 1) := by decide +kernel
theorem dL_law_785 : decode cL_law 785 = .ok (.iadd, 1) := by decide +kernel
theorem dL_law_786 : decode cL_law 786 = .ok (.iaload, 1) := by decide +kernel
theorem dL_law_787 : decode cL_law 787 = .ok (.aload_n 0, 1) := by decide +kernel
theorem dL_law_788 : decode cL_law 788 = .ok (.iload_n 3, 1) := by decide +kernel
theorem dL_law_789 : decode cL_law 789 = .ok (.iconst 2, 1) := by decide +kernel
theorem dL_law_790 : decode cL_law 790 = .ok (.iadd, 1) := by decide +kernel
theorem dL_law_791 : decode cL_law 791 = .ok (.iaload, 1) := by decide +kernel
theorem dL_law_792 : decode cL_law 792 = .ok (.aload_n 0, 1) := by decide +kernel
theorem dL_law_793 : decode cL_law 793 = .ok (.iload_n 3, 1) := by decide +kernel
theorem dL_law_794 : decode cL_law 794 = .ok (.iconst 3, 1) := by decide +kernel
theorem dL_law_795 : decode cL_law 795 = .ok (.iadd, 1) := by decide +kernel
theorem dL_law_796 : decode cL_law 796 = .ok (.iaload, 1) := by decide +kernel
theorem dL_law_797 : decode cL_law 797 = .ok (.invokevirtual 101, 3) := by decide +kernel
theorem dL_law_800 : decode cL_law 800 = .ok (.if_icmp .eq 240, 3) := by decide +kernel
theorem dL_law_803 : decode cL_law 803 = .ok (.iconst 0, 1) := by decide +kernel
theorem dL_law_804 : decode cL_law 804 = .ok (.ireturn, 1) := by decide +kernel
theorem dL_law_805 : decode cL_law 805 = .ok (.aload_n 1, 1) := by decide +kernel
theorem dL_law_806 : decode cL_law 806 = .ok (.aload_n 0, 1) := by decide +kernel
theorem dL_law_807 : decode cL_law 807 = .ok (.iload_n 3, 1) := by decide +kernel
theorem dL_law_808 : decode cL_law 808 = .ok (.iconst 1, 1) := by decide +kernel
theorem dL_law_809 : decode cL_law 809 = .ok (.iadd, 1) := by decide +kernel
theorem dL_law_810 : decode cL_law 810 = .ok (.iaload, 1) := by decide +kernel
theorem dL_law_811 : decode cL_law 811 = .ok (.aload_n 0, 1) := by decide +kernel
theorem dL_law_812 : decode cL_law 812 = .ok (.iload_n 3, 1) := by decide +kernel
theorem dL_law_813 : decode cL_law 813 = .ok (.iconst 2, 1) := by decide +kernel
theorem dL_law_814 : decode cL_law 814 = .ok (.iadd, 1) := by decide +kernel
theorem dL_law_815 : decode cL_law 815 = .ok (.iaload, 1) := by decide +kernel
theorem dL_law_816 : decode cL_law 816 = .ok (.aload_n 0, 1) := by decide +kernel
theorem dL_law_817 : decode cL_law 817 = .ok (.iload_n 3, 1) := by decide +kernel
theorem dL_law_818 : decode cL_law 818 = .ok (.iconst 3, 1) := by decide +kernel
theorem dL_law_819 : decode cL_law 819 = .ok (.iadd, 1) := by decide +kernel
theorem dL_law_820 : decode cL_law 820 = .ok (.iaload, 1) := by decide +kernel
theorem dL_law_821 : decode cL_law 821 = .ok (.invokevirtual 102, 3) := by decide +kernel
theorem dL_law_824 : decode cL_law 824 = .ok (.aload_n 2, 1) := by decide +kernel
theorem dL_law_825 : decode cL_law 825 = .ok (.aload_n 0, 1) := by decide +kernel
theorem dL_law_826 : decode cL_law 826 = .ok (.iload_n 3, 1) := by decide +kernel
theorem dL_law_827 : decode cL_law 827 = .ok (.iconst 1, 1) := by decide +kernel
theorem dL_law_828 : decode cL_law 828 = .ok (.iadd, 1) := by decide +kernel
theorem dL_law_829 : decode cL_law 829 = .ok (.iaload, 1) := by decide +kernel
theorem dL_law_830 : decode cL_law 830 = .ok (.aload_n 0, 1) := by decide +kernel
theorem dL_law_831 : decode cL_law 831 = .ok (.iload_n 3, 1) := by decide +kernel
theorem dL_law_832 : decode cL_law 832 = .ok (.iconst 2, 1) := by decide +kernel
theorem dL_law_833 : decode cL_law 833 = .ok (.iadd, 1) := by decide +kernel
theorem dL_law_834 : decode cL_law 834 = .ok (.iaload, 1) := by decide +kernel
theorem dL_law_835 : decode cL_law 835 = .ok (.aload_n 0, 1) := by decide +kernel
theorem dL_law_836 : decode cL_law 836 = .ok (.iload_n 3, 1) := by decide +kernel
theorem dL_law_837 : decode cL_law 837 = .ok (.iconst 3, 1) := by decide +kernel
theorem dL_law_838 : decode cL_law 838 = .ok (.iadd, 1) := by decide +kernel
theorem dL_law_839 : decode cL_law 839 = .ok (.iaload, 1) := by decide +kernel
theorem dL_law_840 : decode cL_law 840 = .ok (.invokevirtual 106, 3) := by decide +kernel
theorem dL_law_843 : decode cL_law 843 = .ok (.lcmp, 1) := by decide +kernel
theorem dL_law_844 : decode cL_law 844 = .ok (.ifCond .eq 196, 3) := by decide +kernel
theorem dL_law_847 : decode cL_law 847 = .ok (.iconst 0, 1) := by decide +kernel
theorem dL_law_848 : decode cL_law 848 = .ok (.ireturn, 1) := by decide +kernel
theorem dL_law_849 : decode cL_law 849 = .ok (.aload_n 1, 1) := by decide +kernel
theorem dL_law_850 : decode cL_law 850 = .ok (.aload_n 0, 1) := by decide +kernel
theorem dL_law_851 : decode cL_law 851 = .ok (.iload_n 3, 1) := by decide +kernel
theorem dL_law_852 : decode cL_law 852 = .ok (.iconst 1, 1) := by decide +kernel
theorem dL_law_853 : decode cL_law 853 = .ok (.iadd, 1) := by decide +kernel
theorem dL_law_854 : decode cL_law 854 = .ok (.iaload, 1) := by decide +kernel
theorem dL_law_855 : decode cL_law 855 = .ok (.aload_n 0, 1) := by decide +kernel
theorem dL_law_856 : decode cL_law 856 = .ok (.iload_n 3, 1) := by decide +kernel
theorem dL_law_857 : decode cL_law 857 = .ok (.iconst 2, 1) := by decide +kernel
theorem dL_law_858 : decode cL_law 858 = .ok (.iadd, 1) := by decide +kernel
theorem dL_law_859 : decode cL_law 859 = .ok (.iaload, 1) := by decide +kernel
theorem dL_law_860 : decode cL_law 860 = .ok (.aload_n 0, 1) := by decide +kernel
theorem dL_law_861 : decode cL_law 861 = .ok (.iload_n 3, 1) := by decide +kernel
theorem dL_law_862 : decode cL_law 862 = .ok (.iconst 3, 1) := by decide +kernel
theorem dL_law_863 : decode cL_law 863 = .ok (.iadd, 1) := by decide +kernel
theorem dL_law_864 : decode cL_law 864 = .ok (.iaload, 1) := by decide +kernel
theorem dL_law_865 : decode cL_law 865 = .ok (.aload_n 0, 1) := by decide +kernel
theorem dL_law_866 : decode cL_law 866 = .ok (.iload_n 3, 1) := by decide +kernel
theorem dL_law_867 : decode cL_law 867 = .ok (.iconst 4, 1) := by decide +kernel
theorem dL_law_868 : decode cL_law 868 = .ok (.iadd, 1) := by decide +kernel
theorem dL_law_869 : decode cL_law 869 = .ok (.iaload, 1) := by decide +kernel
theorem dL_law_870 : decode cL_law 870 = .ok (.aload_n 0, 1) := by decide +kernel
theorem dL_law_871 : decode cL_law 871 = .ok (.iload_n 3, 1) := by decide +kernel
theorem dL_law_872 : decode cL_law 872 = .ok (.iconst 5, 1) := by decide +kernel
theorem dL_law_873 : decode cL_law 873 = .ok (.iadd, 1) := by decide +kernel
theorem dL_law_874 : decode cL_law 874 = .ok (.iaload, 1) := by decide +kernel
theorem dL_law_875 : decode cL_law 875 = .ok (.invokevirtual 107, 3) := by decide +kernel
theorem dL_law_878 : decode cL_law 878 = .ok (.aload_n 2, 1) := by decide +kernel
theorem dL_law_879 : decode cL_law 879 = .ok (.aload_n 0, 1) := by decide +kernel
theorem dL_law_880 : decode cL_law 880 = .ok (.iload_n 3, 1) := by decide +kernel
theorem dL_law_881 : decode cL_law 881 = .ok (.iconst 1, 1) := by decide +kernel
theorem dL_law_882 : decode cL_law 882 = .ok (.iadd, 1) := by decide +kernel
theorem dL_law_883 : decode cL_law 883 = .ok (.iaload, 1) := by decide +kernel
theorem dL_law_884 : decode cL_law 884 = .ok (.aload_n 0, 1) := by decide +kernel
theorem dL_law_885 : decode cL_law 885 = .ok (.iload_n 3, 1) := by decide +kernel
theorem dL_law_886 : decode cL_law 886 = .ok (.iconst 2, 1) := by decide +kernel
theorem dL_law_887 : decode cL_law 887 = .ok (.iadd, 1) := by decide +kernel
theorem dL_law_888 : decode cL_law 888 = .ok (.iaload, 1) := by decide +kernel
theorem dL_law_889 : decode cL_law 889 = .ok (.aload_n 0, 1) := by decide +kernel
theorem dL_law_890 : decode cL_law 890 = .ok (.iload_n 3, 1) := by decide +kernel
theorem dL_law_891 : decode cL_law 891 = .ok (.iconst 3, 1) := by decide +kernel
theorem dL_law_892 : decode cL_law 892 = .ok (.iadd, 1) := by decide +kernel
theorem dL_law_893 : decode cL_law 893 = .ok (.iaload, 1) := by decide +kernel
theorem dL_law_894 : decode cL_law 894 = .ok (.aload_n 0, 1) := by decide +kernel
theorem dL_law_895 : decode cL_law 895 = .ok (.iload_n 3, 1) := by decide +kernel
theorem dL_law_896 : decode cL_law 896 = .ok (.iconst 4, 1) := by decide +kernel
theorem dL_law_897 : decode cL_law 897 = .ok (.iadd, 1) := by decide +kernel
theorem dL_law_898 : decode cL_law 898 = .ok (.iaload, 1) := by decide +kernel
theorem dL_law_899 : decode cL_law 899 = .ok (.aload_n 0, 1) := by decide +kernel
theorem dL_law_900 : decode cL_law 900 = .ok (.iload_n 3, 1) := by decide +kernel
theorem dL_law_901 : decode cL_law 901 = .ok (.iconst 5, 1) := by decide +kernel
theorem dL_law_902 : decode cL_law 902 = .ok (.iadd, 1) := by decide +kernel
theorem dL_law_903 : decode cL_law 903 = .ok (.iaload, 1) := by decide +kernel
theorem dL_law_904 : decode cL_law 904 = .ok (.invokevirtual 110, 3) := by decide +kernel
theorem dL_law_907 : decode cL_law 907 = .ok (.if_icmp .eq 133, 3) := by decide +kernel
theorem dL_law_910 : decode cL_law 910 = .ok (.iconst 0, 1) := by decide +kernel
theorem dL_law_911 : decode cL_law 911 = .ok (.ireturn, 1) := by decide +kernel
theorem dL_law_912 : decode cL_law 912 = .ok (.aload_n 1, 1) := by decide +kernel
theorem dL_law_913 : decode cL_law 913 = .ok (.aload_n 0, 1) := by decide +kernel
theorem dL_law_914 : decode cL_law 914 = .ok (.iload_n 3, 1) := by decide +kernel
theorem dL_law_915 : decode cL_law 915 = .ok (.iconst 1, 1) := by decide +kernel
theorem dL_law_916 : decode cL_law 916 = .ok (.iadd, 1) := by decide +kernel
theorem dL_law_917 : decode cL_law 917 = .ok (.iaload, 1) := by decide +kernel
theorem dL_law_918 : decode cL_law 918 = .ok (.invokevirtual 111, 3) := by decide +kernel
theorem dL_law_921 : decode cL_law 921 = .ok (.aload_n 2, 1) := by decide +kernel
theorem dL_law_922 : decode cL_law 922 = .ok (.aload_n 0, 1) := by decide +kernel
theorem dL_law_923 : decode cL_law 923 = .ok (.iload_n 3, 1) := by decide +kernel
theorem dL_law_924 : decode cL_law 924 = .ok (.iconst 1, 1) := by decide +kernel
theorem dL_law_925 : decode cL_law 925 = .ok (.iadd, 1) := by decide +kernel
theorem dL_law_926 : decode cL_law 926 = .ok (.iaload, 1) := by decide +kernel
theorem dL_law_927 : decode cL_law 927 = .ok (.invokevirtual 114, 3) := by decide +kernel
theorem dL_law_930 : decode cL_law 930 = .ok (.if_icmp .eq 110, 3) := by decide +kernel
theorem dL_law_933 : decode cL_law 933 = .ok (.iconst 0, 1) := by decide +kernel
theorem dL_law_934 : decode cL_law 934 = .ok (.ireturn, 1) := by decide +kernel
theorem dL_law_935 : decode cL_law 935 = .ok (.aload_n 1, 1) := by decide +kernel
theorem dL_law_936 : decode cL_law 936 = .ok (.aload_n 0, 1) := by decide +kernel
theorem dL_law_937 : decode cL_law 937 = .ok (.iload_n 3, 1) := by decide +kernel
theorem dL_law_938 : decode cL_law 938 = .ok (.iconst 1, 1) := by decide +kernel
theorem dL_law_939 : decode cL_law 939 = .ok (.iadd, 1) := by decide +kernel
theorem dL_law_940 : decode cL_law 940 = .ok (.iaload, 1) := by decide +kernel
theorem dL_law_941 : decode cL_law 941 = .ok (.invokevirtual 115, 3) := by decide +kernel
theorem dL_law_944 : decode cL_law 944 = .ok (.aload_n 2, 1) := by decide +kernel
theorem dL_law_945 : decode cL_law 945 = .ok (.aload_n 0, 1) := by decide +kernel
theorem dL_law_946 : decode cL_law 946 = .ok (.iload_n 3, 1) := by decide +kernel
theorem dL_law_947 : decode cL_law 947 = .ok (.iconst 1, 1) := by decide +kernel
theorem dL_law_948 : decode cL_law 948 = .ok (.iadd, 1) := by decide +kernel
theorem dL_law_949 : decode cL_law 949 = .ok (.iaload, 1) := by decide +kernel
theorem dL_law_950 : decode cL_law 950 = .ok (.invokevirtual 118, 3) := by decide +kernel
theorem dL_law_953 : decode cL_law 953 = .ok (.if_icmp .eq 87, 3) := by decide +kernel
theorem dL_law_956 : decode cL_law 956 = .ok (.iconst 0, 1) := by decide +kernel
theorem dL_law_957 : decode cL_law 957 = .ok (.ireturn, 1) := by decide +kernel
theorem dL_law_958 : decode cL_law 958 = .ok (.aload_n 1, 1) := by decide +kernel
theorem dL_law_959 : decode cL_law 959 = .ok (.aload_n 0, 1) := by decide +kernel
theorem dL_law_960 : decode cL_law 960 = .ok (.iload_n 3, 1) := by decide +kernel
theorem dL_law_961 : decode cL_law 961 = .ok (.iconst 1, 1) := by decide +kernel
theorem dL_law_962 : decode cL_law 962 = .ok (.iadd, 1) := by decide +kernel
theorem dL_law_963 : decode cL_law 963 = .ok (.iaload, 1) := by decide +kernel
theorem dL_law_964 : decode cL_law 964 = .ok (.aload_n 0, 1) := by decide +kernel
theorem dL_law_965 : decode cL_law 965 = .ok (.iload_n 3, 1) := by decide +kernel
theorem dL_law_966 : decode cL_law 966 = .ok (.iconst 2, 1) := by decide +kernel
theorem dL_law_967 : decode cL_law 967 = .ok (.iadd, 1) := by decide +kernel
theorem dL_law_968 : decode cL_law 968 = .ok (.iaload, 1) := by decide +kernel
theorem dL_law_969 : decode cL_law 969 = .ok (.invokevirtual 119, 3) := by decide +kernel
theorem dL_law_972 : decode cL_law 972 = .ok (.aload_n 2, 1) := by decide +kernel
theorem dL_law_973 : decode cL_law 973 = .ok (.aload_n 0, 1) := by decide +kernel
theorem dL_law_974 : decode cL_law 974 = .ok (.iload_n 3, 1) := by decide +kernel
theorem dL_law_975 : decode cL_law 975 = .ok (.iconst 1, 1) := by decide +kernel
theorem dL_law_976 : decode cL_law 976 = .ok (.iadd, 1) := by decide +kernel
theorem dL_law_977 : decode cL_law 977 = .ok (.iaload, 1) := by decide +kernel
theorem dL_law_978 : decode cL_law 978 = .ok (.aload_n 0, 1) := by decide +kernel
theorem dL_law_979 : decode cL_law 979 = .ok (.iload_n 3, 1) := by decide +kernel
theorem dL_law_980 : decode cL_law 980 = .ok (.iconst 2, 1) := by decide +kernel
theorem dL_law_981 : decode cL_law 981 = .ok (.iadd, 1) := by decide +kernel
theorem dL_law_982 : decode cL_law 982 = .ok (.iaload, 1) := by decide +kernel
theorem dL_law_983 : decode cL_law 983 = .ok (.invokevirtual 122, 3) := by decide +kernel
theorem dL_law_986 : decode cL_law 986 = .ok (.if_icmp .eq 54, 3) := by decide +kernel
theorem dL_law_989 : decode cL_law 989 = .ok (.iconst 0, 1) := by decide +kernel
theorem dL_law_990 : decode cL_law 990 = .ok (.ireturn, 1) := by decide +kernel
theorem dL_law_991 : decode cL_law 991 = .ok (.aload_n 1, 1) := by decide +kernel
theorem dL_law_992 : decode cL_law 992 = .ok (.invokevirtual 123, 3) := by decide +kernel
theorem dL_law_995 : decode cL_law 995 = .ok (.aload_n 2, 1) := by decide +kernel
theorem dL_law_996 : decode cL_law 996 = .ok (.invokevirtual 126, 3) := by decide +kernel
theorem dL_law_999 : decode cL_law 999 = .ok (.if_icmp .eq 41, 3) := by decide +kernel
theorem dL_law_1002 : decode cL_law 1002 = .ok (.iconst 0, 1) := by decide +kernel
theorem dL_law_1003 : decode cL_law 1003 = .ok (.ireturn, 1) := by decide +kernel
theorem dL_law_1004 : decode cL_law 1004 = .ok (.aload_n 1, 1) := by decide +kernel
theorem dL_law_1005 : decode cL_law 1005 = .ok (.invokevirtual 127, 3) := by decide +kernel
theorem dL_law_1008 : decode cL_law 1008 = .ok (.aload_n 2, 1) := by decide +kernel
theorem dL_law_1009 : decode cL_law 1009 = .ok (.invokevirtual 130, 3) := by decide +kernel
theorem dL_law_1012 : decode cL_law 1012 = .ok (.if_icmp .eq 28, 3) := by decide +kernel
theorem dL_law_1015 : decode cL_law 1015 = .ok (.iconst 0, 1) := by decide +kernel
theorem dL_law_1016 : decode cL_law 1016 = .ok (.ireturn, 1) := by decide +kernel
theorem dL_law_1017 : decode cL_law 1017 = .ok (.aload_n 1, 1) := by decide +kernel
theorem dL_law_1018 : decode cL_law 1018 = .ok (.aload_n 0, 1) := by decide +kernel
theorem dL_law_1019 : decode cL_law 1019 = .ok (.iload_n 3, 1) := by decide +kernel
theorem dL_law_1020 : decode cL_law 1020 = .ok (.iconst 1, 1) := by decide +kernel
theorem dL_law_1021 : decode cL_law 1021 = .ok (.iadd, 1) := by decide +kernel
theorem dL_law_1022 : decode cL_law 1022 = .ok (.iaload, 1) := by decide +kernel
theorem dL_law_1023 : decode cL_law 1023 = .ok (.invokevirtual 131, 3) := by decide +kernel
theorem dL_law_1026 : decode cL_law 1026 = .ok (.aload_n 2, 1) := by decide +kernel
theorem dL_law_1027 : decode cL_law 1027 = .ok (.aload_n 0, 1) := by decide +kernel
theorem dL_law_1028 : decode cL_law 1028 = .ok (.iload_n 3, 1) := by decide +kernel
theorem dL_law_1029 : decode cL_law 1029 = .ok (.iconst 1, 1) := by decide +kernel
theorem dL_law_1030 : decode cL_law 1030 = .ok (.iadd, 1) := by decide +kernel
theorem dL_law_1031 : decode cL_law 1031 = .ok (.iaload, 1) := by decide +kernel
theorem dL_law_1032 : decode cL_law 1032 = .ok (.invokevirtual 134, 3) := by decide +kernel
theorem dL_law_1035 : decode cL_law 1035 = .ok (.if_icmp .eq 5, 3) := by decide +kernel
theorem dL_law_1038 : decode cL_law 1038 = .ok (.iconst 0, 1) := by decide +kernel
theorem dL_law_1039 : decode cL_law 1039 = .ok (.ireturn, 1) := by decide +kernel
theorem dL_law_1040 : decode cL_law 1040 = .ok (.iinc 3 7, 3) := by decide +kernel
theorem dL_law_1043 : decode cL_law 1043 = .ok (.goto (-1025), 3) := by decide +kernel
theorem dL_law_1046 : decode cL_law 1046 = .ok (.iconst 1, 1) := by decide +kernel
theorem dL_law_1047 : decode cL_law 1047 = .ok (.ireturn, 1) := by decide +kernel
end
section
def okW (w : Cond) : Bool := match w with
  | .methodLinkNest .. => true
  | .arrayOver (.object _) => true
  | w => goodWord w
def bigW : List Cond := lw_tbl.filter okW
theorem se_X7_failWith : Cond.selects RX7 yX7_failWith yX7_failWith ∈ bigW := List.mem_filter.mpr ⟨List.mem_of_getElem? (i := 0) (by decide +kernel), rfl⟩
theorem se_X5_stateAfter : Cond.selects RX5 yX5_stateAfter yX5_stateAfter ∈ bigW := List.mem_filter.mpr ⟨List.mem_of_getElem? (i := 1) (by decide +kernel), rfl⟩
theorem se_X5_beginWord : Cond.selects RX5 yX5_beginWord yX5_beginWord ∈ bigW := List.mem_filter.mpr ⟨List.mem_of_getElem? (i := 2) (by decide +kernel), rfl⟩
theorem se_X5_takeKind : Cond.selects RX5 yX5_takeKind yX5_takeKind ∈ bigW := List.mem_filter.mpr ⟨List.mem_of_getElem? (i := 3) (by decide +kernel), rfl⟩
theorem se_X5_takeLetter : Cond.selects RX5 yX5_takeLetter yX5_takeLetter ∈ bigW := List.mem_filter.mpr ⟨List.mem_of_getElem? (i := 4) (by decide +kernel), rfl⟩
theorem se_X7_takeText : Cond.selects RX7 yX7_takeText yX7_takeText ∈ bigW := List.mem_filter.mpr ⟨List.mem_of_getElem? (i := 5) (by decide +kernel), rfl⟩
theorem se_X7_isWord : Cond.selects RX7 yX7_isWord yX7_isWord ∈ bigW := List.mem_filter.mpr ⟨List.mem_of_getElem? (i := 6) (by decide +kernel), rfl⟩
theorem se_X7_heardInTold : Cond.selects RX7 yX7_heardInTold yX7_heardInTold ∈ bigW := List.mem_filter.mpr ⟨List.mem_of_getElem? (i := 7) (by decide +kernel), rfl⟩
theorem se_X6_liesOver : Cond.selects RX6 yX6_liesOver yX6_liesOver ∈ bigW := List.mem_filter.mpr ⟨List.mem_of_getElem? (i := 8) (by decide +kernel), rfl⟩
theorem se_X7_renewNet : Cond.selects RX7 yX7_renewNet yX7_renewNet ∈ bigW := List.mem_filter.mpr ⟨List.mem_of_getElem? (i := 9) (by decide +kernel), rfl⟩
theorem se_X1_markStays : Cond.selects RX1 yX1_markStays yX1_markStays ∈ bigW := List.mem_filter.mpr ⟨List.mem_of_getElem? (i := 10) (by decide +kernel), rfl⟩
theorem se_X1_markBeginnings : Cond.selects RX1 yX1_markBeginnings yX1_markBeginnings ∈ bigW := List.mem_filter.mpr ⟨List.mem_of_getElem? (i := 11) (by decide +kernel), rfl⟩
theorem se_X1_layTrail : Cond.selects RX1 yX1_layTrail yX1_layTrail ∈ bigW := List.mem_filter.mpr ⟨List.mem_of_getElem? (i := 12) (by decide +kernel), rfl⟩
theorem se_X1_stayAt : Cond.selects RX1 yX1_stayAt yX1_stayAt ∈ bigW := List.mem_filter.mpr ⟨List.mem_of_getElem? (i := 13) (by decide +kernel), rfl⟩
theorem se_X2_find : Cond.selects RX2 yX2_find yX2_find ∈ bigW := List.mem_filter.mpr ⟨List.mem_of_getElem? (i := 14) (by decide +kernel), rfl⟩
theorem se_X2_pointAfter : Cond.selects RX2 yX2_pointAfter yX2_pointAfter ∈ bigW := List.mem_filter.mpr ⟨List.mem_of_getElem? (i := 15) (by decide +kernel), rfl⟩
theorem se_X2_layShortestRow : Cond.selects RX2 yX2_layShortestRow yX2_layShortestRow ∈ bigW := List.mem_filter.mpr ⟨List.mem_of_getElem? (i := 16) (by decide +kernel), rfl⟩
theorem se_X0_addUp : Cond.selects RX0 yX0_addUp yX0_addUp ∈ bigW := List.mem_filter.mpr ⟨List.mem_of_getElem? (i := 17) (by decide +kernel), rfl⟩
theorem se_X0_addLetter : Cond.selects RX0 yX0_addLetter yX0_addLetter ∈ bigW := List.mem_filter.mpr ⟨List.mem_of_getElem? (i := 18) (by decide +kernel), rfl⟩
theorem se_X1_silentlyReachedFrom : Cond.selects RX1 yX1_silentlyReachedFrom yX1_silentlyReachedFrom ∈ bigW := List.mem_filter.mpr ⟨List.mem_of_getElem? (i := 19) (by decide +kernel), rfl⟩
theorem se_X7_standsInEachForm : Cond.selects RX7 yX7_standsInEachForm yX7_standsInEachForm ∈ bigW := List.mem_filter.mpr ⟨List.mem_of_getElem? (i := 20) (by decide +kernel), rfl⟩
theorem se_X7_readingsAreSo : Cond.selects RX7 yX7_readingsAreSo yX7_readingsAreSo ∈ bigW := List.mem_filter.mpr ⟨List.mem_of_getElem? (i := 21) (by decide +kernel), rfl⟩
theorem se_X7_tellTurned : Cond.selects RX7 yX7_tellTurned yX7_tellTurned ∈ bigW := List.mem_filter.mpr ⟨List.mem_of_getElem? (i := 22) (by decide +kernel), rfl⟩
theorem se_X7_leaveTrace : Cond.selects RX7 yX7_leaveTrace yX7_leaveTrace ∈ bigW := List.mem_filter.mpr ⟨List.mem_of_getElem? (i := 23) (by decide +kernel), rfl⟩
theorem se_X7_tellBoth : Cond.selects RX7 yX7_tellBoth yX7_tellBoth ∈ bigW := List.mem_filter.mpr ⟨List.mem_of_getElem? (i := 24) (by decide +kernel), rfl⟩
theorem se_X7_tellPlain : Cond.selects RX7 yX7_tellPlain yX7_tellPlain ∈ bigW := List.mem_filter.mpr ⟨List.mem_of_getElem? (i := 25) (by decide +kernel), rfl⟩
theorem se_X7_standIn : Cond.selects RX7 yX7_standIn yX7_standIn ∈ bigW := List.mem_filter.mpr ⟨List.mem_of_getElem? (i := 26) (by decide +kernel), rfl⟩
theorem se_X8_against : Cond.selects RX8 yX8_against yX8_against ∈ bigW := List.mem_filter.mpr ⟨List.mem_of_getElem? (i := 27) (by decide +kernel), rfl⟩
theorem se_X8_fails : Cond.selects RX8 yX8_fails yX8_fails ∈ bigW := List.mem_filter.mpr ⟨List.mem_of_getElem? (i := 28) (by decide +kernel), rfl⟩
theorem se_X8_readAll : Cond.selects RX8 yX8_readAll yX8_readAll ∈ bigW := List.mem_filter.mpr ⟨List.mem_of_getElem? (i := 29) (by decide +kernel), rfl⟩
theorem se_X8_isSign : Cond.selects RX8 yX8_isSign yX8_isSign ∈ bigW := List.mem_filter.mpr ⟨List.mem_of_getElem? (i := 30) (by decide +kernel), rfl⟩
theorem se_X8_readWord : Cond.selects RX8 yX8_readWord yX8_readWord ∈ bigW := List.mem_filter.mpr ⟨List.mem_of_getElem? (i := 31) (by decide +kernel), rfl⟩
theorem se_X8_isWord : Cond.selects RX8 yX8_isWord yX8_isWord ∈ bigW := List.mem_filter.mpr ⟨List.mem_of_getElem? (i := 32) (by decide +kernel), rfl⟩
theorem se_X8_areForms : Cond.selects RX8 yX8_areForms yX8_areForms ∈ bigW := List.mem_filter.mpr ⟨List.mem_of_getElem? (i := 33) (by decide +kernel), rfl⟩
theorem se_X8_letterOf : Cond.selects RX8 yX8_letterOf yX8_letterOf ∈ bigW := List.mem_filter.mpr ⟨List.mem_of_getElem? (i := 34) (by decide +kernel), rfl⟩
theorem se_X8_lookAtSaid : Cond.selects RX8 yX8_lookAtSaid yX8_lookAtSaid ∈ bigW := List.mem_filter.mpr ⟨List.mem_of_getElem? (i := 35) (by decide +kernel), rfl⟩
theorem se_X8_timesHeard : Cond.selects RX8 yX8_timesHeard yX8_timesHeard ∈ bigW := List.mem_filter.mpr ⟨List.mem_of_getElem? (i := 36) (by decide +kernel), rfl⟩
theorem se_X8_isHeard : Cond.selects RX8 yX8_isHeard yX8_isHeard ∈ bigW := List.mem_filter.mpr ⟨List.mem_of_getElem? (i := 37) (by decide +kernel), rfl⟩
theorem se_X8_heardBehind : Cond.selects RX8 yX8_heardBehind yX8_heardBehind ∈ bigW := List.mem_filter.mpr ⟨List.mem_of_getElem? (i := 38) (by decide +kernel), rfl⟩
theorem se_X8_areLetters : Cond.selects RX8 yX8_areLetters yX8_areLetters ∈ bigW := List.mem_filter.mpr ⟨List.mem_of_getElem? (i := 39) (by decide +kernel), rfl⟩
theorem se_X8_lookAtCells : Cond.selects RX8 yX8_lookAtCells yX8_lookAtCells ∈ bigW := List.mem_filter.mpr ⟨List.mem_of_getElem? (i := 40) (by decide +kernel), rfl⟩
theorem se_X8_standing : Cond.selects RX8 yX8_standing yX8_standing ∈ bigW := List.mem_filter.mpr ⟨List.mem_of_getElem? (i := 41) (by decide +kernel), rfl⟩
theorem se_X8_allHeard : Cond.selects RX8 yX8_allHeard yX8_allHeard ∈ bigW := List.mem_filter.mpr ⟨List.mem_of_getElem? (i := 42) (by decide +kernel), rfl⟩
theorem se_X8_heardBy : Cond.selects RX8 yX8_heardBy yX8_heardBy ∈ bigW := List.mem_filter.mpr ⟨List.mem_of_getElem? (i := 43) (by decide +kernel), rfl⟩
theorem se_X8_findFar : Cond.selects RX8 yX8_findFar yX8_findFar ∈ bigW := List.mem_filter.mpr ⟨List.mem_of_getElem? (i := 44) (by decide +kernel), rfl⟩
theorem se_X8_findNext : Cond.selects RX8 yX8_findNext yX8_findNext ∈ bigW := List.mem_filter.mpr ⟨List.mem_of_getElem? (i := 45) (by decide +kernel), rfl⟩
theorem se_X8_endOf : Cond.selects RX8 yX8_endOf yX8_endOf ∈ bigW := List.mem_filter.mpr ⟨List.mem_of_getElem? (i := 46) (by decide +kernel), rfl⟩
theorem se_X8_allWords : Cond.selects RX8 yX8_allWords yX8_allWords ∈ bigW := List.mem_filter.mpr ⟨List.mem_of_getElem? (i := 47) (by decide +kernel), rfl⟩
theorem se_X8_behindLetter : Cond.selects RX8 yX8_behindLetter yX8_behindLetter ∈ bigW := List.mem_filter.mpr ⟨List.mem_of_getElem? (i := 48) (by decide +kernel), rfl⟩
theorem se_X8_findWays : Cond.selects RX8 yX8_findWays yX8_findWays ∈ bigW := List.mem_filter.mpr ⟨List.mem_of_getElem? (i := 49) (by decide +kernel), rfl⟩
theorem se_X8_waysWith : Cond.selects RX8 yX8_waysWith yX8_waysWith ∈ bigW := List.mem_filter.mpr ⟨List.mem_of_getElem? (i := 50) (by decide +kernel), rfl⟩
theorem se_X8_goesFree : Cond.selects RX8 yX8_goesFree yX8_goesFree ∈ bigW := List.mem_filter.mpr ⟨List.mem_of_getElem? (i := 51) (by decide +kernel), rfl⟩
theorem se_X8_isIn : Cond.selects RX8 yX8_isIn yX8_isIn ∈ bigW := List.mem_filter.mpr ⟨List.mem_of_getElem? (i := 52) (by decide +kernel), rfl⟩
theorem se_X8_areSo : Cond.selects RX8 yX8_areSo yX8_areSo ∈ bigW := List.mem_filter.mpr ⟨List.mem_of_getElem? (i := 53) (by decide +kernel), rfl⟩
theorem se_X8_lost : Cond.selects RX8 yX8_lost yX8_lost ∈ bigW := List.mem_filter.mpr ⟨List.mem_of_getElem? (i := 54) (by decide +kernel), rfl⟩
theorem se_X8_begins : Cond.selects RX8 yX8_begins yX8_begins ∈ bigW := List.mem_filter.mpr ⟨List.mem_of_getElem? (i := 55) (by decide +kernel), rfl⟩
theorem ini_L : Cond.initialized RL ∈ bigW := List.mem_filter.mpr ⟨List.mem_of_getElem? (i := 56) (by decide +kernel), rfl⟩
theorem ini_X7 : Cond.initialized RX7 ∈ bigW := List.mem_filter.mpr ⟨List.mem_of_getElem? (i := 57) (by decide +kernel), rfl⟩
theorem ini_X5 : Cond.initialized RX5 ∈ bigW := List.mem_filter.mpr ⟨List.mem_of_getElem? (i := 58) (by decide +kernel), rfl⟩
theorem ini_X6 : Cond.initialized RX6 ∈ bigW := List.mem_filter.mpr ⟨List.mem_of_getElem? (i := 59) (by decide +kernel), rfl⟩
theorem ini_X1 : Cond.initialized RX1 ∈ bigW := List.mem_filter.mpr ⟨List.mem_of_getElem? (i := 60) (by decide +kernel), rfl⟩
theorem ini_X2 : Cond.initialized RX2 ∈ bigW := List.mem_filter.mpr ⟨List.mem_of_getElem? (i := 61) (by decide +kernel), rfl⟩
theorem ini_X0 : Cond.initialized RX0 ∈ bigW := List.mem_filter.mpr ⟨List.mem_of_getElem? (i := 62) (by decide +kernel), rfl⟩
theorem ini_X4 : Cond.initialized RX4 ∈ bigW := List.mem_filter.mpr ⟨List.mem_of_getElem? (i := 63) (by decide +kernel), rfl⟩
theorem ini_X3 : Cond.initialized RX3 ∈ bigW := List.mem_filter.mpr ⟨List.mem_of_getElem? (i := 64) (by decide +kernel), rfl⟩
theorem ini_X8 : Cond.initialized RX8 ∈ bigW := List.mem_filter.mpr ⟨List.mem_of_getElem? (i := 65) (by decide +kernel), rfl⟩
theorem ini_J6 : Cond.initialized RJ6 ∈ bigW := List.mem_filter.mpr ⟨List.mem_of_getElem? (i := 66) (by decide +kernel), rfl⟩
theorem ini_J9 : Cond.initialized RJ9 ∈ bigW := List.mem_filter.mpr ⟨List.mem_of_getElem? (i := 67) (by decide +kernel), rfl⟩
theorem ini_J7 : Cond.initialized RJ7 ∈ bigW := List.mem_filter.mpr ⟨List.mem_of_getElem? (i := 68) (by decide +kernel), rfl⟩
theorem ini_J10 : Cond.initialized RJ10 ∈ bigW := List.mem_filter.mpr ⟨List.mem_of_getElem? (i := 69) (by decide +kernel), rfl⟩
theorem cl_L_7 : Cond.classLink RL 7 RX7 ∈ bigW := List.mem_filter.mpr ⟨List.mem_of_getElem? (i := 70) (by decide +kernel), rfl⟩
theorem ins_X7 : Cond.instantiable RX7 17 ∈ bigW := List.mem_filter.mpr ⟨List.mem_of_getElem? (i := 71) (by decide +kernel), rfl⟩
theorem ml_L_9 : Cond.methodLink RL 9 yX7_init ∈ bigW := List.mem_filter.mpr ⟨List.mem_of_getElem? (i := 72) (by decide +kernel), rfl⟩
theorem im_X7_init : Cond.instanceMethod yX7_init ∈ bigW := List.mem_filter.mpr ⟨List.mem_of_getElem? (i := 73) (by decide +kernel), rfl⟩
theorem co_X7_init : Cond.code yX7_init cX7_init 2 none ∈ bigW := List.mem_filter.mpr ⟨List.mem_of_getElem? (i := 74) (by decide +kernel), rfl⟩
theorem ml_X7_5 : Cond.methodLink RX7 5 objectInit ∈ bigW := List.mem_filter.mpr ⟨List.mem_of_getElem? (i := 75) (by decide +kernel), rfl⟩
theorem im_objectInit : Cond.instanceMethod objectInit ∈ bigW := List.mem_filter.mpr ⟨List.mem_of_getElem? (i := 76) (by decide +kernel), rfl⟩
theorem co_objectInit : Cond.code objectInit ⟨#[0xb1]⟩ 1 none ∈ bigW := List.mem_filter.mpr ⟨List.mem_of_getElem? (i := 77) (by decide +kernel), rfl⟩
theorem cl_X7_11 : Cond.classLink RX7 11 RX4 ∈ bigW := List.mem_filter.mpr ⟨List.mem_of_getElem? (i := 78) (by decide +kernel), rfl⟩
theorem ao_X4 : Cond.arrayOver (.object RX4) ∈ bigW := List.mem_filter.mpr ⟨List.mem_of_getElem? (i := 79) (by decide +kernel), rfl⟩
theorem cl_X7_17 : Cond.classLink RX7 17 RX5 ∈ bigW := List.mem_filter.mpr ⟨List.mem_of_getElem? (i := 80) (by decide +kernel), rfl⟩
theorem ins_X5 : Cond.instantiable RX5 2 ∈ bigW := List.mem_filter.mpr ⟨List.mem_of_getElem? (i := 81) (by decide +kernel), rfl⟩
theorem mn_X7_19 : Cond.methodLinkNest RX7 19 yX5_init RX7 ∈ bigW := List.mem_filter.mpr ⟨List.mem_of_getElem? (i := 82) (by decide +kernel), rfl⟩
theorem im_X5_init : Cond.instanceMethod yX5_init ∈ bigW := List.mem_filter.mpr ⟨List.mem_of_getElem? (i := 83) (by decide +kernel), rfl⟩
theorem co_X5_init : Cond.code yX5_init cX5_init 1 none ∈ bigW := List.mem_filter.mpr ⟨List.mem_of_getElem? (i := 84) (by decide +kernel), rfl⟩
theorem ml_X5_3 : Cond.methodLink RX5 3 objectInit ∈ bigW := List.mem_filter.mpr ⟨List.mem_of_getElem? (i := 85) (by decide +kernel), rfl⟩
theorem mn_X5_9 : Cond.methodLinkNest RX5 9 yX7_newWords RX7 ∈ bigW := List.mem_filter.mpr ⟨List.mem_of_getElem? (i := 86) (by decide +kernel), rfl⟩
theorem st_X7_newWords : Cond.static yX7_newWords ∈ bigW := List.mem_filter.mpr ⟨List.mem_of_getElem? (i := 87) (by decide +kernel), rfl⟩
theorem co_X7_newWords : Cond.code yX7_newWords cX7_newWords 2 (some ((FieldType.array (FieldType.object "OneLongRow$Word")))) ∈ bigW := List.mem_filter.mpr ⟨List.mem_of_getElem? (i := 88) (by decide +kernel), rfl⟩
theorem cl_X7_45 : Cond.classLink RX7 45 RX6 ∈ bigW := List.mem_filter.mpr ⟨List.mem_of_getElem? (i := 89) (by decide +kernel), rfl⟩
theorem ao_X6 : Cond.arrayOver (.object RX6) ∈ bigW := List.mem_filter.mpr ⟨List.mem_of_getElem? (i := 90) (by decide +kernel), rfl⟩
theorem ins_X6 : Cond.instantiable RX6 3 ∈ bigW := List.mem_filter.mpr ⟨List.mem_of_getElem? (i := 91) (by decide +kernel), rfl⟩
theorem mn_X7_47 : Cond.methodLinkNest RX7 47 yX6_init RX7 ∈ bigW := List.mem_filter.mpr ⟨List.mem_of_getElem? (i := 92) (by decide +kernel), rfl⟩
theorem im_X6_init : Cond.instanceMethod yX6_init ∈ bigW := List.mem_filter.mpr ⟨List.mem_of_getElem? (i := 93) (by decide +kernel), rfl⟩
theorem co_X6_init : Cond.code yX6_init cX6_init 1 none ∈ bigW := List.mem_filter.mpr ⟨List.mem_of_getElem? (i := 94) (by decide +kernel), rfl⟩
theorem ml_X6_3 : Cond.methodLink RX6 3 objectInit ∈ bigW := List.mem_filter.mpr ⟨List.mem_of_getElem? (i := 95) (by decide +kernel), rfl⟩
theorem fl_X6_9 : Cond.fieldLink RX6 9 "OneLongRow$Word" "letters" "[I" ∈ bigW := List.mem_filter.mpr ⟨List.mem_of_getElem? (i := 96) (by decide +kernel), rfl⟩
theorem fl_X7_132 : Cond.fieldLink RX7 132 "OneLongRow$Word" "letters" "[I" ∈ bigW := List.mem_filter.mpr ⟨List.mem_of_getElem? (i := 97) (by decide +kernel), rfl⟩
theorem fl_X5_56 : Cond.fieldLink RX5 56 "OneLongRow$Word" "letters" "[I" ∈ bigW := List.mem_filter.mpr ⟨List.mem_of_getElem? (i := 98) (by decide +kernel), rfl⟩
theorem fl_X6_19 : Cond.fieldLink RX6 19 "OneLongRow$Word" "length" "I" ∈ bigW := List.mem_filter.mpr ⟨List.mem_of_getElem? (i := 99) (by decide +kernel), rfl⟩
theorem fl_X7_118 : Cond.fieldLink RX7 118 "OneLongRow$Word" "length" "I" ∈ bigW := List.mem_filter.mpr ⟨List.mem_of_getElem? (i := 100) (by decide +kernel), rfl⟩
theorem fl_X5_48 : Cond.fieldLink RX5 48 "OneLongRow$Word" "length" "I" ∈ bigW := List.mem_filter.mpr ⟨List.mem_of_getElem? (i := 101) (by decide +kernel), rfl⟩
theorem fl_X1_55 : Cond.fieldLink RX1 55 "OneLongRow$Word" "length" "I" ∈ bigW := List.mem_filter.mpr ⟨List.mem_of_getElem? (i := 102) (by decide +kernel), rfl⟩
theorem fl_X6_15 : Cond.fieldLink RX6 15 "OneLongRow$Word" "kind" "I" ∈ bigW := List.mem_filter.mpr ⟨List.mem_of_getElem? (i := 103) (by decide +kernel), rfl⟩
theorem fl_X7_115 : Cond.fieldLink RX7 115 "OneLongRow$Word" "kind" "I" ∈ bigW := List.mem_filter.mpr ⟨List.mem_of_getElem? (i := 104) (by decide +kernel), rfl⟩
theorem fl_X5_53 : Cond.fieldLink RX5 53 "OneLongRow$Word" "kind" "I" ∈ bigW := List.mem_filter.mpr ⟨List.mem_of_getElem? (i := 105) (by decide +kernel), rfl⟩
theorem ac_int : Cond.arrayClass .int ∈ bigW := List.mem_filter.mpr ⟨List.mem_of_getElem? (i := 113) (by decide +kernel), rfl⟩
theorem fl_X5_13 : Cond.fieldLink RX5 13 "OneLongRow$Text" "drafts" "[LOneLongRow$Word;" ∈ bigW := List.mem_filter.mpr ⟨List.mem_of_getElem? (i := 114) (by decide +kernel), rfl⟩
theorem fl_X7_249 : Cond.fieldLink RX7 249 "OneLongRow$Text" "drafts" "[LOneLongRow$Word;" ∈ bigW := List.mem_filter.mpr ⟨List.mem_of_getElem? (i := 115) (by decide +kernel), rfl⟩
theorem fl_X5_25 : Cond.fieldLink RX5 25 "OneLongRow$Text" "begun" "I" ∈ bigW := List.mem_filter.mpr ⟨List.mem_of_getElem? (i := 116) (by decide +kernel), rfl⟩
theorem fl_X7_252 : Cond.fieldLink RX7 252 "OneLongRow$Text" "begun" "I" ∈ bigW := List.mem_filter.mpr ⟨List.mem_of_getElem? (i := 117) (by decide +kernel), rfl⟩
theorem ml_X7_24 : Cond.methodLink RX7 24 yX7_newWords ∈ bigW := List.mem_filter.mpr ⟨List.mem_of_getElem? (i := 123) (by decide +kernel), rfl⟩
theorem cl_X7_39 : Cond.classLink RX7 39 RX3 ∈ bigW := List.mem_filter.mpr ⟨List.mem_of_getElem? (i := 124) (by decide +kernel), rfl⟩
theorem ao_X3 : Cond.arrayOver (.object RX3) ∈ bigW := List.mem_filter.mpr ⟨List.mem_of_getElem? (i := 125) (by decide +kernel), rfl⟩
theorem cl_X7_55 : Cond.classLink RX7 55 RX1 ∈ bigW := List.mem_filter.mpr ⟨List.mem_of_getElem? (i := 126) (by decide +kernel), rfl⟩
theorem ins_X1 : Cond.instantiable RX1 6 ∈ bigW := List.mem_filter.mpr ⟨List.mem_of_getElem? (i := 127) (by decide +kernel), rfl⟩
theorem ml_X7_57 : Cond.methodLink RX7 57 yX1_init ∈ bigW := List.mem_filter.mpr ⟨List.mem_of_getElem? (i := 128) (by decide +kernel), rfl⟩
theorem im_X1_init : Cond.instanceMethod yX1_init ∈ bigW := List.mem_filter.mpr ⟨List.mem_of_getElem? (i := 129) (by decide +kernel), rfl⟩
theorem co_X1_init : Cond.code yX1_init cX1_init 2 none ∈ bigW := List.mem_filter.mpr ⟨List.mem_of_getElem? (i := 130) (by decide +kernel), rfl⟩
theorem ml_X1_3 : Cond.methodLink RX1 3 objectInit ∈ bigW := List.mem_filter.mpr ⟨List.mem_of_getElem? (i := 131) (by decide +kernel), rfl⟩
theorem ml_X1_28 : Cond.methodLink RX1 28 yX1_behind ∈ bigW := List.mem_filter.mpr ⟨List.mem_of_getElem? (i := 132) (by decide +kernel), rfl⟩
theorem st_X1_behind : Cond.static yX1_behind ∈ bigW := List.mem_filter.mpr ⟨List.mem_of_getElem? (i := 133) (by decide +kernel), rfl⟩
theorem co_X1_behind : Cond.code yX1_behind cX1_behind 2 (some (FieldType.int)) ∈ bigW := List.mem_filter.mpr ⟨List.mem_of_getElem? (i := 134) (by decide +kernel), rfl⟩
theorem fl_X1_11 : Cond.fieldLink RX1 11 "OneLongRow$Net" "shorter" "[I" ∈ bigW := List.mem_filter.mpr ⟨List.mem_of_getElem? (i := 135) (by decide +kernel), rfl⟩
theorem fl_X1_15 : Cond.fieldLink RX1 15 "OneLongRow$Net" "heard" "[I" ∈ bigW := List.mem_filter.mpr ⟨List.mem_of_getElem? (i := 136) (by decide +kernel), rfl⟩
theorem fl_X2_64 : Cond.fieldLink RX2 64 "OneLongRow$Net" "heard" "[I" ∈ bigW := List.mem_filter.mpr ⟨List.mem_of_getElem? (i := 137) (by decide +kernel), rfl⟩
theorem fl_X1_18 : Cond.fieldLink RX1 18 "OneLongRow$Net" "after" "[I" ∈ bigW := List.mem_filter.mpr ⟨List.mem_of_getElem? (i := 138) (by decide +kernel), rfl⟩
theorem fl_X2_67 : Cond.fieldLink RX2 67 "OneLongRow$Net" "after" "[I" ∈ bigW := List.mem_filter.mpr ⟨List.mem_of_getElem? (i := 139) (by decide +kernel), rfl⟩
theorem fl_X1_21 : Cond.fieldLink RX1 21 "OneLongRow$Net" "isStay" "[Z" ∈ bigW := List.mem_filter.mpr ⟨List.mem_of_getElem? (i := 140) (by decide +kernel), rfl⟩
theorem fl_X1_25 : Cond.fieldLink RX1 25 "OneLongRow$Net" "trail" "[I" ∈ bigW := List.mem_filter.mpr ⟨List.mem_of_getElem? (i := 141) (by decide +kernel), rfl⟩
theorem fl_X2_47 : Cond.fieldLink RX2 47 "OneLongRow$Net" "whole" "I" ∈ bigW := List.mem_filter.mpr ⟨List.mem_of_getElem? (i := 142) (by decide +kernel), rfl⟩
theorem fl_X1_32 : Cond.fieldLink RX1 32 "OneLongRow$Net" "whole" "I" ∈ bigW := List.mem_filter.mpr ⟨List.mem_of_getElem? (i := 143) (by decide +kernel), rfl⟩
theorem ac_boolean : Cond.arrayClass .boolean ∈ bigW := List.mem_filter.mpr ⟨List.mem_of_getElem? (i := 157) (by decide +kernel), rfl⟩
theorem cl_X7_62 : Cond.classLink RX7 62 RX2 ∈ bigW := List.mem_filter.mpr ⟨List.mem_of_getElem? (i := 158) (by decide +kernel), rfl⟩
theorem ins_X2 : Cond.instantiable RX2 8 ∈ bigW := List.mem_filter.mpr ⟨List.mem_of_getElem? (i := 159) (by decide +kernel), rfl⟩
theorem mn_X7_64 : Cond.methodLinkNest RX7 64 yX2_init RX7 ∈ bigW := List.mem_filter.mpr ⟨List.mem_of_getElem? (i := 160) (by decide +kernel), rfl⟩
theorem im_X2_init : Cond.instanceMethod yX2_init ∈ bigW := List.mem_filter.mpr ⟨List.mem_of_getElem? (i := 161) (by decide +kernel), rfl⟩
theorem co_X2_init : Cond.code yX2_init cX2_init 1 none ∈ bigW := List.mem_filter.mpr ⟨List.mem_of_getElem? (i := 162) (by decide +kernel), rfl⟩
theorem ml_X2_5 : Cond.methodLink RX2 5 objectInit ∈ bigW := List.mem_filter.mpr ⟨List.mem_of_getElem? (i := 163) (by decide +kernel), rfl⟩
theorem fl_X2_13 : Cond.fieldLink RX2 13 "OneLongRow$Points" "numbers" "[I" ∈ bigW := List.mem_filter.mpr ⟨List.mem_of_getElem? (i := 164) (by decide +kernel), rfl⟩
theorem fl_X2_17 : Cond.fieldLink RX2 17 "OneLongRow$Points" "places" "[I" ∈ bigW := List.mem_filter.mpr ⟨List.mem_of_getElem? (i := 165) (by decide +kernel), rfl⟩
theorem fl_X2_20 : Cond.fieldLink RX2 20 "OneLongRow$Points" "foundBy" "[I" ∈ bigW := List.mem_filter.mpr ⟨List.mem_of_getElem? (i := 166) (by decide +kernel), rfl⟩
theorem fl_X2_23 : Cond.fieldLink RX2 23 "OneLongRow$Points" "next" "[I" ∈ bigW := List.mem_filter.mpr ⟨List.mem_of_getElem? (i := 167) (by decide +kernel), rfl⟩
theorem fl_X0_46 : Cond.fieldLink RX0 46 "OneLongRow$Points" "next" "[I" ∈ bigW := List.mem_filter.mpr ⟨List.mem_of_getElem? (i := 168) (by decide +kernel), rfl⟩
theorem fl_X2_26 : Cond.fieldLink RX2 26 "OneLongRow$Points" "letters" "[I" ∈ bigW := List.mem_filter.mpr ⟨List.mem_of_getElem? (i := 169) (by decide +kernel), rfl⟩
theorem fl_X7_158 : Cond.fieldLink RX7 158 "OneLongRow$Points" "letters" "[I" ∈ bigW := List.mem_filter.mpr ⟨List.mem_of_getElem? (i := 170) (by decide +kernel), rfl⟩
theorem fl_X2_35 : Cond.fieldLink RX2 35 "OneLongRow$Points" "many" "I" ∈ bigW := List.mem_filter.mpr ⟨List.mem_of_getElem? (i := 171) (by decide +kernel), rfl⟩
theorem fl_X0_43 : Cond.fieldLink RX0 43 "OneLongRow$Points" "many" "I" ∈ bigW := List.mem_filter.mpr ⟨List.mem_of_getElem? (i := 172) (by decide +kernel), rfl⟩
theorem fl_X2_55 : Cond.fieldLink RX2 55 "OneLongRow$Points" "wholePoint" "I" ∈ bigW := List.mem_filter.mpr ⟨List.mem_of_getElem? (i := 173) (by decide +kernel), rfl⟩
theorem fl_X0_54 : Cond.fieldLink RX0 54 "OneLongRow$Points" "wholePoint" "I" ∈ bigW := List.mem_filter.mpr ⟨List.mem_of_getElem? (i := 174) (by decide +kernel), rfl⟩
theorem fl_X2_70 : Cond.fieldLink RX2 70 "OneLongRow$Points" "length" "I" ∈ bigW := List.mem_filter.mpr ⟨List.mem_of_getElem? (i := 175) (by decide +kernel), rfl⟩
theorem fl_X7_157 : Cond.fieldLink RX7 157 "OneLongRow$Points" "length" "I" ∈ bigW := List.mem_filter.mpr ⟨List.mem_of_getElem? (i := 176) (by decide +kernel), rfl⟩
theorem cl_X7_69 : Cond.classLink RX7 69 RX0 ∈ bigW := List.mem_filter.mpr ⟨List.mem_of_getElem? (i := 194) (by decide +kernel), rfl⟩
theorem ins_X0 : Cond.instantiable RX0 5 ∈ bigW := List.mem_filter.mpr ⟨List.mem_of_getElem? (i := 195) (by decide +kernel), rfl⟩
theorem mn_X7_71 : Cond.methodLinkNest RX7 71 yX0_init RX7 ∈ bigW := List.mem_filter.mpr ⟨List.mem_of_getElem? (i := 196) (by decide +kernel), rfl⟩
theorem im_X0_init : Cond.instanceMethod yX0_init ∈ bigW := List.mem_filter.mpr ⟨List.mem_of_getElem? (i := 197) (by decide +kernel), rfl⟩
theorem co_X0_init : Cond.code yX0_init cX0_init 1 none ∈ bigW := List.mem_filter.mpr ⟨List.mem_of_getElem? (i := 198) (by decide +kernel), rfl⟩
theorem ml_X0_3 : Cond.methodLink RX0 3 objectInit ∈ bigW := List.mem_filter.mpr ⟨List.mem_of_getElem? (i := 199) (by decide +kernel), rfl⟩
theorem fl_X0_9 : Cond.fieldLink RX0 9 "OneLongRow$Counts" "withAll" "[J" ∈ bigW := List.mem_filter.mpr ⟨List.mem_of_getElem? (i := 200) (by decide +kernel), rfl⟩
theorem fl_X7_168 : Cond.fieldLink RX7 168 "OneLongRow$Counts" "withAll" "[J" ∈ bigW := List.mem_filter.mpr ⟨List.mem_of_getElem? (i := 201) (by decide +kernel), rfl⟩
theorem fl_X0_15 : Cond.fieldLink RX0 15 "OneLongRow$Counts" "withNone" "[J" ∈ bigW := List.mem_filter.mpr ⟨List.mem_of_getElem? (i := 202) (by decide +kernel), rfl⟩
theorem fl_X7_172 : Cond.fieldLink RX7 172 "OneLongRow$Counts" "withNone" "[J" ∈ bigW := List.mem_filter.mpr ⟨List.mem_of_getElem? (i := 203) (by decide +kernel), rfl⟩
theorem fl_X0_20 : Cond.fieldLink RX0 20 "OneLongRow$Counts" "rows" "[J" ∈ bigW := List.mem_filter.mpr ⟨List.mem_of_getElem? (i := 204) (by decide +kernel), rfl⟩
theorem fl_X0_23 : Cond.fieldLink RX0 23 "OneLongRow$Counts" "longerRows" "[J" ∈ bigW := List.mem_filter.mpr ⟨List.mem_of_getElem? (i := 205) (by decide +kernel), rfl⟩
theorem fl_X0_32 : Cond.fieldLink RX0 32 "OneLongRow$Counts" "counted" "I" ∈ bigW := List.mem_filter.mpr ⟨List.mem_of_getElem? (i := 206) (by decide +kernel), rfl⟩
theorem ac_long : Cond.arrayClass .long ∈ bigW := List.mem_filter.mpr ⟨List.mem_of_getElem? (i := 218) (by decide +kernel), rfl⟩
theorem ins_X4 : Cond.instantiable RX4 4 ∈ bigW := List.mem_filter.mpr ⟨List.mem_of_getElem? (i := 219) (by decide +kernel), rfl⟩
theorem mn_X7_80 : Cond.methodLinkNest RX7 80 yX4_init RX7 ∈ bigW := List.mem_filter.mpr ⟨List.mem_of_getElem? (i := 220) (by decide +kernel), rfl⟩
theorem im_X4_init : Cond.instanceMethod yX4_init ∈ bigW := List.mem_filter.mpr ⟨List.mem_of_getElem? (i := 221) (by decide +kernel), rfl⟩
theorem co_X4_init : Cond.code yX4_init cX4_init 1 none ∈ bigW := List.mem_filter.mpr ⟨List.mem_of_getElem? (i := 222) (by decide +kernel), rfl⟩
theorem ml_X4_3 : Cond.methodLink RX4 3 objectInit ∈ bigW := List.mem_filter.mpr ⟨List.mem_of_getElem? (i := 223) (by decide +kernel), rfl⟩
theorem fl_X4_9 : Cond.fieldLink RX4 9 "OneLongRow$Sheet" "cells" "[I" ∈ bigW := List.mem_filter.mpr ⟨List.mem_of_getElem? (i := 224) (by decide +kernel), rfl⟩
theorem fl_X5_29 : Cond.fieldLink RX5 29 "OneLongRow$Sheet" "cells" "[I" ∈ bigW := List.mem_filter.mpr ⟨List.mem_of_getElem? (i := 225) (by decide +kernel), rfl⟩
theorem fl_X7_216 : Cond.fieldLink RX7 216 "OneLongRow$Sheet" "cells" "[I" ∈ bigW := List.mem_filter.mpr ⟨List.mem_of_getElem? (i := 226) (by decide +kernel), rfl⟩
theorem fl_X4_15 : Cond.fieldLink RX4 15 "OneLongRow$Sheet" "isThere" "Z" ∈ bigW := List.mem_filter.mpr ⟨List.mem_of_getElem? (i := 227) (by decide +kernel), rfl⟩
theorem fl_X7_206 : Cond.fieldLink RX7 206 "OneLongRow$Sheet" "isThere" "Z" ∈ bigW := List.mem_filter.mpr ⟨List.mem_of_getElem? (i := 228) (by decide +kernel), rfl⟩
theorem fl_X4_19 : Cond.fieldLink RX4 19 "OneLongRow$Sheet" "lane" "I" ∈ bigW := List.mem_filter.mpr ⟨List.mem_of_getElem? (i := 229) (by decide +kernel), rfl⟩
theorem fl_X7_219 : Cond.fieldLink RX7 219 "OneLongRow$Sheet" "lane" "I" ∈ bigW := List.mem_filter.mpr ⟨List.mem_of_getElem? (i := 230) (by decide +kernel), rfl⟩
theorem fl_X4_23 : Cond.fieldLink RX4 23 "OneLongRow$Sheet" "length" "I" ∈ bigW := List.mem_filter.mpr ⟨List.mem_of_getElem? (i := 231) (by decide +kernel), rfl⟩
theorem fl_X7_209 : Cond.fieldLink RX7 209 "OneLongRow$Sheet" "length" "I" ∈ bigW := List.mem_filter.mpr ⟨List.mem_of_getElem? (i := 232) (by decide +kernel), rfl⟩
theorem ins_X3 : Cond.instantiable RX3 4 ∈ bigW := List.mem_filter.mpr ⟨List.mem_of_getElem? (i := 242) (by decide +kernel), rfl⟩
theorem mn_X7_81 : Cond.methodLinkNest RX7 81 yX3_init RX7 ∈ bigW := List.mem_filter.mpr ⟨List.mem_of_getElem? (i := 243) (by decide +kernel), rfl⟩
theorem im_X3_init : Cond.instanceMethod yX3_init ∈ bigW := List.mem_filter.mpr ⟨List.mem_of_getElem? (i := 244) (by decide +kernel), rfl⟩
theorem co_X3_init : Cond.code yX3_init cX3_init 1 none ∈ bigW := List.mem_filter.mpr ⟨List.mem_of_getElem? (i := 245) (by decide +kernel), rfl⟩
theorem ml_X3_3 : Cond.methodLink RX3 3 objectInit ∈ bigW := List.mem_filter.mpr ⟨List.mem_of_getElem? (i := 246) (by decide +kernel), rfl⟩
theorem fl_X3_9 : Cond.fieldLink RX3 9 "OneLongRow$Reading" "letters" "[I" ∈ bigW := List.mem_filter.mpr ⟨List.mem_of_getElem? (i := 247) (by decide +kernel), rfl⟩
theorem fl_X7_284 : Cond.fieldLink RX7 284 "OneLongRow$Reading" "letters" "[I" ∈ bigW := List.mem_filter.mpr ⟨List.mem_of_getElem? (i := 248) (by decide +kernel), rfl⟩
theorem fl_X3_15 : Cond.fieldLink RX3 15 "OneLongRow$Reading" "word" "I" ∈ bigW := List.mem_filter.mpr ⟨List.mem_of_getElem? (i := 249) (by decide +kernel), rfl⟩
theorem fl_X7_281 : Cond.fieldLink RX7 281 "OneLongRow$Reading" "word" "I" ∈ bigW := List.mem_filter.mpr ⟨List.mem_of_getElem? (i := 250) (by decide +kernel), rfl⟩
theorem fl_X3_19 : Cond.fieldLink RX3 19 "OneLongRow$Reading" "length" "I" ∈ bigW := List.mem_filter.mpr ⟨List.mem_of_getElem? (i := 251) (by decide +kernel), rfl⟩
theorem fl_X7_285 : Cond.fieldLink RX7 285 "OneLongRow$Reading" "length" "I" ∈ bigW := List.mem_filter.mpr ⟨List.mem_of_getElem? (i := 252) (by decide +kernel), rfl⟩
theorem fl_X3_22 : Cond.fieldLink RX3 22 "OneLongRow$Reading" "stands" "Z" ∈ bigW := List.mem_filter.mpr ⟨List.mem_of_getElem? (i := 253) (by decide +kernel), rfl⟩
theorem fl_X7_286 : Cond.fieldLink RX7 286 "OneLongRow$Reading" "stands" "Z" ∈ bigW := List.mem_filter.mpr ⟨List.mem_of_getElem? (i := 254) (by decide +kernel), rfl⟩
theorem fl_X7_13 : Cond.fieldLink RX7 13 "OneLongRow" "sheets" "[LOneLongRow$Sheet;" ∈ bigW := List.mem_filter.mpr ⟨List.mem_of_getElem? (i := 264) (by decide +kernel), rfl⟩
theorem fl_X7_20 : Cond.fieldLink RX7 20 "OneLongRow" "text" "LOneLongRow$Text;" ∈ bigW := List.mem_filter.mpr ⟨List.mem_of_getElem? (i := 265) (by decide +kernel), rfl⟩
theorem fl_X7_28 : Cond.fieldLink RX7 28 "OneLongRow" "known" "[LOneLongRow$Word;" ∈ bigW := List.mem_filter.mpr ⟨List.mem_of_getElem? (i := 266) (by decide +kernel), rfl⟩
theorem fl_X7_109 : Cond.fieldLink RX7 109 "OneLongRow" "knownMany" "I" ∈ bigW := List.mem_filter.mpr ⟨List.mem_of_getElem? (i := 267) (by decide +kernel), rfl⟩
theorem fl_X7_32 : Cond.fieldLink RX7 32 "OneLongRow" "said" "[I" ∈ bigW := List.mem_filter.mpr ⟨List.mem_of_getElem? (i := 268) (by decide +kernel), rfl⟩
theorem fl_X7_125 : Cond.fieldLink RX7 125 "OneLongRow" "saidMany" "I" ∈ bigW := List.mem_filter.mpr ⟨List.mem_of_getElem? (i := 269) (by decide +kernel), rfl⟩
theorem fl_X7_36 : Cond.fieldLink RX7 36 "OneLongRow" "told" "[I" ∈ bigW := List.mem_filter.mpr ⟨List.mem_of_getElem? (i := 270) (by decide +kernel), rfl⟩
theorem fl_X7_41 : Cond.fieldLink RX7 41 "OneLongRow" "readings" "[LOneLongRow$Reading;" ∈ bigW := List.mem_filter.mpr ⟨List.mem_of_getElem? (i := 271) (by decide +kernel), rfl⟩
theorem fl_X7_182 : Cond.fieldLink RX7 182 "OneLongRow" "readingMany" "I" ∈ bigW := List.mem_filter.mpr ⟨List.mem_of_getElem? (i := 272) (by decide +kernel), rfl⟩
theorem fl_X7_48 : Cond.fieldLink RX7 48 "OneLongRow" "trial" "LOneLongRow$Word;" ∈ bigW := List.mem_filter.mpr ⟨List.mem_of_getElem? (i := 273) (by decide +kernel), rfl⟩
theorem fl_X7_52 : Cond.fieldLink RX7 52 "OneLongRow" "formLetters" "[I" ∈ bigW := List.mem_filter.mpr ⟨List.mem_of_getElem? (i := 274) (by decide +kernel), rfl⟩
theorem fl_X7_58 : Cond.fieldLink RX7 58 "OneLongRow" "net" "LOneLongRow$Net;" ∈ bigW := List.mem_filter.mpr ⟨List.mem_of_getElem? (i := 275) (by decide +kernel), rfl⟩
theorem fl_X7_65 : Cond.fieldLink RX7 65 "OneLongRow" "points" "LOneLongRow$Points;" ∈ bigW := List.mem_filter.mpr ⟨List.mem_of_getElem? (i := 276) (by decide +kernel), rfl⟩
theorem fl_X7_72 : Cond.fieldLink RX7 72 "OneLongRow" "counts" "LOneLongRow$Counts;" ∈ bigW := List.mem_filter.mpr ⟨List.mem_of_getElem? (i := 277) (by decide +kernel), rfl⟩
theorem fl_X7_76 : Cond.fieldLink RX7 76 "OneLongRow" "netIsOld" "Z" ∈ bigW := List.mem_filter.mpr ⟨List.mem_of_getElem? (i := 278) (by decide +kernel), rfl⟩
theorem fl_X7_243 : Cond.fieldLink RX7 243 "OneLongRow" "traced" "I" ∈ bigW := List.mem_filter.mpr ⟨List.mem_of_getElem? (i := 279) (by decide +kernel), rfl⟩
theorem fl_X7_82 : Cond.fieldLink RX7 82 "OneLongRow" "latestFault" "I" ∈ bigW := List.mem_filter.mpr ⟨List.mem_of_getElem? (i := 280) (by decide +kernel), rfl⟩
theorem ml_L_13 : Cond.methodLink RL 13 yX7_words ∈ bigW := List.mem_filter.mpr ⟨List.mem_of_getElem? (i := 316) (by decide +kernel), rfl⟩
theorem im_X7_words : Cond.instanceMethod yX7_words ∈ bigW := List.mem_filter.mpr ⟨List.mem_of_getElem? (i := 317) (by decide +kernel), rfl⟩
theorem se_X7_words : Cond.selects RX7 yX7_words yX7_words ∈ bigW := List.mem_filter.mpr ⟨List.mem_of_getElem? (i := 318) (by decide +kernel), rfl⟩
theorem co_X7_words : Cond.code yX7_words cX7_words 7 (some (FieldType.int)) ∈ bigW := List.mem_filter.mpr ⟨List.mem_of_getElem? (i := 319) (by decide +kernel), rfl⟩
theorem ml_X7_86 : Cond.methodLink RX7 86 yX7_isSheet ∈ bigW := List.mem_filter.mpr ⟨List.mem_of_getElem? (i := 320) (by decide +kernel), rfl⟩
theorem st_X7_isSheet : Cond.static yX7_isSheet ∈ bigW := List.mem_filter.mpr ⟨List.mem_of_getElem? (i := 321) (by decide +kernel), rfl⟩
theorem co_X7_isSheet : Cond.code yX7_isSheet cX7_isSheet 1 (some (FieldType.boolean)) ∈ bigW := List.mem_filter.mpr ⟨List.mem_of_getElem? (i := 322) (by decide +kernel), rfl⟩
theorem ml_X7_90 : Cond.methodLink RX7 90 yX7_isBelow ∈ bigW := List.mem_filter.mpr ⟨List.mem_of_getElem? (i := 323) (by decide +kernel), rfl⟩
theorem st_X7_isBelow : Cond.static yX7_isBelow ∈ bigW := List.mem_filter.mpr ⟨List.mem_of_getElem? (i := 324) (by decide +kernel), rfl⟩
theorem co_X7_isBelow : Cond.code yX7_isBelow cX7_isBelow 2 (some (FieldType.boolean)) ∈ bigW := List.mem_filter.mpr ⟨List.mem_of_getElem? (i := 325) (by decide +kernel), rfl⟩
theorem ml_X7_94 : Cond.methodLink RX7 94 yX4_faultOfCells ∈ bigW := List.mem_filter.mpr ⟨List.mem_of_getElem? (i := 326) (by decide +kernel), rfl⟩
theorem im_X4_faultOfCells : Cond.instanceMethod yX4_faultOfCells ∈ bigW := List.mem_filter.mpr ⟨List.mem_of_getElem? (i := 327) (by decide +kernel), rfl⟩
theorem se_X4_faultOfCells : Cond.selects RX4 yX4_faultOfCells yX4_faultOfCells ∈ bigW := List.mem_filter.mpr ⟨List.mem_of_getElem? (i := 328) (by decide +kernel), rfl⟩
theorem co_X4_faultOfCells : Cond.code yX4_faultOfCells cX4_faultOfCells 5 (some (FieldType.int)) ∈ bigW := List.mem_filter.mpr ⟨List.mem_of_getElem? (i := 329) (by decide +kernel), rfl⟩
theorem ml_X4_32 : Cond.methodLink RX4 32 yX4_faultOfLane ∈ bigW := List.mem_filter.mpr ⟨List.mem_of_getElem? (i := 330) (by decide +kernel), rfl⟩
theorem im_X4_faultOfLane : Cond.instanceMethod yX4_faultOfLane ∈ bigW := List.mem_filter.mpr ⟨List.mem_of_getElem? (i := 331) (by decide +kernel), rfl⟩
theorem se_X4_faultOfLane : Cond.selects RX4 yX4_faultOfLane yX4_faultOfLane ∈ bigW := List.mem_filter.mpr ⟨List.mem_of_getElem? (i := 332) (by decide +kernel), rfl⟩
theorem co_X4_faultOfLane : Cond.code yX4_faultOfLane cX4_faultOfLane 2 (some (FieldType.int)) ∈ bigW := List.mem_filter.mpr ⟨List.mem_of_getElem? (i := 333) (by decide +kernel), rfl⟩
theorem ml_X4_36 : Cond.methodLink RX4 36 yX4_hasCells ∈ bigW := List.mem_filter.mpr ⟨List.mem_of_getElem? (i := 334) (by decide +kernel), rfl⟩
theorem im_X4_hasCells : Cond.instanceMethod yX4_hasCells ∈ bigW := List.mem_filter.mpr ⟨List.mem_of_getElem? (i := 335) (by decide +kernel), rfl⟩
theorem se_X4_hasCells : Cond.selects RX4 yX4_hasCells yX4_hasCells ∈ bigW := List.mem_filter.mpr ⟨List.mem_of_getElem? (i := 336) (by decide +kernel), rfl⟩
theorem co_X4_hasCells : Cond.code yX4_hasCells cX4_hasCells 3 (some (FieldType.boolean)) ∈ bigW := List.mem_filter.mpr ⟨List.mem_of_getElem? (i := 337) (by decide +kernel), rfl⟩
theorem ml_X7_98 : Cond.methodLink RX7 98 yX7_failWith ∈ bigW := List.mem_filter.mpr ⟨List.mem_of_getElem? (i := 338) (by decide +kernel), rfl⟩
theorem im_X7_failWith : Cond.instanceMethod yX7_failWith ∈ bigW := List.mem_filter.mpr ⟨List.mem_of_getElem? (i := 340) (by decide +kernel), rfl⟩
theorem co_X7_failWith : Cond.code yX7_failWith cX7_failWith 2 (some (FieldType.int)) ∈ bigW := List.mem_filter.mpr ⟨List.mem_of_getElem? (i := 341) (by decide +kernel), rfl⟩
theorem ml_X7_102 : Cond.methodLink RX7 102 yX5_firstFault ∈ bigW := List.mem_filter.mpr ⟨List.mem_of_getElem? (i := 342) (by decide +kernel), rfl⟩
theorem im_X5_firstFault : Cond.instanceMethod yX5_firstFault ∈ bigW := List.mem_filter.mpr ⟨List.mem_of_getElem? (i := 343) (by decide +kernel), rfl⟩
theorem se_X5_firstFault : Cond.selects RX5 yX5_firstFault yX5_firstFault ∈ bigW := List.mem_filter.mpr ⟨List.mem_of_getElem? (i := 344) (by decide +kernel), rfl⟩
theorem co_X5_firstFault : Cond.code yX5_firstFault cX5_firstFault 6 (some (FieldType.int)) ∈ bigW := List.mem_filter.mpr ⟨List.mem_of_getElem? (i := 345) (by decide +kernel), rfl⟩
theorem ml_X5_19 : Cond.methodLink RX5 19 yX4_hasCells ∈ bigW := List.mem_filter.mpr ⟨List.mem_of_getElem? (i := 346) (by decide +kernel), rfl⟩
theorem ml_X5_33 : Cond.methodLink RX5 33 yX5_stateAfter ∈ bigW := List.mem_filter.mpr ⟨List.mem_of_getElem? (i := 347) (by decide +kernel), rfl⟩
theorem im_X5_stateAfter : Cond.instanceMethod yX5_stateAfter ∈ bigW := List.mem_filter.mpr ⟨List.mem_of_getElem? (i := 349) (by decide +kernel), rfl⟩
theorem co_X5_stateAfter : Cond.code yX5_stateAfter cX5_stateAfter 3 (some (FieldType.int)) ∈ bigW := List.mem_filter.mpr ⟨List.mem_of_getElem? (i := 350) (by decide +kernel), rfl⟩
theorem ml_X5_37 : Cond.methodLink RX5 37 yX5_beginWord ∈ bigW := List.mem_filter.mpr ⟨List.mem_of_getElem? (i := 351) (by decide +kernel), rfl⟩
theorem im_X5_beginWord : Cond.instanceMethod yX5_beginWord ∈ bigW := List.mem_filter.mpr ⟨List.mem_of_getElem? (i := 353) (by decide +kernel), rfl⟩
theorem co_X5_beginWord : Cond.code yX5_beginWord cX5_beginWord 1 (some (FieldType.int)) ∈ bigW := List.mem_filter.mpr ⟨List.mem_of_getElem? (i := 354) (by decide +kernel), rfl⟩
theorem ml_X5_41 : Cond.methodLink RX5 41 yX5_takeKind ∈ bigW := List.mem_filter.mpr ⟨List.mem_of_getElem? (i := 355) (by decide +kernel), rfl⟩
theorem im_X5_takeKind : Cond.instanceMethod yX5_takeKind ∈ bigW := List.mem_filter.mpr ⟨List.mem_of_getElem? (i := 357) (by decide +kernel), rfl⟩
theorem co_X5_takeKind : Cond.code yX5_takeKind cX5_takeKind 3 (some (FieldType.int)) ∈ bigW := List.mem_filter.mpr ⟨List.mem_of_getElem? (i := 358) (by decide +kernel), rfl⟩
theorem ml_X5_45 : Cond.methodLink RX5 45 yX5_takeLetter ∈ bigW := List.mem_filter.mpr ⟨List.mem_of_getElem? (i := 359) (by decide +kernel), rfl⟩
theorem im_X5_takeLetter : Cond.instanceMethod yX5_takeLetter ∈ bigW := List.mem_filter.mpr ⟨List.mem_of_getElem? (i := 361) (by decide +kernel), rfl⟩
theorem co_X5_takeLetter : Cond.code yX5_takeLetter cX5_takeLetter 3 (some (FieldType.int)) ∈ bigW := List.mem_filter.mpr ⟨List.mem_of_getElem? (i := 362) (by decide +kernel), rfl⟩
theorem ml_X7_106 : Cond.methodLink RX7 106 yX7_takeText ∈ bigW := List.mem_filter.mpr ⟨List.mem_of_getElem? (i := 363) (by decide +kernel), rfl⟩
theorem im_X7_takeText : Cond.instanceMethod yX7_takeText ∈ bigW := List.mem_filter.mpr ⟨List.mem_of_getElem? (i := 365) (by decide +kernel), rfl⟩
theorem co_X7_takeText : Cond.code yX7_takeText cX7_takeText 2 none ∈ bigW := List.mem_filter.mpr ⟨List.mem_of_getElem? (i := 366) (by decide +kernel), rfl⟩
theorem ml_L_18 : Cond.methodLink RL 18 yX7_ofWord ∈ bigW := List.mem_filter.mpr ⟨List.mem_of_getElem? (i := 367) (by decide +kernel), rfl⟩
theorem im_X7_ofWord : Cond.instanceMethod yX7_ofWord ∈ bigW := List.mem_filter.mpr ⟨List.mem_of_getElem? (i := 368) (by decide +kernel), rfl⟩
theorem se_X7_ofWord : Cond.selects RX7 yX7_ofWord yX7_ofWord ∈ bigW := List.mem_filter.mpr ⟨List.mem_of_getElem? (i := 369) (by decide +kernel), rfl⟩
theorem co_X7_ofWord : Cond.code yX7_ofWord cX7_ofWord 5 (some (FieldType.int)) ∈ bigW := List.mem_filter.mpr ⟨List.mem_of_getElem? (i := 370) (by decide +kernel), rfl⟩
theorem ml_X7_112 : Cond.methodLink RX7 112 yX7_isWord ∈ bigW := List.mem_filter.mpr ⟨List.mem_of_getElem? (i := 371) (by decide +kernel), rfl⟩
theorem im_X7_isWord : Cond.instanceMethod yX7_isWord ∈ bigW := List.mem_filter.mpr ⟨List.mem_of_getElem? (i := 373) (by decide +kernel), rfl⟩
theorem co_X7_isWord : Cond.code yX7_isWord cX7_isWord 2 (some (FieldType.boolean)) ∈ bigW := List.mem_filter.mpr ⟨List.mem_of_getElem? (i := 374) (by decide +kernel), rfl⟩
theorem ml_X7_121 : Cond.methodLink RX7 121 yX6_unlikeForms ∈ bigW := List.mem_filter.mpr ⟨List.mem_of_getElem? (i := 375) (by decide +kernel), rfl⟩
theorem im_X6_unlikeForms : Cond.instanceMethod yX6_unlikeForms ∈ bigW := List.mem_filter.mpr ⟨List.mem_of_getElem? (i := 376) (by decide +kernel), rfl⟩
theorem se_X6_unlikeForms : Cond.selects RX6 yX6_unlikeForms yX6_unlikeForms ∈ bigW := List.mem_filter.mpr ⟨List.mem_of_getElem? (i := 377) (by decide +kernel), rfl⟩
theorem co_X6_unlikeForms : Cond.code yX6_unlikeForms cX6_unlikeForms 2 (some (FieldType.int)) ∈ bigW := List.mem_filter.mpr ⟨List.mem_of_getElem? (i := 378) (by decide +kernel), rfl⟩
theorem ml_X6_28 : Cond.methodLink RX6 28 yX6_letterOf ∈ bigW := List.mem_filter.mpr ⟨List.mem_of_getElem? (i := 379) (by decide +kernel), rfl⟩
theorem im_X6_letterOf : Cond.instanceMethod yX6_letterOf ∈ bigW := List.mem_filter.mpr ⟨List.mem_of_getElem? (i := 380) (by decide +kernel), rfl⟩
theorem se_X6_letterOf : Cond.selects RX6 yX6_letterOf yX6_letterOf ∈ bigW := List.mem_filter.mpr ⟨List.mem_of_getElem? (i := 381) (by decide +kernel), rfl⟩
theorem co_X6_letterOf : Cond.code yX6_letterOf cX6_letterOf 3 (some (FieldType.int)) ∈ bigW := List.mem_filter.mpr ⟨List.mem_of_getElem? (i := 382) (by decide +kernel), rfl⟩
theorem ml_X7_128 : Cond.methodLink RX7 128 yX6_timesIn ∈ bigW := List.mem_filter.mpr ⟨List.mem_of_getElem? (i := 383) (by decide +kernel), rfl⟩
theorem im_X6_timesIn : Cond.instanceMethod yX6_timesIn ∈ bigW := List.mem_filter.mpr ⟨List.mem_of_getElem? (i := 384) (by decide +kernel), rfl⟩
theorem se_X6_timesIn : Cond.selects RX6 yX6_timesIn yX6_timesIn ∈ bigW := List.mem_filter.mpr ⟨List.mem_of_getElem? (i := 385) (by decide +kernel), rfl⟩
theorem co_X6_timesIn : Cond.code yX6_timesIn cX6_timesIn 5 (some (FieldType.int)) ∈ bigW := List.mem_filter.mpr ⟨List.mem_of_getElem? (i := 386) (by decide +kernel), rfl⟩
theorem ml_X6_36 : Cond.methodLink RX6 36 yX6_endsAt ∈ bigW := List.mem_filter.mpr ⟨List.mem_of_getElem? (i := 387) (by decide +kernel), rfl⟩
theorem im_X6_endsAt : Cond.instanceMethod yX6_endsAt ∈ bigW := List.mem_filter.mpr ⟨List.mem_of_getElem? (i := 388) (by decide +kernel), rfl⟩
theorem se_X6_endsAt : Cond.selects RX6 yX6_endsAt yX6_endsAt ∈ bigW := List.mem_filter.mpr ⟨List.mem_of_getElem? (i := 389) (by decide +kernel), rfl⟩
theorem co_X6_endsAt : Cond.code yX6_endsAt cX6_endsAt 3 (some (FieldType.boolean)) ∈ bigW := List.mem_filter.mpr ⟨List.mem_of_getElem? (i := 390) (by decide +kernel), rfl⟩
theorem ml_X6_32 : Cond.methodLink RX6 32 yX6_formEndsAt ∈ bigW := List.mem_filter.mpr ⟨List.mem_of_getElem? (i := 391) (by decide +kernel), rfl⟩
theorem im_X6_formEndsAt : Cond.instanceMethod yX6_formEndsAt ∈ bigW := List.mem_filter.mpr ⟨List.mem_of_getElem? (i := 392) (by decide +kernel), rfl⟩
theorem se_X6_formEndsAt : Cond.selects RX6 yX6_formEndsAt yX6_formEndsAt ∈ bigW := List.mem_filter.mpr ⟨List.mem_of_getElem? (i := 393) (by decide +kernel), rfl⟩
theorem co_X6_formEndsAt : Cond.code yX6_formEndsAt cX6_formEndsAt 6 (some (FieldType.boolean)) ∈ bigW := List.mem_filter.mpr ⟨List.mem_of_getElem? (i := 394) (by decide +kernel), rfl⟩
theorem ml_L_23 : Cond.methodLink RL 23 yX7_spell ∈ bigW := List.mem_filter.mpr ⟨List.mem_of_getElem? (i := 395) (by decide +kernel), rfl⟩
theorem im_X7_spell : Cond.instanceMethod yX7_spell ∈ bigW := List.mem_filter.mpr ⟨List.mem_of_getElem? (i := 396) (by decide +kernel), rfl⟩
theorem se_X7_spell : Cond.selects RX7 yX7_spell yX7_spell ∈ bigW := List.mem_filter.mpr ⟨List.mem_of_getElem? (i := 397) (by decide +kernel), rfl⟩
theorem co_X7_spell : Cond.code yX7_spell cX7_spell 5 (some (FieldType.int)) ∈ bigW := List.mem_filter.mpr ⟨List.mem_of_getElem? (i := 398) (by decide +kernel), rfl⟩
theorem ml_L_28 : Cond.methodLink RL 28 yX7_say ∈ bigW := List.mem_filter.mpr ⟨List.mem_of_getElem? (i := 399) (by decide +kernel), rfl⟩
theorem im_X7_say : Cond.instanceMethod yX7_say ∈ bigW := List.mem_filter.mpr ⟨List.mem_of_getElem? (i := 400) (by decide +kernel), rfl⟩
theorem se_X7_say : Cond.selects RX7 yX7_say yX7_say ∈ bigW := List.mem_filter.mpr ⟨List.mem_of_getElem? (i := 401) (by decide +kernel), rfl⟩
theorem co_X7_say : Cond.code yX7_say cX7_say 2 (some (FieldType.int)) ∈ bigW := List.mem_filter.mpr ⟨List.mem_of_getElem? (i := 402) (by decide +kernel), rfl⟩
theorem ml_X7_135 : Cond.methodLink RX7 135 yX7_heardBy ∈ bigW := List.mem_filter.mpr ⟨List.mem_of_getElem? (i := 403) (by decide +kernel), rfl⟩
theorem st_X7_heardBy : Cond.static yX7_heardBy ∈ bigW := List.mem_filter.mpr ⟨List.mem_of_getElem? (i := 404) (by decide +kernel), rfl⟩
theorem co_X7_heardBy : Cond.code yX7_heardBy cX7_heardBy 6 (some (FieldType.int)) ∈ bigW := List.mem_filter.mpr ⟨List.mem_of_getElem? (i := 405) (by decide +kernel), rfl⟩
theorem ml_X7_266 : Cond.methodLink RX7 266 yX6_endsAt ∈ bigW := List.mem_filter.mpr ⟨List.mem_of_getElem? (i := 406) (by decide +kernel), rfl⟩
theorem ml_L_33 : Cond.methodLink RL 33 yX7_hush ∈ bigW := List.mem_filter.mpr ⟨List.mem_of_getElem? (i := 407) (by decide +kernel), rfl⟩
theorem im_X7_hush : Cond.instanceMethod yX7_hush ∈ bigW := List.mem_filter.mpr ⟨List.mem_of_getElem? (i := 408) (by decide +kernel), rfl⟩
theorem se_X7_hush : Cond.selects RX7 yX7_hush yX7_hush ∈ bigW := List.mem_filter.mpr ⟨List.mem_of_getElem? (i := 409) (by decide +kernel), rfl⟩
theorem co_X7_hush : Cond.code yX7_hush cX7_hush 2 (some (FieldType.int)) ∈ bigW := List.mem_filter.mpr ⟨List.mem_of_getElem? (i := 410) (by decide +kernel), rfl⟩
theorem ml_L_38 : Cond.methodLink RL 38 yX7_row ∈ bigW := List.mem_filter.mpr ⟨List.mem_of_getElem? (i := 411) (by decide +kernel), rfl⟩
theorem im_X7_row : Cond.instanceMethod yX7_row ∈ bigW := List.mem_filter.mpr ⟨List.mem_of_getElem? (i := 412) (by decide +kernel), rfl⟩
theorem se_X7_row : Cond.selects RX7 yX7_row yX7_row ∈ bigW := List.mem_filter.mpr ⟨List.mem_of_getElem? (i := 413) (by decide +kernel), rfl⟩
theorem co_X7_row : Cond.code yX7_row cX7_row 8 (some (FieldType.int)) ∈ bigW := List.mem_filter.mpr ⟨List.mem_of_getElem? (i := 414) (by decide +kernel), rfl⟩
theorem ml_X7_139 : Cond.methodLink RX7 139 yX7_isOfRow ∈ bigW := List.mem_filter.mpr ⟨List.mem_of_getElem? (i := 415) (by decide +kernel), rfl⟩
theorem st_X7_isOfRow : Cond.static yX7_isOfRow ∈ bigW := List.mem_filter.mpr ⟨List.mem_of_getElem? (i := 416) (by decide +kernel), rfl⟩
theorem co_X7_isOfRow : Cond.code yX7_isOfRow cX7_isOfRow 1 (some (FieldType.boolean)) ∈ bigW := List.mem_filter.mpr ⟨List.mem_of_getElem? (i := 417) (by decide +kernel), rfl⟩
theorem ml_X7_142 : Cond.methodLink RX7 142 yX4_lettersTo ∈ bigW := List.mem_filter.mpr ⟨List.mem_of_getElem? (i := 418) (by decide +kernel), rfl⟩
theorem im_X4_lettersTo : Cond.instanceMethod yX4_lettersTo ∈ bigW := List.mem_filter.mpr ⟨List.mem_of_getElem? (i := 419) (by decide +kernel), rfl⟩
theorem se_X4_lettersTo : Cond.selects RX4 yX4_lettersTo yX4_lettersTo ∈ bigW := List.mem_filter.mpr ⟨List.mem_of_getElem? (i := 420) (by decide +kernel), rfl⟩
theorem co_X4_lettersTo : Cond.code yX4_lettersTo cX4_lettersTo 5 (some (FieldType.boolean)) ∈ bigW := List.mem_filter.mpr ⟨List.mem_of_getElem? (i := 421) (by decide +kernel), rfl⟩
theorem mn_X4_40 : Cond.methodLinkNest RX4 40 yX7_isBelow RX7 ∈ bigW := List.mem_filter.mpr ⟨List.mem_of_getElem? (i := 422) (by decide +kernel), rfl⟩
theorem ml_X7_146 : Cond.methodLink RX7 146 yX7_heardInTold ∈ bigW := List.mem_filter.mpr ⟨List.mem_of_getElem? (i := 423) (by decide +kernel), rfl⟩
theorem im_X7_heardInTold : Cond.instanceMethod yX7_heardInTold ∈ bigW := List.mem_filter.mpr ⟨List.mem_of_getElem? (i := 425) (by decide +kernel), rfl⟩
theorem co_X7_heardInTold : Cond.code yX7_heardInTold cX7_heardInTold 10 (some (FieldType.int)) ∈ bigW := List.mem_filter.mpr ⟨List.mem_of_getElem? (i := 426) (by decide +kernel), rfl⟩
theorem ml_X7_270 : Cond.methodLink RX7 270 yJ6_bitCount_0f7a4 ∈ bigW := List.mem_filter.mpr ⟨List.mem_of_getElem? (i := 427) (by decide +kernel), rfl⟩
theorem st_J6_bitCount_0f7a4 : Cond.static yJ6_bitCount_0f7a4 ∈ bigW := List.mem_filter.mpr ⟨List.mem_of_getElem? (i := 428) (by decide +kernel), rfl⟩
theorem co_J6_bitCount_0f7a4 : Cond.code yJ6_bitCount_0f7a4 cJ6_bitCount_0f7a4 1 (some (FieldType.int)) ∈ bigW := List.mem_filter.mpr ⟨List.mem_of_getElem? (i := 429) (by decide +kernel), rfl⟩
theorem ct_J6_265 : Cond.constant RJ6 265 (1431655765) ∈ bigW := List.mem_filter.mpr ⟨List.mem_of_getElem? (i := 430) (by decide +kernel), rfl⟩
theorem ct_J6_266 : Cond.constant RJ6 266 (858993459) ∈ bigW := List.mem_filter.mpr ⟨List.mem_of_getElem? (i := 431) (by decide +kernel), rfl⟩
theorem ct_J6_267 : Cond.constant RJ6 267 (252645135) ∈ bigW := List.mem_filter.mpr ⟨List.mem_of_getElem? (i := 432) (by decide +kernel), rfl⟩
theorem ml_L_43 : Cond.methodLink RL 43 yX7_over ∈ bigW := List.mem_filter.mpr ⟨List.mem_of_getElem? (i := 433) (by decide +kernel), rfl⟩
theorem im_X7_over : Cond.instanceMethod yX7_over ∈ bigW := List.mem_filter.mpr ⟨List.mem_of_getElem? (i := 434) (by decide +kernel), rfl⟩
theorem se_X7_over : Cond.selects RX7 yX7_over yX7_over ∈ bigW := List.mem_filter.mpr ⟨List.mem_of_getElem? (i := 435) (by decide +kernel), rfl⟩
theorem co_X7_over : Cond.code yX7_over cX7_over 3 (some (FieldType.int)) ∈ bigW := List.mem_filter.mpr ⟨List.mem_of_getElem? (i := 436) (by decide +kernel), rfl⟩
theorem ml_X7_150 : Cond.methodLink RX7 150 yX6_lettersOver ∈ bigW := List.mem_filter.mpr ⟨List.mem_of_getElem? (i := 437) (by decide +kernel), rfl⟩
theorem im_X6_lettersOver : Cond.instanceMethod yX6_lettersOver ∈ bigW := List.mem_filter.mpr ⟨List.mem_of_getElem? (i := 438) (by decide +kernel), rfl⟩
theorem se_X6_lettersOver : Cond.selects RX6 yX6_lettersOver yX6_lettersOver ∈ bigW := List.mem_filter.mpr ⟨List.mem_of_getElem? (i := 439) (by decide +kernel), rfl⟩
theorem co_X6_lettersOver : Cond.code yX6_lettersOver cX6_lettersOver 3 (some (FieldType.int)) ∈ bigW := List.mem_filter.mpr ⟨List.mem_of_getElem? (i := 440) (by decide +kernel), rfl⟩
theorem ml_X6_40 : Cond.methodLink RX6 40 yJ9_min_7cf53 ∈ bigW := List.mem_filter.mpr ⟨List.mem_of_getElem? (i := 441) (by decide +kernel), rfl⟩
theorem st_J9_min_7cf53 : Cond.static yJ9_min_7cf53 ∈ bigW := List.mem_filter.mpr ⟨List.mem_of_getElem? (i := 442) (by decide +kernel), rfl⟩
theorem co_J9_min_7cf53 : Cond.code yJ9_min_7cf53 cJ9_min_7cf53 2 (some (FieldType.int)) ∈ bigW := List.mem_filter.mpr ⟨List.mem_of_getElem? (i := 443) (by decide +kernel), rfl⟩
theorem ml_X6_45 : Cond.methodLink RX6 45 yX6_liesOver ∈ bigW := List.mem_filter.mpr ⟨List.mem_of_getElem? (i := 444) (by decide +kernel), rfl⟩
theorem im_X6_liesOver : Cond.instanceMethod yX6_liesOver ∈ bigW := List.mem_filter.mpr ⟨List.mem_of_getElem? (i := 446) (by decide +kernel), rfl⟩
theorem co_X6_liesOver : Cond.code yX6_liesOver cX6_liesOver 4 (some (FieldType.boolean)) ∈ bigW := List.mem_filter.mpr ⟨List.mem_of_getElem? (i := 447) (by decide +kernel), rfl⟩
theorem ml_L_47 : Cond.methodLink RL 47 yX7_all ∈ bigW := List.mem_filter.mpr ⟨List.mem_of_getElem? (i := 448) (by decide +kernel), rfl⟩
theorem im_X7_all : Cond.instanceMethod yX7_all ∈ bigW := List.mem_filter.mpr ⟨List.mem_of_getElem? (i := 449) (by decide +kernel), rfl⟩
theorem se_X7_all : Cond.selects RX7 yX7_all yX7_all ∈ bigW := List.mem_filter.mpr ⟨List.mem_of_getElem? (i := 450) (by decide +kernel), rfl⟩
theorem co_X7_all : Cond.code yX7_all cX7_all 2 (some (FieldType.int)) ∈ bigW := List.mem_filter.mpr ⟨List.mem_of_getElem? (i := 451) (by decide +kernel), rfl⟩
theorem ml_X7_154 : Cond.methodLink RX7 154 yX7_renewNet ∈ bigW := List.mem_filter.mpr ⟨List.mem_of_getElem? (i := 452) (by decide +kernel), rfl⟩
theorem im_X7_renewNet : Cond.instanceMethod yX7_renewNet ∈ bigW := List.mem_filter.mpr ⟨List.mem_of_getElem? (i := 454) (by decide +kernel), rfl⟩
theorem co_X7_renewNet : Cond.code yX7_renewNet cX7_renewNet 1 none ∈ bigW := List.mem_filter.mpr ⟨List.mem_of_getElem? (i := 455) (by decide +kernel), rfl⟩
theorem ml_X7_255 : Cond.methodLink RX7 255 yX1_learn ∈ bigW := List.mem_filter.mpr ⟨List.mem_of_getElem? (i := 456) (by decide +kernel), rfl⟩
theorem im_X1_learn : Cond.instanceMethod yX1_learn ∈ bigW := List.mem_filter.mpr ⟨List.mem_of_getElem? (i := 457) (by decide +kernel), rfl⟩
theorem se_X1_learn : Cond.selects RX1 yX1_learn yX1_learn ∈ bigW := List.mem_filter.mpr ⟨List.mem_of_getElem? (i := 458) (by decide +kernel), rfl⟩
theorem co_X1_learn : Cond.code yX1_learn cX1_learn 6 none ∈ bigW := List.mem_filter.mpr ⟨List.mem_of_getElem? (i := 459) (by decide +kernel), rfl⟩
theorem ml_X1_36 : Cond.methodLink RX1 36 yX1_markStays ∈ bigW := List.mem_filter.mpr ⟨List.mem_of_getElem? (i := 460) (by decide +kernel), rfl⟩
theorem im_X1_markStays : Cond.instanceMethod yX1_markStays ∈ bigW := List.mem_filter.mpr ⟨List.mem_of_getElem? (i := 462) (by decide +kernel), rfl⟩
theorem co_X1_markStays : Cond.code yX1_markStays cX1_markStays 5 none ∈ bigW := List.mem_filter.mpr ⟨List.mem_of_getElem? (i := 463) (by decide +kernel), rfl⟩
theorem ml_X1_51 : Cond.methodLink RX1 51 yX1_markBeginnings ∈ bigW := List.mem_filter.mpr ⟨List.mem_of_getElem? (i := 464) (by decide +kernel), rfl⟩
theorem im_X1_markBeginnings : Cond.instanceMethod yX1_markBeginnings ∈ bigW := List.mem_filter.mpr ⟨List.mem_of_getElem? (i := 466) (by decide +kernel), rfl⟩
theorem co_X1_markBeginnings : Cond.code yX1_markBeginnings cX1_markBeginnings 5 none ∈ bigW := List.mem_filter.mpr ⟨List.mem_of_getElem? (i := 467) (by decide +kernel), rfl⟩
theorem ml_X1_60 : Cond.methodLink RX1 60 yX6_letterOf ∈ bigW := List.mem_filter.mpr ⟨List.mem_of_getElem? (i := 468) (by decide +kernel), rfl⟩
theorem ml_X1_40 : Cond.methodLink RX1 40 yX1_layTrail ∈ bigW := List.mem_filter.mpr ⟨List.mem_of_getElem? (i := 469) (by decide +kernel), rfl⟩
theorem im_X1_layTrail : Cond.instanceMethod yX1_layTrail ∈ bigW := List.mem_filter.mpr ⟨List.mem_of_getElem? (i := 471) (by decide +kernel), rfl⟩
theorem co_X1_layTrail : Cond.code yX1_layTrail cX1_layTrail 5 (some (FieldType.int)) ∈ bigW := List.mem_filter.mpr ⟨List.mem_of_getElem? (i := 472) (by decide +kernel), rfl⟩
theorem mn_X1_44 : Cond.methodLinkNest RX1 44 yX7_heardBy RX7 ∈ bigW := List.mem_filter.mpr ⟨List.mem_of_getElem? (i := 473) (by decide +kernel), rfl⟩
theorem ml_X1_48 : Cond.methodLink RX1 48 yX1_stayAt ∈ bigW := List.mem_filter.mpr ⟨List.mem_of_getElem? (i := 474) (by decide +kernel), rfl⟩
theorem im_X1_stayAt : Cond.instanceMethod yX1_stayAt ∈ bigW := List.mem_filter.mpr ⟨List.mem_of_getElem? (i := 476) (by decide +kernel), rfl⟩
theorem co_X1_stayAt : Cond.code yX1_stayAt cX1_stayAt 4 (some (FieldType.int)) ∈ bigW := List.mem_filter.mpr ⟨List.mem_of_getElem? (i := 477) (by decide +kernel), rfl⟩
theorem ml_X7_259 : Cond.methodLink RX7 259 yX2_lay ∈ bigW := List.mem_filter.mpr ⟨List.mem_of_getElem? (i := 478) (by decide +kernel), rfl⟩
theorem im_X2_lay : Cond.instanceMethod yX2_lay ∈ bigW := List.mem_filter.mpr ⟨List.mem_of_getElem? (i := 479) (by decide +kernel), rfl⟩
theorem se_X2_lay : Cond.selects RX2 yX2_lay yX2_lay ∈ bigW := List.mem_filter.mpr ⟨List.mem_of_getElem? (i := 480) (by decide +kernel), rfl⟩
theorem co_X2_lay : Cond.code yX2_lay cX2_lay 4 none ∈ bigW := List.mem_filter.mpr ⟨List.mem_of_getElem? (i := 481) (by decide +kernel), rfl⟩
theorem ml_X2_29 : Cond.methodLink RX2 29 yJ7_fill_53178 ∈ bigW := List.mem_filter.mpr ⟨List.mem_of_getElem? (i := 482) (by decide +kernel), rfl⟩
theorem st_J7_fill_53178 : Cond.static yJ7_fill_53178 ∈ bigW := List.mem_filter.mpr ⟨List.mem_of_getElem? (i := 483) (by decide +kernel), rfl⟩
theorem co_J7_fill_53178 : Cond.code yJ7_fill_53178 cJ7_fill_53178 4 none ∈ bigW := List.mem_filter.mpr ⟨List.mem_of_getElem? (i := 484) (by decide +kernel), rfl⟩
theorem ml_X2_39 : Cond.methodLink RX2 39 yX2_find ∈ bigW := List.mem_filter.mpr ⟨List.mem_of_getElem? (i := 485) (by decide +kernel), rfl⟩
theorem im_X2_find : Cond.instanceMethod yX2_find ∈ bigW := List.mem_filter.mpr ⟨List.mem_of_getElem? (i := 487) (by decide +kernel), rfl⟩
theorem co_X2_find : Cond.code yX2_find cX2_find 3 (some (FieldType.int)) ∈ bigW := List.mem_filter.mpr ⟨List.mem_of_getElem? (i := 488) (by decide +kernel), rfl⟩
theorem ml_X2_50 : Cond.methodLink RX2 50 yJ9_max_7cf53 ∈ bigW := List.mem_filter.mpr ⟨List.mem_of_getElem? (i := 489) (by decide +kernel), rfl⟩
theorem st_J9_max_7cf53 : Cond.static yJ9_max_7cf53 ∈ bigW := List.mem_filter.mpr ⟨List.mem_of_getElem? (i := 490) (by decide +kernel), rfl⟩
theorem co_J9_max_7cf53 : Cond.code yJ9_max_7cf53 cJ9_max_7cf53 2 (some (FieldType.int)) ∈ bigW := List.mem_filter.mpr ⟨List.mem_of_getElem? (i := 491) (by decide +kernel), rfl⟩
theorem ml_X2_43 : Cond.methodLink RX2 43 yX2_pointAfter ∈ bigW := List.mem_filter.mpr ⟨List.mem_of_getElem? (i := 492) (by decide +kernel), rfl⟩
theorem im_X2_pointAfter : Cond.instanceMethod yX2_pointAfter ∈ bigW := List.mem_filter.mpr ⟨List.mem_of_getElem? (i := 494) (by decide +kernel), rfl⟩
theorem co_X2_pointAfter : Cond.code yX2_pointAfter cX2_pointAfter 7 (some (FieldType.int)) ∈ bigW := List.mem_filter.mpr ⟨List.mem_of_getElem? (i := 495) (by decide +kernel), rfl⟩
theorem ml_X2_61 : Cond.methodLink RX2 61 yX1_behind ∈ bigW := List.mem_filter.mpr ⟨List.mem_of_getElem? (i := 496) (by decide +kernel), rfl⟩
theorem ml_X2_58 : Cond.methodLink RX2 58 yX2_layShortestRow ∈ bigW := List.mem_filter.mpr ⟨List.mem_of_getElem? (i := 497) (by decide +kernel), rfl⟩
theorem im_X2_layShortestRow : Cond.instanceMethod yX2_layShortestRow ∈ bigW := List.mem_filter.mpr ⟨List.mem_of_getElem? (i := 499) (by decide +kernel), rfl⟩
theorem co_X2_layShortestRow : Cond.code yX2_layShortestRow cX2_layShortestRow 3 none ∈ bigW := List.mem_filter.mpr ⟨List.mem_of_getElem? (i := 500) (by decide +kernel), rfl⟩
theorem ml_X7_263 : Cond.methodLink RX7 263 yX0_begin ∈ bigW := List.mem_filter.mpr ⟨List.mem_of_getElem? (i := 501) (by decide +kernel), rfl⟩
theorem im_X0_begin : Cond.instanceMethod yX0_begin ∈ bigW := List.mem_filter.mpr ⟨List.mem_of_getElem? (i := 502) (by decide +kernel), rfl⟩
theorem se_X0_begin : Cond.selects RX0 yX0_begin yX0_begin ∈ bigW := List.mem_filter.mpr ⟨List.mem_of_getElem? (i := 503) (by decide +kernel), rfl⟩
theorem co_X0_begin : Cond.code yX0_begin cX0_begin 2 none ∈ bigW := List.mem_filter.mpr ⟨List.mem_of_getElem? (i := 504) (by decide +kernel), rfl⟩
theorem ml_X0_26 : Cond.methodLink RX0 26 yJ7_fill_d0a16 ∈ bigW := List.mem_filter.mpr ⟨List.mem_of_getElem? (i := 505) (by decide +kernel), rfl⟩
theorem st_J7_fill_d0a16 : Cond.static yJ7_fill_d0a16 ∈ bigW := List.mem_filter.mpr ⟨List.mem_of_getElem? (i := 506) (by decide +kernel), rfl⟩
theorem co_J7_fill_d0a16 : Cond.code yJ7_fill_d0a16 cJ7_fill_d0a16 5 none ∈ bigW := List.mem_filter.mpr ⟨List.mem_of_getElem? (i := 507) (by decide +kernel), rfl⟩
theorem ml_X0_36 : Cond.methodLink RX0 36 yX0_addUp ∈ bigW := List.mem_filter.mpr ⟨List.mem_of_getElem? (i := 508) (by decide +kernel), rfl⟩
theorem im_X0_addUp : Cond.instanceMethod yX0_addUp ∈ bigW := List.mem_filter.mpr ⟨List.mem_of_getElem? (i := 510) (by decide +kernel), rfl⟩
theorem co_X0_addUp : Cond.code yX0_addUp cX0_addUp 5 none ∈ bigW := List.mem_filter.mpr ⟨List.mem_of_getElem? (i := 511) (by decide +kernel), rfl⟩
theorem ml_X0_50 : Cond.methodLink RX0 50 yX2_isSilent ∈ bigW := List.mem_filter.mpr ⟨List.mem_of_getElem? (i := 512) (by decide +kernel), rfl⟩
theorem im_X2_isSilent : Cond.instanceMethod yX2_isSilent ∈ bigW := List.mem_filter.mpr ⟨List.mem_of_getElem? (i := 513) (by decide +kernel), rfl⟩
theorem se_X2_isSilent : Cond.selects RX2 yX2_isSilent yX2_isSilent ∈ bigW := List.mem_filter.mpr ⟨List.mem_of_getElem? (i := 514) (by decide +kernel), rfl⟩
theorem co_X2_isSilent : Cond.code yX2_isSilent cX2_isSilent 2 (some (FieldType.boolean)) ∈ bigW := List.mem_filter.mpr ⟨List.mem_of_getElem? (i := 515) (by decide +kernel), rfl⟩
theorem ml_L_51 : Cond.methodLink RL 51 yX7_have ∈ bigW := List.mem_filter.mpr ⟨List.mem_of_getElem? (i := 516) (by decide +kernel), rfl⟩
theorem im_X7_have : Cond.instanceMethod yX7_have ∈ bigW := List.mem_filter.mpr ⟨List.mem_of_getElem? (i := 517) (by decide +kernel), rfl⟩
theorem se_X7_have : Cond.selects RX7 yX7_have yX7_have ∈ bigW := List.mem_filter.mpr ⟨List.mem_of_getElem? (i := 518) (by decide +kernel), rfl⟩
theorem co_X7_have : Cond.code yX7_have cX7_have 2 (some (FieldType.long)) ∈ bigW := List.mem_filter.mpr ⟨List.mem_of_getElem? (i := 519) (by decide +kernel), rfl⟩
theorem ml_X7_159 : Cond.methodLink RX7 159 yX7_isCounted ∈ bigW := List.mem_filter.mpr ⟨List.mem_of_getElem? (i := 520) (by decide +kernel), rfl⟩
theorem st_X7_isCounted : Cond.static yX7_isCounted ∈ bigW := List.mem_filter.mpr ⟨List.mem_of_getElem? (i := 521) (by decide +kernel), rfl⟩
theorem co_X7_isCounted : Cond.code yX7_isCounted cX7_isCounted 1 (some (FieldType.boolean)) ∈ bigW := List.mem_filter.mpr ⟨List.mem_of_getElem? (i := 522) (by decide +kernel), rfl⟩
theorem ct_X7_162 : Cond.constantLong RX7 162 (-9223372036854775808) ∈ bigW := List.mem_filter.mpr ⟨List.mem_of_getElem? (i := 523) (by decide +kernel), rfl⟩
theorem ml_X7_164 : Cond.methodLink RX7 164 yX0_countTo ∈ bigW := List.mem_filter.mpr ⟨List.mem_of_getElem? (i := 524) (by decide +kernel), rfl⟩
theorem im_X0_countTo : Cond.instanceMethod yX0_countTo ∈ bigW := List.mem_filter.mpr ⟨List.mem_of_getElem? (i := 525) (by decide +kernel), rfl⟩
theorem se_X0_countTo : Cond.selects RX0 yX0_countTo yX0_countTo ∈ bigW := List.mem_filter.mpr ⟨List.mem_of_getElem? (i := 526) (by decide +kernel), rfl⟩
theorem co_X0_countTo : Cond.code yX0_countTo cX0_countTo 3 none ∈ bigW := List.mem_filter.mpr ⟨List.mem_of_getElem? (i := 527) (by decide +kernel), rfl⟩
theorem ml_X0_40 : Cond.methodLink RX0 40 yX0_addLetter ∈ bigW := List.mem_filter.mpr ⟨List.mem_of_getElem? (i := 528) (by decide +kernel), rfl⟩
theorem im_X0_addLetter : Cond.instanceMethod yX0_addLetter ∈ bigW := List.mem_filter.mpr ⟨List.mem_of_getElem? (i := 530) (by decide +kernel), rfl⟩
theorem co_X0_addLetter : Cond.code yX0_addLetter cX0_addLetter 6 none ∈ bigW := List.mem_filter.mpr ⟨List.mem_of_getElem? (i := 531) (by decide +kernel), rfl⟩
theorem ml_L_56 : Cond.methodLink RL 56 yX7_free ∈ bigW := List.mem_filter.mpr ⟨List.mem_of_getElem? (i := 532) (by decide +kernel), rfl⟩
theorem im_X7_free : Cond.instanceMethod yX7_free ∈ bigW := List.mem_filter.mpr ⟨List.mem_of_getElem? (i := 533) (by decide +kernel), rfl⟩
theorem se_X7_free : Cond.selects RX7 yX7_free yX7_free ∈ bigW := List.mem_filter.mpr ⟨List.mem_of_getElem? (i := 534) (by decide +kernel), rfl⟩
theorem co_X7_free : Cond.code yX7_free cX7_free 2 (some (FieldType.long)) ∈ bigW := List.mem_filter.mpr ⟨List.mem_of_getElem? (i := 535) (by decide +kernel), rfl⟩
theorem ml_L_60 : Cond.methodLink RL 60 yX7_longest ∈ bigW := List.mem_filter.mpr ⟨List.mem_of_getElem? (i := 536) (by decide +kernel), rfl⟩
theorem im_X7_longest : Cond.instanceMethod yX7_longest ∈ bigW := List.mem_filter.mpr ⟨List.mem_of_getElem? (i := 537) (by decide +kernel), rfl⟩
theorem se_X7_longest : Cond.selects RX7 yX7_longest yX7_longest ∈ bigW := List.mem_filter.mpr ⟨List.mem_of_getElem? (i := 538) (by decide +kernel), rfl⟩
theorem co_X7_longest : Cond.code yX7_longest cX7_longest 1 (some (FieldType.int)) ∈ bigW := List.mem_filter.mpr ⟨List.mem_of_getElem? (i := 539) (by decide +kernel), rfl⟩
theorem ml_X7_175 : Cond.methodLink RX7 175 yX1_longestSilent ∈ bigW := List.mem_filter.mpr ⟨List.mem_of_getElem? (i := 540) (by decide +kernel), rfl⟩
theorem im_X1_longestSilent : Cond.instanceMethod yX1_longestSilent ∈ bigW := List.mem_filter.mpr ⟨List.mem_of_getElem? (i := 541) (by decide +kernel), rfl⟩
theorem se_X1_longestSilent : Cond.selects RX1 yX1_longestSilent yX1_longestSilent ∈ bigW := List.mem_filter.mpr ⟨List.mem_of_getElem? (i := 542) (by decide +kernel), rfl⟩
theorem co_X1_longestSilent : Cond.code yX1_longestSilent cX1_longestSilent 4 (some (FieldType.int)) ∈ bigW := List.mem_filter.mpr ⟨List.mem_of_getElem? (i := 543) (by decide +kernel), rfl⟩
theorem ml_X1_63 : Cond.methodLink RX1 63 yX1_silentlyReachedFrom ∈ bigW := List.mem_filter.mpr ⟨List.mem_of_getElem? (i := 544) (by decide +kernel), rfl⟩
theorem im_X1_silentlyReachedFrom : Cond.instanceMethod yX1_silentlyReachedFrom ∈ bigW := List.mem_filter.mpr ⟨List.mem_of_getElem? (i := 546) (by decide +kernel), rfl⟩
theorem co_X1_silentlyReachedFrom : Cond.code yX1_silentlyReachedFrom cX1_silentlyReachedFrom 8 (some (FieldType.long)) ∈ bigW := List.mem_filter.mpr ⟨List.mem_of_getElem? (i := 547) (by decide +kernel), rfl⟩
theorem ml_L_64 : Cond.methodLink RL 64 yX7_spare ∈ bigW := List.mem_filter.mpr ⟨List.mem_of_getElem? (i := 548) (by decide +kernel), rfl⟩
theorem im_X7_spare : Cond.instanceMethod yX7_spare ∈ bigW := List.mem_filter.mpr ⟨List.mem_of_getElem? (i := 549) (by decide +kernel), rfl⟩
theorem se_X7_spare : Cond.selects RX7 yX7_spare yX7_spare ∈ bigW := List.mem_filter.mpr ⟨List.mem_of_getElem? (i := 550) (by decide +kernel), rfl⟩
theorem co_X7_spare : Cond.code yX7_spare cX7_spare 4 (some (FieldType.int)) ∈ bigW := List.mem_filter.mpr ⟨List.mem_of_getElem? (i := 551) (by decide +kernel), rfl⟩
theorem ml_X7_178 : Cond.methodLink RX7 178 yX7_standsInEachForm ∈ bigW := List.mem_filter.mpr ⟨List.mem_of_getElem? (i := 552) (by decide +kernel), rfl⟩
theorem im_X7_standsInEachForm : Cond.instanceMethod yX7_standsInEachForm ∈ bigW := List.mem_filter.mpr ⟨List.mem_of_getElem? (i := 554) (by decide +kernel), rfl⟩
theorem co_X7_standsInEachForm : Cond.code yX7_standsInEachForm cX7_standsInEachForm 5 (some (FieldType.boolean)) ∈ bigW := List.mem_filter.mpr ⟨List.mem_of_getElem? (i := 555) (by decide +kernel), rfl⟩
theorem ml_X7_275 : Cond.methodLink RX7 275 yX6_letterOf ∈ bigW := List.mem_filter.mpr ⟨List.mem_of_getElem? (i := 556) (by decide +kernel), rfl⟩
theorem ml_X7_278 : Cond.methodLink RX7 278 yX6_standsIn ∈ bigW := List.mem_filter.mpr ⟨List.mem_of_getElem? (i := 557) (by decide +kernel), rfl⟩
theorem im_X6_standsIn : Cond.instanceMethod yX6_standsIn ∈ bigW := List.mem_filter.mpr ⟨List.mem_of_getElem? (i := 558) (by decide +kernel), rfl⟩
theorem se_X6_standsIn : Cond.selects RX6 yX6_standsIn yX6_standsIn ∈ bigW := List.mem_filter.mpr ⟨List.mem_of_getElem? (i := 559) (by decide +kernel), rfl⟩
theorem co_X6_standsIn : Cond.code yX6_standsIn cX6_standsIn 4 (some (FieldType.boolean)) ∈ bigW := List.mem_filter.mpr ⟨List.mem_of_getElem? (i := 560) (by decide +kernel), rfl⟩
theorem ml_L_68 : Cond.methodLink RL 68 yX7_reading ∈ bigW := List.mem_filter.mpr ⟨List.mem_of_getElem? (i := 561) (by decide +kernel), rfl⟩
theorem im_X7_reading : Cond.instanceMethod yX7_reading ∈ bigW := List.mem_filter.mpr ⟨List.mem_of_getElem? (i := 562) (by decide +kernel), rfl⟩
theorem se_X7_reading : Cond.selects RX7 yX7_reading yX7_reading ∈ bigW := List.mem_filter.mpr ⟨List.mem_of_getElem? (i := 563) (by decide +kernel), rfl⟩
theorem co_X7_reading : Cond.code yX7_reading cX7_reading 8 (some (FieldType.int)) ∈ bigW := List.mem_filter.mpr ⟨List.mem_of_getElem? (i := 564) (by decide +kernel), rfl⟩
theorem ml_X7_185 : Cond.methodLink RX7 185 yX3_keep ∈ bigW := List.mem_filter.mpr ⟨List.mem_of_getElem? (i := 565) (by decide +kernel), rfl⟩
theorem im_X3_keep : Cond.instanceMethod yX3_keep ∈ bigW := List.mem_filter.mpr ⟨List.mem_of_getElem? (i := 566) (by decide +kernel), rfl⟩
theorem se_X3_keep : Cond.selects RX3 yX3_keep yX3_keep ∈ bigW := List.mem_filter.mpr ⟨List.mem_of_getElem? (i := 567) (by decide +kernel), rfl⟩
theorem co_X3_keep : Cond.code yX3_keep cX3_keep 5 none ∈ bigW := List.mem_filter.mpr ⟨List.mem_of_getElem? (i := 568) (by decide +kernel), rfl⟩
theorem ml_X3_26 : Cond.methodLink RX3 26 arraycopyName ∈ bigW := List.mem_filter.mpr ⟨List.mem_of_getElem? (i := 569) (by decide +kernel), rfl⟩
theorem st_arraycopyName : Cond.static arraycopyName ∈ bigW := List.mem_filter.mpr ⟨List.mem_of_getElem? (i := 570) (by decide +kernel), rfl⟩
theorem na_arraycopyName : Cond.native arraycopyName ∈ bigW := List.mem_filter.mpr ⟨List.mem_of_getElem? (i := 571) (by decide +kernel), rfl⟩
theorem ml_L_73 : Cond.methodLink RL 73 yX7_back ∈ bigW := List.mem_filter.mpr ⟨List.mem_of_getElem? (i := 572) (by decide +kernel), rfl⟩
theorem im_X7_back : Cond.instanceMethod yX7_back ∈ bigW := List.mem_filter.mpr ⟨List.mem_of_getElem? (i := 573) (by decide +kernel), rfl⟩
theorem se_X7_back : Cond.selects RX7 yX7_back yX7_back ∈ bigW := List.mem_filter.mpr ⟨List.mem_of_getElem? (i := 574) (by decide +kernel), rfl⟩
theorem co_X7_back : Cond.code yX7_back cX7_back 2 (some (FieldType.int)) ∈ bigW := List.mem_filter.mpr ⟨List.mem_of_getElem? (i := 575) (by decide +kernel), rfl⟩
theorem ml_L_77 : Cond.methodLink RL 77 yX7_kinds ∈ bigW := List.mem_filter.mpr ⟨List.mem_of_getElem? (i := 576) (by decide +kernel), rfl⟩
theorem im_X7_kinds : Cond.instanceMethod yX7_kinds ∈ bigW := List.mem_filter.mpr ⟨List.mem_of_getElem? (i := 577) (by decide +kernel), rfl⟩
theorem se_X7_kinds : Cond.selects RX7 yX7_kinds yX7_kinds ∈ bigW := List.mem_filter.mpr ⟨List.mem_of_getElem? (i := 578) (by decide +kernel), rfl⟩
theorem co_X7_kinds : Cond.code yX7_kinds cX7_kinds 4 (some (FieldType.int)) ∈ bigW := List.mem_filter.mpr ⟨List.mem_of_getElem? (i := 579) (by decide +kernel), rfl⟩
theorem ml_X7_189 : Cond.methodLink RX7 189 yX6_become ∈ bigW := List.mem_filter.mpr ⟨List.mem_of_getElem? (i := 580) (by decide +kernel), rfl⟩
theorem im_X6_become : Cond.instanceMethod yX6_become ∈ bigW := List.mem_filter.mpr ⟨List.mem_of_getElem? (i := 581) (by decide +kernel), rfl⟩
theorem se_X6_become : Cond.selects RX6 yX6_become yX6_become ∈ bigW := List.mem_filter.mpr ⟨List.mem_of_getElem? (i := 582) (by decide +kernel), rfl⟩
theorem co_X6_become : Cond.code yX6_become cX6_become 2 none ∈ bigW := List.mem_filter.mpr ⟨List.mem_of_getElem? (i := 583) (by decide +kernel), rfl⟩
theorem ml_X6_22 : Cond.methodLink RX6 22 arraycopyName ∈ bigW := List.mem_filter.mpr ⟨List.mem_of_getElem? (i := 584) (by decide +kernel), rfl⟩
theorem ml_X7_193 : Cond.methodLink RX7 193 yX7_readingsAreSo ∈ bigW := List.mem_filter.mpr ⟨List.mem_of_getElem? (i := 585) (by decide +kernel), rfl⟩
theorem im_X7_readingsAreSo : Cond.instanceMethod yX7_readingsAreSo ∈ bigW := List.mem_filter.mpr ⟨List.mem_of_getElem? (i := 587) (by decide +kernel), rfl⟩
theorem co_X7_readingsAreSo : Cond.code yX7_readingsAreSo cX7_readingsAreSo 5 (some (FieldType.boolean)) ∈ bigW := List.mem_filter.mpr ⟨List.mem_of_getElem? (i := 588) (by decide +kernel), rfl⟩
theorem ml_L_81 : Cond.methodLink RL 81 yX7_lasts ∈ bigW := List.mem_filter.mpr ⟨List.mem_of_getElem? (i := 589) (by decide +kernel), rfl⟩
theorem im_X7_lasts : Cond.instanceMethod yX7_lasts ∈ bigW := List.mem_filter.mpr ⟨List.mem_of_getElem? (i := 590) (by decide +kernel), rfl⟩
theorem se_X7_lasts : Cond.selects RX7 yX7_lasts yX7_lasts ∈ bigW := List.mem_filter.mpr ⟨List.mem_of_getElem? (i := 591) (by decide +kernel), rfl⟩
theorem co_X7_lasts : Cond.code yX7_lasts cX7_lasts 4 (some (FieldType.int)) ∈ bigW := List.mem_filter.mpr ⟨List.mem_of_getElem? (i := 592) (by decide +kernel), rfl⟩
theorem ml_X7_196 : Cond.methodLink RX7 196 yX6_changeLast ∈ bigW := List.mem_filter.mpr ⟨List.mem_of_getElem? (i := 593) (by decide +kernel), rfl⟩
theorem im_X6_changeLast : Cond.instanceMethod yX6_changeLast ∈ bigW := List.mem_filter.mpr ⟨List.mem_of_getElem? (i := 594) (by decide +kernel), rfl⟩
theorem se_X6_changeLast : Cond.selects RX6 yX6_changeLast yX6_changeLast ∈ bigW := List.mem_filter.mpr ⟨List.mem_of_getElem? (i := 595) (by decide +kernel), rfl⟩
theorem co_X6_changeLast : Cond.code yX6_changeLast cX6_changeLast 2 none ∈ bigW := List.mem_filter.mpr ⟨List.mem_of_getElem? (i := 596) (by decide +kernel), rfl⟩
theorem ml_L_85 : Cond.methodLink RL 85 yX7_odds ∈ bigW := List.mem_filter.mpr ⟨List.mem_of_getElem? (i := 597) (by decide +kernel), rfl⟩
theorem im_X7_odds : Cond.instanceMethod yX7_odds ∈ bigW := List.mem_filter.mpr ⟨List.mem_of_getElem? (i := 598) (by decide +kernel), rfl⟩
theorem se_X7_odds : Cond.selects RX7 yX7_odds yX7_odds ∈ bigW := List.mem_filter.mpr ⟨List.mem_of_getElem? (i := 599) (by decide +kernel), rfl⟩
theorem co_X7_odds : Cond.code yX7_odds cX7_odds 8 (some (FieldType.long)) ∈ bigW := List.mem_filter.mpr ⟨List.mem_of_getElem? (i := 600) (by decide +kernel), rfl⟩
theorem ct_X7_200 : Cond.constantLong RX7 200 (3) ∈ bigW := List.mem_filter.mpr ⟨List.mem_of_getElem? (i := 601) (by decide +kernel), rfl⟩
theorem ml_L_90 : Cond.methodLink RL 90 yX7_sheet ∈ bigW := List.mem_filter.mpr ⟨List.mem_of_getElem? (i := 602) (by decide +kernel), rfl⟩
theorem im_X7_sheet : Cond.instanceMethod yX7_sheet ∈ bigW := List.mem_filter.mpr ⟨List.mem_of_getElem? (i := 603) (by decide +kernel), rfl⟩
theorem se_X7_sheet : Cond.selects RX7 yX7_sheet yX7_sheet ∈ bigW := List.mem_filter.mpr ⟨List.mem_of_getElem? (i := 604) (by decide +kernel), rfl⟩
theorem co_X7_sheet : Cond.code yX7_sheet cX7_sheet 4 (some (FieldType.int)) ∈ bigW := List.mem_filter.mpr ⟨List.mem_of_getElem? (i := 605) (by decide +kernel), rfl⟩
theorem ml_X7_202 : Cond.methodLink RX7 202 yX4_begin ∈ bigW := List.mem_filter.mpr ⟨List.mem_of_getElem? (i := 606) (by decide +kernel), rfl⟩
theorem im_X4_begin : Cond.instanceMethod yX4_begin ∈ bigW := List.mem_filter.mpr ⟨List.mem_of_getElem? (i := 607) (by decide +kernel), rfl⟩
theorem se_X4_begin : Cond.selects RX4 yX4_begin yX4_begin ∈ bigW := List.mem_filter.mpr ⟨List.mem_of_getElem? (i := 608) (by decide +kernel), rfl⟩
theorem co_X4_begin : Cond.code yX4_begin cX4_begin 3 none ∈ bigW := List.mem_filter.mpr ⟨List.mem_of_getElem? (i := 609) (by decide +kernel), rfl⟩
theorem ml_X4_26 : Cond.methodLink RX4 26 yJ7_fill_53178 ∈ bigW := List.mem_filter.mpr ⟨List.mem_of_getElem? (i := 610) (by decide +kernel), rfl⟩
theorem ml_L_94 : Cond.methodLink RL 94 yX7_lose ∈ bigW := List.mem_filter.mpr ⟨List.mem_of_getElem? (i := 611) (by decide +kernel), rfl⟩
theorem im_X7_lose : Cond.instanceMethod yX7_lose ∈ bigW := List.mem_filter.mpr ⟨List.mem_of_getElem? (i := 612) (by decide +kernel), rfl⟩
theorem se_X7_lose : Cond.selects RX7 yX7_lose yX7_lose ∈ bigW := List.mem_filter.mpr ⟨List.mem_of_getElem? (i := 613) (by decide +kernel), rfl⟩
theorem co_X7_lose : Cond.code yX7_lose cX7_lose 3 (some (FieldType.int)) ∈ bigW := List.mem_filter.mpr ⟨List.mem_of_getElem? (i := 614) (by decide +kernel), rfl⟩
theorem ml_L_98 : Cond.methodLink RL 98 yX7_put ∈ bigW := List.mem_filter.mpr ⟨List.mem_of_getElem? (i := 615) (by decide +kernel), rfl⟩
theorem im_X7_put : Cond.instanceMethod yX7_put ∈ bigW := List.mem_filter.mpr ⟨List.mem_of_getElem? (i := 616) (by decide +kernel), rfl⟩
theorem se_X7_put : Cond.selects RX7 yX7_put yX7_put ∈ bigW := List.mem_filter.mpr ⟨List.mem_of_getElem? (i := 617) (by decide +kernel), rfl⟩
theorem co_X7_put : Cond.code yX7_put cX7_put 4 (some (FieldType.int)) ∈ bigW := List.mem_filter.mpr ⟨List.mem_of_getElem? (i := 618) (by decide +kernel), rfl⟩
theorem ml_X7_210 : Cond.methodLink RX7 210 yX4_write ∈ bigW := List.mem_filter.mpr ⟨List.mem_of_getElem? (i := 619) (by decide +kernel), rfl⟩
theorem im_X4_write : Cond.instanceMethod yX4_write ∈ bigW := List.mem_filter.mpr ⟨List.mem_of_getElem? (i := 620) (by decide +kernel), rfl⟩
theorem se_X4_write : Cond.selects RX4 yX4_write yX4_write ∈ bigW := List.mem_filter.mpr ⟨List.mem_of_getElem? (i := 621) (by decide +kernel), rfl⟩
theorem co_X4_write : Cond.code yX4_write cX4_write 3 none ∈ bigW := List.mem_filter.mpr ⟨List.mem_of_getElem? (i := 622) (by decide +kernel), rfl⟩
theorem ml_L_102 : Cond.methodLink RL 102 yX7_cell ∈ bigW := List.mem_filter.mpr ⟨List.mem_of_getElem? (i := 623) (by decide +kernel), rfl⟩
theorem im_X7_cell : Cond.instanceMethod yX7_cell ∈ bigW := List.mem_filter.mpr ⟨List.mem_of_getElem? (i := 624) (by decide +kernel), rfl⟩
theorem se_X7_cell : Cond.selects RX7 yX7_cell yX7_cell ∈ bigW := List.mem_filter.mpr ⟨List.mem_of_getElem? (i := 625) (by decide +kernel), rfl⟩
theorem co_X7_cell : Cond.code yX7_cell cX7_cell 5 (some (FieldType.long)) ∈ bigW := List.mem_filter.mpr ⟨List.mem_of_getElem? (i := 626) (by decide +kernel), rfl⟩
theorem ml_X7_213 : Cond.methodLink RX7 213 yX4_faultOfLane ∈ bigW := List.mem_filter.mpr ⟨List.mem_of_getElem? (i := 627) (by decide +kernel), rfl⟩
theorem ml_L_107 : Cond.methodLink RL 107 yX7_copy ∈ bigW := List.mem_filter.mpr ⟨List.mem_of_getElem? (i := 628) (by decide +kernel), rfl⟩
theorem im_X7_copy : Cond.instanceMethod yX7_copy ∈ bigW := List.mem_filter.mpr ⟨List.mem_of_getElem? (i := 629) (by decide +kernel), rfl⟩
theorem se_X7_copy : Cond.selects RX7 yX7_copy yX7_copy ∈ bigW := List.mem_filter.mpr ⟨List.mem_of_getElem? (i := 630) (by decide +kernel), rfl⟩
theorem co_X7_copy : Cond.code yX7_copy cX7_copy 8 (some (FieldType.int)) ∈ bigW := List.mem_filter.mpr ⟨List.mem_of_getElem? (i := 631) (by decide +kernel), rfl⟩
theorem ml_X7_222 : Cond.methodLink RX7 222 yX4_hasCells ∈ bigW := List.mem_filter.mpr ⟨List.mem_of_getElem? (i := 632) (by decide +kernel), rfl⟩
theorem ml_X7_225 : Cond.methodLink RX7 225 arraycopyName ∈ bigW := List.mem_filter.mpr ⟨List.mem_of_getElem? (i := 633) (by decide +kernel), rfl⟩
theorem ml_L_111 : Cond.methodLink RL 111 yX7_tell ∈ bigW := List.mem_filter.mpr ⟨List.mem_of_getElem? (i := 634) (by decide +kernel), rfl⟩
theorem im_X7_tell : Cond.instanceMethod yX7_tell ∈ bigW := List.mem_filter.mpr ⟨List.mem_of_getElem? (i := 635) (by decide +kernel), rfl⟩
theorem se_X7_tell : Cond.selects RX7 yX7_tell yX7_tell ∈ bigW := List.mem_filter.mpr ⟨List.mem_of_getElem? (i := 636) (by decide +kernel), rfl⟩
theorem co_X7_tell : Cond.code yX7_tell cX7_tell 3 (some (FieldType.int)) ∈ bigW := List.mem_filter.mpr ⟨List.mem_of_getElem? (i := 637) (by decide +kernel), rfl⟩
theorem ml_X7_231 : Cond.methodLink RX7 231 yX7_tellTurned ∈ bigW := List.mem_filter.mpr ⟨List.mem_of_getElem? (i := 638) (by decide +kernel), rfl⟩
theorem im_X7_tellTurned : Cond.instanceMethod yX7_tellTurned ∈ bigW := List.mem_filter.mpr ⟨List.mem_of_getElem? (i := 640) (by decide +kernel), rfl⟩
theorem co_X7_tellTurned : Cond.code yX7_tellTurned cX7_tellTurned 3 (some (FieldType.int)) ∈ bigW := List.mem_filter.mpr ⟨List.mem_of_getElem? (i := 641) (by decide +kernel), rfl⟩
theorem ml_X7_240 : Cond.methodLink RX7 240 yX7_leaveTrace ∈ bigW := List.mem_filter.mpr ⟨List.mem_of_getElem? (i := 642) (by decide +kernel), rfl⟩
theorem im_X7_leaveTrace : Cond.instanceMethod yX7_leaveTrace ∈ bigW := List.mem_filter.mpr ⟨List.mem_of_getElem? (i := 644) (by decide +kernel), rfl⟩
theorem co_X7_leaveTrace : Cond.code yX7_leaveTrace cX7_leaveTrace 2 none ∈ bigW := List.mem_filter.mpr ⟨List.mem_of_getElem? (i := 645) (by decide +kernel), rfl⟩
theorem ml_X7_234 : Cond.methodLink RX7 234 yX7_tellBoth ∈ bigW := List.mem_filter.mpr ⟨List.mem_of_getElem? (i := 646) (by decide +kernel), rfl⟩
theorem im_X7_tellBoth : Cond.instanceMethod yX7_tellBoth ∈ bigW := List.mem_filter.mpr ⟨List.mem_of_getElem? (i := 648) (by decide +kernel), rfl⟩
theorem co_X7_tellBoth : Cond.code yX7_tellBoth cX7_tellBoth 2 (some (FieldType.int)) ∈ bigW := List.mem_filter.mpr ⟨List.mem_of_getElem? (i := 649) (by decide +kernel), rfl⟩
theorem ml_X7_237 : Cond.methodLink RX7 237 yX7_tellPlain ∈ bigW := List.mem_filter.mpr ⟨List.mem_of_getElem? (i := 650) (by decide +kernel), rfl⟩
theorem im_X7_tellPlain : Cond.instanceMethod yX7_tellPlain ∈ bigW := List.mem_filter.mpr ⟨List.mem_of_getElem? (i := 652) (by decide +kernel), rfl⟩
theorem co_X7_tellPlain : Cond.code yX7_tellPlain cX7_tellPlain 2 (some (FieldType.int)) ∈ bigW := List.mem_filter.mpr ⟨List.mem_of_getElem? (i := 653) (by decide +kernel), rfl⟩
theorem ml_L_115 : Cond.methodLink RL 115 yX7_spelt ∈ bigW := List.mem_filter.mpr ⟨List.mem_of_getElem? (i := 654) (by decide +kernel), rfl⟩
theorem im_X7_spelt : Cond.instanceMethod yX7_spelt ∈ bigW := List.mem_filter.mpr ⟨List.mem_of_getElem? (i := 655) (by decide +kernel), rfl⟩
theorem se_X7_spelt : Cond.selects RX7 yX7_spelt yX7_spelt ∈ bigW := List.mem_filter.mpr ⟨List.mem_of_getElem? (i := 656) (by decide +kernel), rfl⟩
theorem co_X7_spelt : Cond.code yX7_spelt cX7_spelt 2 (some (FieldType.int)) ∈ bigW := List.mem_filter.mpr ⟨List.mem_of_getElem? (i := 657) (by decide +kernel), rfl⟩
theorem ml_L_119 : Cond.methodLink RL 119 yX7_as ∈ bigW := List.mem_filter.mpr ⟨List.mem_of_getElem? (i := 658) (by decide +kernel), rfl⟩
theorem im_X7_as : Cond.instanceMethod yX7_as ∈ bigW := List.mem_filter.mpr ⟨List.mem_of_getElem? (i := 659) (by decide +kernel), rfl⟩
theorem se_X7_as : Cond.selects RX7 yX7_as yX7_as ∈ bigW := List.mem_filter.mpr ⟨List.mem_of_getElem? (i := 660) (by decide +kernel), rfl⟩
theorem co_X7_as : Cond.code yX7_as cX7_as 3 (some (FieldType.int)) ∈ bigW := List.mem_filter.mpr ⟨List.mem_of_getElem? (i := 661) (by decide +kernel), rfl⟩
theorem ml_L_123 : Cond.methodLink RL 123 yX7_trace ∈ bigW := List.mem_filter.mpr ⟨List.mem_of_getElem? (i := 662) (by decide +kernel), rfl⟩
theorem im_X7_trace : Cond.instanceMethod yX7_trace ∈ bigW := List.mem_filter.mpr ⟨List.mem_of_getElem? (i := 663) (by decide +kernel), rfl⟩
theorem se_X7_trace : Cond.selects RX7 yX7_trace yX7_trace ∈ bigW := List.mem_filter.mpr ⟨List.mem_of_getElem? (i := 664) (by decide +kernel), rfl⟩
theorem co_X7_trace : Cond.code yX7_trace cX7_trace 1 (some (FieldType.int)) ∈ bigW := List.mem_filter.mpr ⟨List.mem_of_getElem? (i := 665) (by decide +kernel), rfl⟩
theorem ml_L_127 : Cond.methodLink RL 127 yX7_fault ∈ bigW := List.mem_filter.mpr ⟨List.mem_of_getElem? (i := 666) (by decide +kernel), rfl⟩
theorem im_X7_fault : Cond.instanceMethod yX7_fault ∈ bigW := List.mem_filter.mpr ⟨List.mem_of_getElem? (i := 667) (by decide +kernel), rfl⟩
theorem se_X7_fault : Cond.selects RX7 yX7_fault yX7_fault ∈ bigW := List.mem_filter.mpr ⟨List.mem_of_getElem? (i := 668) (by decide +kernel), rfl⟩
theorem co_X7_fault : Cond.code yX7_fault cX7_fault 1 (some (FieldType.int)) ∈ bigW := List.mem_filter.mpr ⟨List.mem_of_getElem? (i := 669) (by decide +kernel), rfl⟩
theorem ml_L_131 : Cond.methodLink RL 131 yX7_many ∈ bigW := List.mem_filter.mpr ⟨List.mem_of_getElem? (i := 670) (by decide +kernel), rfl⟩
theorem im_X7_many : Cond.instanceMethod yX7_many ∈ bigW := List.mem_filter.mpr ⟨List.mem_of_getElem? (i := 671) (by decide +kernel), rfl⟩
theorem se_X7_many : Cond.selects RX7 yX7_many yX7_many ∈ bigW := List.mem_filter.mpr ⟨List.mem_of_getElem? (i := 672) (by decide +kernel), rfl⟩
theorem co_X7_many : Cond.code yX7_many cX7_many 2 (some (FieldType.int)) ∈ bigW := List.mem_filter.mpr ⟨List.mem_of_getElem? (i := 673) (by decide +kernel), rfl⟩
theorem ml_X7_246 : Cond.methodLink RX7 246 yX7_standIn ∈ bigW := List.mem_filter.mpr ⟨List.mem_of_getElem? (i := 674) (by decide +kernel), rfl⟩
theorem im_X7_standIn : Cond.instanceMethod yX7_standIn ∈ bigW := List.mem_filter.mpr ⟨List.mem_of_getElem? (i := 676) (by decide +kernel), rfl⟩
theorem co_X7_standIn : Cond.code yX7_standIn cX7_standIn 5 (some (FieldType.int)) ∈ bigW := List.mem_filter.mpr ⟨List.mem_of_getElem? (i := 677) (by decide +kernel), rfl⟩
theorem cl_L_10 : Cond.classLink RL 10 RX8 ∈ bigW := List.mem_filter.mpr ⟨List.mem_of_getElem? (i := 678) (by decide +kernel), rfl⟩
theorem ins_X8 : Cond.instantiable RX8 30 ∈ bigW := List.mem_filter.mpr ⟨List.mem_of_getElem? (i := 679) (by decide +kernel), rfl⟩
theorem ml_L_12 : Cond.methodLink RL 12 yX8_init ∈ bigW := List.mem_filter.mpr ⟨List.mem_of_getElem? (i := 680) (by decide +kernel), rfl⟩
theorem im_X8_init : Cond.instanceMethod yX8_init ∈ bigW := List.mem_filter.mpr ⟨List.mem_of_getElem? (i := 681) (by decide +kernel), rfl⟩
theorem co_X8_init : Cond.code yX8_init cX8_init 1 none ∈ bigW := List.mem_filter.mpr ⟨List.mem_of_getElem? (i := 682) (by decide +kernel), rfl⟩
theorem ml_X8_1 : Cond.methodLink RX8 1 objectInit ∈ bigW := List.mem_filter.mpr ⟨List.mem_of_getElem? (i := 683) (by decide +kernel), rfl⟩
theorem fl_X8_77 : Cond.fieldLink RX8 77 "OneLongRowModel" "fault" "I" ∈ bigW := List.mem_filter.mpr ⟨List.mem_of_getElem? (i := 684) (by decide +kernel), rfl⟩
theorem fl_X8_212 : Cond.fieldLink RX8 212 "OneLongRowModel" "trace" "I" ∈ bigW := List.mem_filter.mpr ⟨List.mem_of_getElem? (i := 685) (by decide +kernel), rfl⟩
theorem fl_X8_9 : Cond.fieldLink RX8 9 "OneLongRowModel" "sorts" "[I" ∈ bigW := List.mem_filter.mpr ⟨List.mem_of_getElem? (i := 686) (by decide +kernel), rfl⟩
theorem fl_X8_13 : Cond.fieldLink RX8 13 "OneLongRowModel" "sheetLong" "[I" ∈ bigW := List.mem_filter.mpr ⟨List.mem_of_getElem? (i := 687) (by decide +kernel), rfl⟩
theorem fl_X8_16 : Cond.fieldLink RX8 16 "OneLongRowModel" "cells" "[I" ∈ bigW := List.mem_filter.mpr ⟨List.mem_of_getElem? (i := 688) (by decide +kernel), rfl⟩
theorem fl_X8_87 : Cond.fieldLink RX8 87 "OneLongRowModel" "words" "I" ∈ bigW := List.mem_filter.mpr ⟨List.mem_of_getElem? (i := 689) (by decide +kernel), rfl⟩
theorem fl_X8_114 : Cond.fieldLink RX8 114 "OneLongRowModel" "said" "I" ∈ bigW := List.mem_filter.mpr ⟨List.mem_of_getElem? (i := 690) (by decide +kernel), rfl⟩
theorem fl_X8_19 : Cond.fieldLink RX8 19 "OneLongRowModel" "kind" "[I" ∈ bigW := List.mem_filter.mpr ⟨List.mem_of_getElem? (i := 691) (by decide +kernel), rfl⟩
theorem fl_X8_22 : Cond.fieldLink RX8 22 "OneLongRowModel" "longOf" "[I" ∈ bigW := List.mem_filter.mpr ⟨List.mem_of_getElem? (i := 692) (by decide +kernel), rfl⟩
theorem fl_X8_25 : Cond.fieldLink RX8 25 "OneLongRowModel" "letters" "[I" ∈ bigW := List.mem_filter.mpr ⟨List.mem_of_getElem? (i := 693) (by decide +kernel), rfl⟩
theorem fl_X8_28 : Cond.fieldLink RX8 28 "OneLongRowModel" "saidRow" "[I" ∈ bigW := List.mem_filter.mpr ⟨List.mem_of_getElem? (i := 694) (by decide +kernel), rfl⟩
theorem fl_X8_90 : Cond.fieldLink RX8 90 "OneLongRowModel" "at" "I" ∈ bigW := List.mem_filter.mpr ⟨List.mem_of_getElem? (i := 695) (by decide +kernel), rfl⟩
theorem fl_X8_111 : Cond.fieldLink RX8 111 "OneLongRowModel" "readWords" "I" ∈ bigW := List.mem_filter.mpr ⟨List.mem_of_getElem? (i := 696) (by decide +kernel), rfl⟩
theorem fl_X8_31 : Cond.fieldLink RX8 31 "OneLongRowModel" "readKind" "[I" ∈ bigW := List.mem_filter.mpr ⟨List.mem_of_getElem? (i := 697) (by decide +kernel), rfl⟩
theorem fl_X8_34 : Cond.fieldLink RX8 34 "OneLongRowModel" "readLong" "[I" ∈ bigW := List.mem_filter.mpr ⟨List.mem_of_getElem? (i := 698) (by decide +kernel), rfl⟩
theorem fl_X8_37 : Cond.fieldLink RX8 37 "OneLongRowModel" "readLetters" "[I" ∈ bigW := List.mem_filter.mpr ⟨List.mem_of_getElem? (i := 699) (by decide +kernel), rfl⟩
theorem fl_X8_40 : Cond.fieldLink RX8 40 "OneLongRowModel" "looked" "[I" ∈ bigW := List.mem_filter.mpr ⟨List.mem_of_getElem? (i := 700) (by decide +kernel), rfl⟩
theorem fl_X8_133 : Cond.fieldLink RX8 133 "OneLongRowModel" "lookedLong" "I" ∈ bigW := List.mem_filter.mpr ⟨List.mem_of_getElem? (i := 701) (by decide +kernel), rfl⟩
theorem fl_X8_43 : Cond.fieldLink RX8 43 "OneLongRowModel" "next" "[I" ∈ bigW := List.mem_filter.mpr ⟨List.mem_of_getElem? (i := 702) (by decide +kernel), rfl⟩
theorem fl_X8_46 : Cond.fieldLink RX8 46 "OneLongRowModel" "heard" "[I" ∈ bigW := List.mem_filter.mpr ⟨List.mem_of_getElem? (i := 703) (by decide +kernel), rfl⟩
theorem fl_X8_49 : Cond.fieldLink RX8 49 "OneLongRowModel" "far" "[I" ∈ bigW := List.mem_filter.mpr ⟨List.mem_of_getElem? (i := 704) (by decide +kernel), rfl⟩
theorem fl_X8_52 : Cond.fieldLink RX8 52 "OneLongRowModel" "ways" "[J" ∈ bigW := List.mem_filter.mpr ⟨List.mem_of_getElem? (i := 705) (by decide +kernel), rfl⟩
theorem fl_X8_56 : Cond.fieldLink RX8 56 "OneLongRowModel" "waysThen" "[J" ∈ bigW := List.mem_filter.mpr ⟨List.mem_of_getElem? (i := 706) (by decide +kernel), rfl⟩
theorem fl_X8_59 : Cond.fieldLink RX8 59 "OneLongRowModel" "isFree" "[I" ∈ bigW := List.mem_filter.mpr ⟨List.mem_of_getElem? (i := 707) (by decide +kernel), rfl⟩
theorem fl_X8_62 : Cond.fieldLink RX8 62 "OneLongRowModel" "isFreeThen" "[I" ∈ bigW := List.mem_filter.mpr ⟨List.mem_of_getElem? (i := 708) (by decide +kernel), rfl⟩
theorem fl_X8_117 : Cond.fieldLink RX8 117 "OneLongRowModel" "readings" "I" ∈ bigW := List.mem_filter.mpr ⟨List.mem_of_getElem? (i := 709) (by decide +kernel), rfl⟩
theorem fl_X8_65 : Cond.fieldLink RX8 65 "OneLongRowModel" "readWord" "[I" ∈ bigW := List.mem_filter.mpr ⟨List.mem_of_getElem? (i := 710) (by decide +kernel), rfl⟩
theorem fl_X8_68 : Cond.fieldLink RX8 68 "OneLongRowModel" "readMany" "[I" ∈ bigW := List.mem_filter.mpr ⟨List.mem_of_getElem? (i := 711) (by decide +kernel), rfl⟩
theorem fl_X8_71 : Cond.fieldLink RX8 71 "OneLongRowModel" "readStands" "[I" ∈ bigW := List.mem_filter.mpr ⟨List.mem_of_getElem? (i := 712) (by decide +kernel), rfl⟩
theorem fl_X8_74 : Cond.fieldLink RX8 74 "OneLongRowModel" "readRow" "[I" ∈ bigW := List.mem_filter.mpr ⟨List.mem_of_getElem? (i := 713) (by decide +kernel), rfl⟩
theorem ml_L_17 : Cond.methodLink RL 17 yX8_words ∈ bigW := List.mem_filter.mpr ⟨List.mem_of_getElem? (i := 775) (by decide +kernel), rfl⟩
theorem im_X8_words : Cond.instanceMethod yX8_words ∈ bigW := List.mem_filter.mpr ⟨List.mem_of_getElem? (i := 776) (by decide +kernel), rfl⟩
theorem se_X8_words : Cond.selects RX8 yX8_words yX8_words ∈ bigW := List.mem_filter.mpr ⟨List.mem_of_getElem? (i := 777) (by decide +kernel), rfl⟩
theorem co_X8_words : Cond.code yX8_words cX8_words 9 (some (FieldType.int)) ∈ bigW := List.mem_filter.mpr ⟨List.mem_of_getElem? (i := 778) (by decide +kernel), rfl⟩
theorem ml_X8_93 : Cond.methodLink RX8 93 yX8_isSheet ∈ bigW := List.mem_filter.mpr ⟨List.mem_of_getElem? (i := 779) (by decide +kernel), rfl⟩
theorem st_X8_isSheet : Cond.static yX8_isSheet ∈ bigW := List.mem_filter.mpr ⟨List.mem_of_getElem? (i := 780) (by decide +kernel), rfl⟩
theorem co_X8_isSheet : Cond.code yX8_isSheet cX8_isSheet 1 (some (FieldType.boolean)) ∈ bigW := List.mem_filter.mpr ⟨List.mem_of_getElem? (i := 781) (by decide +kernel), rfl⟩
theorem ml_X8_83 : Cond.methodLink RX8 83 yX8_within ∈ bigW := List.mem_filter.mpr ⟨List.mem_of_getElem? (i := 782) (by decide +kernel), rfl⟩
theorem st_X8_within : Cond.static yX8_within ∈ bigW := List.mem_filter.mpr ⟨List.mem_of_getElem? (i := 783) (by decide +kernel), rfl⟩
theorem co_X8_within : Cond.code yX8_within cX8_within 3 (some (FieldType.boolean)) ∈ bigW := List.mem_filter.mpr ⟨List.mem_of_getElem? (i := 784) (by decide +kernel), rfl⟩
theorem ml_X8_97 : Cond.methodLink RX8 97 yX8_isSort ∈ bigW := List.mem_filter.mpr ⟨List.mem_of_getElem? (i := 785) (by decide +kernel), rfl⟩
theorem st_X8_isSort : Cond.static yX8_isSort ∈ bigW := List.mem_filter.mpr ⟨List.mem_of_getElem? (i := 786) (by decide +kernel), rfl⟩
theorem co_X8_isSort : Cond.code yX8_isSort cX8_isSort 1 (some (FieldType.boolean)) ∈ bigW := List.mem_filter.mpr ⟨List.mem_of_getElem? (i := 787) (by decide +kernel), rfl⟩
theorem ml_X8_100 : Cond.methodLink RX8 100 yX8_against ∈ bigW := List.mem_filter.mpr ⟨List.mem_of_getElem? (i := 788) (by decide +kernel), rfl⟩
theorem im_X8_against : Cond.instanceMethod yX8_against ∈ bigW := List.mem_filter.mpr ⟨List.mem_of_getElem? (i := 790) (by decide +kernel), rfl⟩
theorem co_X8_against : Cond.code yX8_against cX8_against 5 (some (FieldType.int)) ∈ bigW := List.mem_filter.mpr ⟨List.mem_of_getElem? (i := 791) (by decide +kernel), rfl⟩
theorem ml_X8_104 : Cond.methodLink RX8 104 yX8_fails ∈ bigW := List.mem_filter.mpr ⟨List.mem_of_getElem? (i := 792) (by decide +kernel), rfl⟩
theorem im_X8_fails : Cond.instanceMethod yX8_fails ∈ bigW := List.mem_filter.mpr ⟨List.mem_of_getElem? (i := 794) (by decide +kernel), rfl⟩
theorem co_X8_fails : Cond.code yX8_fails cX8_fails 2 (some (FieldType.int)) ∈ bigW := List.mem_filter.mpr ⟨List.mem_of_getElem? (i := 795) (by decide +kernel), rfl⟩
theorem ml_X8_108 : Cond.methodLink RX8 108 yX8_readAll ∈ bigW := List.mem_filter.mpr ⟨List.mem_of_getElem? (i := 796) (by decide +kernel), rfl⟩
theorem im_X8_readAll : Cond.instanceMethod yX8_readAll ∈ bigW := List.mem_filter.mpr ⟨List.mem_of_getElem? (i := 798) (by decide +kernel), rfl⟩
theorem co_X8_readAll : Cond.code yX8_readAll cX8_readAll 2 (some (FieldType.boolean)) ∈ bigW := List.mem_filter.mpr ⟨List.mem_of_getElem? (i := 799) (by decide +kernel), rfl⟩
theorem ml_X8_120 : Cond.methodLink RX8 120 yX8_isSign ∈ bigW := List.mem_filter.mpr ⟨List.mem_of_getElem? (i := 800) (by decide +kernel), rfl⟩
theorem im_X8_isSign : Cond.instanceMethod yX8_isSign ∈ bigW := List.mem_filter.mpr ⟨List.mem_of_getElem? (i := 802) (by decide +kernel), rfl⟩
theorem co_X8_isSign : Cond.code yX8_isSign cX8_isSign 3 (some (FieldType.boolean)) ∈ bigW := List.mem_filter.mpr ⟨List.mem_of_getElem? (i := 803) (by decide +kernel), rfl⟩
theorem ml_X8_124 : Cond.methodLink RX8 124 yX8_readWord ∈ bigW := List.mem_filter.mpr ⟨List.mem_of_getElem? (i := 804) (by decide +kernel), rfl⟩
theorem im_X8_readWord : Cond.instanceMethod yX8_readWord ∈ bigW := List.mem_filter.mpr ⟨List.mem_of_getElem? (i := 806) (by decide +kernel), rfl⟩
theorem co_X8_readWord : Cond.code yX8_readWord cX8_readWord 4 (some (FieldType.boolean)) ∈ bigW := List.mem_filter.mpr ⟨List.mem_of_getElem? (i := 807) (by decide +kernel), rfl⟩
theorem ml_L_22 : Cond.methodLink RL 22 yX8_ofWord ∈ bigW := List.mem_filter.mpr ⟨List.mem_of_getElem? (i := 808) (by decide +kernel), rfl⟩
theorem im_X8_ofWord : Cond.instanceMethod yX8_ofWord ∈ bigW := List.mem_filter.mpr ⟨List.mem_of_getElem? (i := 809) (by decide +kernel), rfl⟩
theorem se_X8_ofWord : Cond.selects RX8 yX8_ofWord yX8_ofWord ∈ bigW := List.mem_filter.mpr ⟨List.mem_of_getElem? (i := 810) (by decide +kernel), rfl⟩
theorem co_X8_ofWord : Cond.code yX8_ofWord cX8_ofWord 3 (some (FieldType.int)) ∈ bigW := List.mem_filter.mpr ⟨List.mem_of_getElem? (i := 811) (by decide +kernel), rfl⟩
theorem ml_X8_139 : Cond.methodLink RX8 139 yX8_isWord ∈ bigW := List.mem_filter.mpr ⟨List.mem_of_getElem? (i := 812) (by decide +kernel), rfl⟩
theorem im_X8_isWord : Cond.instanceMethod yX8_isWord ∈ bigW := List.mem_filter.mpr ⟨List.mem_of_getElem? (i := 814) (by decide +kernel), rfl⟩
theorem co_X8_isWord : Cond.code yX8_isWord cX8_isWord 2 (some (FieldType.boolean)) ∈ bigW := List.mem_filter.mpr ⟨List.mem_of_getElem? (i := 815) (by decide +kernel), rfl⟩
theorem ml_X8_142 : Cond.methodLink RX8 142 yX8_areForms ∈ bigW := List.mem_filter.mpr ⟨List.mem_of_getElem? (i := 816) (by decide +kernel), rfl⟩
theorem im_X8_areForms : Cond.instanceMethod yX8_areForms ∈ bigW := List.mem_filter.mpr ⟨List.mem_of_getElem? (i := 818) (by decide +kernel), rfl⟩
theorem co_X8_areForms : Cond.code yX8_areForms cX8_areForms 3 (some (FieldType.boolean)) ∈ bigW := List.mem_filter.mpr ⟨List.mem_of_getElem? (i := 819) (by decide +kernel), rfl⟩
theorem ml_X8_126 : Cond.methodLink RX8 126 yX8_letterOf ∈ bigW := List.mem_filter.mpr ⟨List.mem_of_getElem? (i := 820) (by decide +kernel), rfl⟩
theorem im_X8_letterOf : Cond.instanceMethod yX8_letterOf ∈ bigW := List.mem_filter.mpr ⟨List.mem_of_getElem? (i := 822) (by decide +kernel), rfl⟩
theorem co_X8_letterOf : Cond.code yX8_letterOf cX8_letterOf 6 (some (FieldType.int)) ∈ bigW := List.mem_filter.mpr ⟨List.mem_of_getElem? (i := 823) (by decide +kernel), rfl⟩
theorem ml_X8_145 : Cond.methodLink RX8 145 yX8_lookAtSaid ∈ bigW := List.mem_filter.mpr ⟨List.mem_of_getElem? (i := 824) (by decide +kernel), rfl⟩
theorem im_X8_lookAtSaid : Cond.instanceMethod yX8_lookAtSaid ∈ bigW := List.mem_filter.mpr ⟨List.mem_of_getElem? (i := 826) (by decide +kernel), rfl⟩
theorem co_X8_lookAtSaid : Cond.code yX8_lookAtSaid cX8_lookAtSaid 2 none ∈ bigW := List.mem_filter.mpr ⟨List.mem_of_getElem? (i := 827) (by decide +kernel), rfl⟩
theorem ml_X8_136 : Cond.methodLink RX8 136 yX8_timesHeard ∈ bigW := List.mem_filter.mpr ⟨List.mem_of_getElem? (i := 828) (by decide +kernel), rfl⟩
theorem im_X8_timesHeard : Cond.instanceMethod yX8_timesHeard ∈ bigW := List.mem_filter.mpr ⟨List.mem_of_getElem? (i := 830) (by decide +kernel), rfl⟩
theorem co_X8_timesHeard : Cond.code yX8_timesHeard cX8_timesHeard 4 (some (FieldType.int)) ∈ bigW := List.mem_filter.mpr ⟨List.mem_of_getElem? (i := 831) (by decide +kernel), rfl⟩
theorem ml_X8_130 : Cond.methodLink RX8 130 yX8_isHeard ∈ bigW := List.mem_filter.mpr ⟨List.mem_of_getElem? (i := 832) (by decide +kernel), rfl⟩
theorem im_X8_isHeard : Cond.instanceMethod yX8_isHeard ∈ bigW := List.mem_filter.mpr ⟨List.mem_of_getElem? (i := 834) (by decide +kernel), rfl⟩
theorem co_X8_isHeard : Cond.code yX8_isHeard cX8_isHeard 6 (some (FieldType.boolean)) ∈ bigW := List.mem_filter.mpr ⟨List.mem_of_getElem? (i := 835) (by decide +kernel), rfl⟩
theorem ml_L_27 : Cond.methodLink RL 27 yX8_spell ∈ bigW := List.mem_filter.mpr ⟨List.mem_of_getElem? (i := 836) (by decide +kernel), rfl⟩
theorem im_X8_spell : Cond.instanceMethod yX8_spell ∈ bigW := List.mem_filter.mpr ⟨List.mem_of_getElem? (i := 837) (by decide +kernel), rfl⟩
theorem se_X8_spell : Cond.selects RX8 yX8_spell yX8_spell ∈ bigW := List.mem_filter.mpr ⟨List.mem_of_getElem? (i := 838) (by decide +kernel), rfl⟩
theorem co_X8_spell : Cond.code yX8_spell cX8_spell 5 (some (FieldType.int)) ∈ bigW := List.mem_filter.mpr ⟨List.mem_of_getElem? (i := 839) (by decide +kernel), rfl⟩
theorem ml_L_32 : Cond.methodLink RL 32 yX8_say ∈ bigW := List.mem_filter.mpr ⟨List.mem_of_getElem? (i := 840) (by decide +kernel), rfl⟩
theorem im_X8_say : Cond.instanceMethod yX8_say ∈ bigW := List.mem_filter.mpr ⟨List.mem_of_getElem? (i := 841) (by decide +kernel), rfl⟩
theorem se_X8_say : Cond.selects RX8 yX8_say yX8_say ∈ bigW := List.mem_filter.mpr ⟨List.mem_of_getElem? (i := 842) (by decide +kernel), rfl⟩
theorem co_X8_say : Cond.code yX8_say cX8_say 2 (some (FieldType.int)) ∈ bigW := List.mem_filter.mpr ⟨List.mem_of_getElem? (i := 843) (by decide +kernel), rfl⟩
theorem ml_X8_148 : Cond.methodLink RX8 148 yX8_heardBehind ∈ bigW := List.mem_filter.mpr ⟨List.mem_of_getElem? (i := 844) (by decide +kernel), rfl⟩
theorem im_X8_heardBehind : Cond.instanceMethod yX8_heardBehind ∈ bigW := List.mem_filter.mpr ⟨List.mem_of_getElem? (i := 846) (by decide +kernel), rfl⟩
theorem co_X8_heardBehind : Cond.code yX8_heardBehind cX8_heardBehind 4 (some (FieldType.int)) ∈ bigW := List.mem_filter.mpr ⟨List.mem_of_getElem? (i := 847) (by decide +kernel), rfl⟩
theorem ml_L_37 : Cond.methodLink RL 37 yX8_hush ∈ bigW := List.mem_filter.mpr ⟨List.mem_of_getElem? (i := 848) (by decide +kernel), rfl⟩
theorem im_X8_hush : Cond.instanceMethod yX8_hush ∈ bigW := List.mem_filter.mpr ⟨List.mem_of_getElem? (i := 849) (by decide +kernel), rfl⟩
theorem se_X8_hush : Cond.selects RX8 yX8_hush yX8_hush ∈ bigW := List.mem_filter.mpr ⟨List.mem_of_getElem? (i := 850) (by decide +kernel), rfl⟩
theorem co_X8_hush : Cond.code yX8_hush cX8_hush 2 (some (FieldType.int)) ∈ bigW := List.mem_filter.mpr ⟨List.mem_of_getElem? (i := 851) (by decide +kernel), rfl⟩
theorem ml_L_42 : Cond.methodLink RL 42 yX8_row ∈ bigW := List.mem_filter.mpr ⟨List.mem_of_getElem? (i := 852) (by decide +kernel), rfl⟩
theorem im_X8_row : Cond.instanceMethod yX8_row ∈ bigW := List.mem_filter.mpr ⟨List.mem_of_getElem? (i := 853) (by decide +kernel), rfl⟩
theorem se_X8_row : Cond.selects RX8 yX8_row yX8_row ∈ bigW := List.mem_filter.mpr ⟨List.mem_of_getElem? (i := 854) (by decide +kernel), rfl⟩
theorem co_X8_row : Cond.code yX8_row cX8_row 8 (some (FieldType.int)) ∈ bigW := List.mem_filter.mpr ⟨List.mem_of_getElem? (i := 855) (by decide +kernel), rfl⟩
theorem ml_X8_151 : Cond.methodLink RX8 151 yX8_areLetters ∈ bigW := List.mem_filter.mpr ⟨List.mem_of_getElem? (i := 856) (by decide +kernel), rfl⟩
theorem im_X8_areLetters : Cond.instanceMethod yX8_areLetters ∈ bigW := List.mem_filter.mpr ⟨List.mem_of_getElem? (i := 858) (by decide +kernel), rfl⟩
theorem co_X8_areLetters : Cond.code yX8_areLetters cX8_areLetters 4 (some (FieldType.boolean)) ∈ bigW := List.mem_filter.mpr ⟨List.mem_of_getElem? (i := 859) (by decide +kernel), rfl⟩
theorem ml_X8_154 : Cond.methodLink RX8 154 yX8_lookAtCells ∈ bigW := List.mem_filter.mpr ⟨List.mem_of_getElem? (i := 860) (by decide +kernel), rfl⟩
theorem im_X8_lookAtCells : Cond.instanceMethod yX8_lookAtCells ∈ bigW := List.mem_filter.mpr ⟨List.mem_of_getElem? (i := 862) (by decide +kernel), rfl⟩
theorem co_X8_lookAtCells : Cond.code yX8_lookAtCells cX8_lookAtCells 4 none ∈ bigW := List.mem_filter.mpr ⟨List.mem_of_getElem? (i := 863) (by decide +kernel), rfl⟩
theorem ml_X8_158 : Cond.methodLink RX8 158 yX8_standing ∈ bigW := List.mem_filter.mpr ⟨List.mem_of_getElem? (i := 864) (by decide +kernel), rfl⟩
theorem im_X8_standing : Cond.instanceMethod yX8_standing ∈ bigW := List.mem_filter.mpr ⟨List.mem_of_getElem? (i := 866) (by decide +kernel), rfl⟩
theorem co_X8_standing : Cond.code yX8_standing cX8_standing 3 (some (FieldType.int)) ∈ bigW := List.mem_filter.mpr ⟨List.mem_of_getElem? (i := 867) (by decide +kernel), rfl⟩
theorem ml_X8_162 : Cond.methodLink RX8 162 yX8_allHeard ∈ bigW := List.mem_filter.mpr ⟨List.mem_of_getElem? (i := 868) (by decide +kernel), rfl⟩
theorem im_X8_allHeard : Cond.instanceMethod yX8_allHeard ∈ bigW := List.mem_filter.mpr ⟨List.mem_of_getElem? (i := 870) (by decide +kernel), rfl⟩
theorem co_X8_allHeard : Cond.code yX8_allHeard cX8_allHeard 3 (some (FieldType.int)) ∈ bigW := List.mem_filter.mpr ⟨List.mem_of_getElem? (i := 871) (by decide +kernel), rfl⟩
theorem ml_X8_165 : Cond.methodLink RX8 165 yX8_heardBy ∈ bigW := List.mem_filter.mpr ⟨List.mem_of_getElem? (i := 872) (by decide +kernel), rfl⟩
theorem im_X8_heardBy : Cond.instanceMethod yX8_heardBy ∈ bigW := List.mem_filter.mpr ⟨List.mem_of_getElem? (i := 874) (by decide +kernel), rfl⟩
theorem co_X8_heardBy : Cond.code yX8_heardBy cX8_heardBy 4 (some (FieldType.int)) ∈ bigW := List.mem_filter.mpr ⟨List.mem_of_getElem? (i := 875) (by decide +kernel), rfl⟩
theorem ml_L_46 : Cond.methodLink RL 46 yX8_over ∈ bigW := List.mem_filter.mpr ⟨List.mem_of_getElem? (i := 876) (by decide +kernel), rfl⟩
theorem im_X8_over : Cond.instanceMethod yX8_over ∈ bigW := List.mem_filter.mpr ⟨List.mem_of_getElem? (i := 877) (by decide +kernel), rfl⟩
theorem se_X8_over : Cond.selects RX8 yX8_over yX8_over ∈ bigW := List.mem_filter.mpr ⟨List.mem_of_getElem? (i := 878) (by decide +kernel), rfl⟩
theorem co_X8_over : Cond.code yX8_over cX8_over 7 (some (FieldType.int)) ∈ bigW := List.mem_filter.mpr ⟨List.mem_of_getElem? (i := 879) (by decide +kernel), rfl⟩
theorem ml_L_50 : Cond.methodLink RL 50 yX8_all ∈ bigW := List.mem_filter.mpr ⟨List.mem_of_getElem? (i := 880) (by decide +kernel), rfl⟩
theorem im_X8_all : Cond.instanceMethod yX8_all ∈ bigW := List.mem_filter.mpr ⟨List.mem_of_getElem? (i := 881) (by decide +kernel), rfl⟩
theorem se_X8_all : Cond.selects RX8 yX8_all yX8_all ∈ bigW := List.mem_filter.mpr ⟨List.mem_of_getElem? (i := 882) (by decide +kernel), rfl⟩
theorem co_X8_all : Cond.code yX8_all cX8_all 5 (some (FieldType.int)) ∈ bigW := List.mem_filter.mpr ⟨List.mem_of_getElem? (i := 883) (by decide +kernel), rfl⟩
theorem ml_X8_182 : Cond.methodLink RX8 182 yX8_findFar ∈ bigW := List.mem_filter.mpr ⟨List.mem_of_getElem? (i := 884) (by decide +kernel), rfl⟩
theorem im_X8_findFar : Cond.instanceMethod yX8_findFar ∈ bigW := List.mem_filter.mpr ⟨List.mem_of_getElem? (i := 886) (by decide +kernel), rfl⟩
theorem co_X8_findFar : Cond.code yX8_findFar cX8_findFar 5 none ∈ bigW := List.mem_filter.mpr ⟨List.mem_of_getElem? (i := 887) (by decide +kernel), rfl⟩
theorem ml_X8_172 : Cond.methodLink RX8 172 yX8_findNext ∈ bigW := List.mem_filter.mpr ⟨List.mem_of_getElem? (i := 888) (by decide +kernel), rfl⟩
theorem im_X8_findNext : Cond.instanceMethod yX8_findNext ∈ bigW := List.mem_filter.mpr ⟨List.mem_of_getElem? (i := 890) (by decide +kernel), rfl⟩
theorem co_X8_findNext : Cond.code yX8_findNext cX8_findNext 5 none ∈ bigW := List.mem_filter.mpr ⟨List.mem_of_getElem? (i := 891) (by decide +kernel), rfl⟩
theorem ml_X8_169 : Cond.methodLink RX8 169 yX8_endOf ∈ bigW := List.mem_filter.mpr ⟨List.mem_of_getElem? (i := 892) (by decide +kernel), rfl⟩
theorem im_X8_endOf : Cond.instanceMethod yX8_endOf ∈ bigW := List.mem_filter.mpr ⟨List.mem_of_getElem? (i := 894) (by decide +kernel), rfl⟩
theorem co_X8_endOf : Cond.code yX8_endOf cX8_endOf 6 (some (FieldType.int)) ∈ bigW := List.mem_filter.mpr ⟨List.mem_of_getElem? (i := 895) (by decide +kernel), rfl⟩
theorem ml_X8_175 : Cond.methodLink RX8 175 yX8_allWords ∈ bigW := List.mem_filter.mpr ⟨List.mem_of_getElem? (i := 896) (by decide +kernel), rfl⟩
theorem im_X8_allWords : Cond.instanceMethod yX8_allWords ∈ bigW := List.mem_filter.mpr ⟨List.mem_of_getElem? (i := 898) (by decide +kernel), rfl⟩
theorem co_X8_allWords : Cond.code yX8_allWords cX8_allWords 1 (some (FieldType.int)) ∈ bigW := List.mem_filter.mpr ⟨List.mem_of_getElem? (i := 899) (by decide +kernel), rfl⟩
theorem ml_X8_178 : Cond.methodLink RX8 178 yX8_behindLetter ∈ bigW := List.mem_filter.mpr ⟨List.mem_of_getElem? (i := 900) (by decide +kernel), rfl⟩
theorem im_X8_behindLetter : Cond.instanceMethod yX8_behindLetter ∈ bigW := List.mem_filter.mpr ⟨List.mem_of_getElem? (i := 902) (by decide +kernel), rfl⟩
theorem co_X8_behindLetter : Cond.code yX8_behindLetter cX8_behindLetter 4 (some (FieldType.int)) ∈ bigW := List.mem_filter.mpr ⟨List.mem_of_getElem? (i := 903) (by decide +kernel), rfl⟩
theorem ml_L_55 : Cond.methodLink RL 55 yX8_have ∈ bigW := List.mem_filter.mpr ⟨List.mem_of_getElem? (i := 904) (by decide +kernel), rfl⟩
theorem im_X8_have : Cond.instanceMethod yX8_have ∈ bigW := List.mem_filter.mpr ⟨List.mem_of_getElem? (i := 905) (by decide +kernel), rfl⟩
theorem se_X8_have : Cond.selects RX8 yX8_have yX8_have ∈ bigW := List.mem_filter.mpr ⟨List.mem_of_getElem? (i := 906) (by decide +kernel), rfl⟩
theorem co_X8_have : Cond.code yX8_have cX8_have 2 (some (FieldType.long)) ∈ bigW := List.mem_filter.mpr ⟨List.mem_of_getElem? (i := 907) (by decide +kernel), rfl⟩
theorem ct_X8_81 : Cond.constantLong RX8 81 (-9223372036854775808) ∈ bigW := List.mem_filter.mpr ⟨List.mem_of_getElem? (i := 908) (by decide +kernel), rfl⟩
theorem ml_X8_185 : Cond.methodLink RX8 185 yX8_findWays ∈ bigW := List.mem_filter.mpr ⟨List.mem_of_getElem? (i := 909) (by decide +kernel), rfl⟩
theorem im_X8_findWays : Cond.instanceMethod yX8_findWays ∈ bigW := List.mem_filter.mpr ⟨List.mem_of_getElem? (i := 911) (by decide +kernel), rfl⟩
theorem co_X8_findWays : Cond.code yX8_findWays cX8_findWays 5 none ∈ bigW := List.mem_filter.mpr ⟨List.mem_of_getElem? (i := 912) (by decide +kernel), rfl⟩
theorem ml_X8_189 : Cond.methodLink RX8 189 yX8_waysWith ∈ bigW := List.mem_filter.mpr ⟨List.mem_of_getElem? (i := 913) (by decide +kernel), rfl⟩
theorem im_X8_waysWith : Cond.instanceMethod yX8_waysWith ∈ bigW := List.mem_filter.mpr ⟨List.mem_of_getElem? (i := 915) (by decide +kernel), rfl⟩
theorem co_X8_waysWith : Cond.code yX8_waysWith cX8_waysWith 5 (some (FieldType.long)) ∈ bigW := List.mem_filter.mpr ⟨List.mem_of_getElem? (i := 916) (by decide +kernel), rfl⟩
theorem ml_L_59 : Cond.methodLink RL 59 yX8_free ∈ bigW := List.mem_filter.mpr ⟨List.mem_of_getElem? (i := 917) (by decide +kernel), rfl⟩
theorem im_X8_free : Cond.instanceMethod yX8_free ∈ bigW := List.mem_filter.mpr ⟨List.mem_of_getElem? (i := 918) (by decide +kernel), rfl⟩
theorem se_X8_free : Cond.selects RX8 yX8_free yX8_free ∈ bigW := List.mem_filter.mpr ⟨List.mem_of_getElem? (i := 919) (by decide +kernel), rfl⟩
theorem co_X8_free : Cond.code yX8_free cX8_free 2 (some (FieldType.long)) ∈ bigW := List.mem_filter.mpr ⟨List.mem_of_getElem? (i := 920) (by decide +kernel), rfl⟩
theorem ml_L_63 : Cond.methodLink RL 63 yX8_longest ∈ bigW := List.mem_filter.mpr ⟨List.mem_of_getElem? (i := 921) (by decide +kernel), rfl⟩
theorem im_X8_longest : Cond.instanceMethod yX8_longest ∈ bigW := List.mem_filter.mpr ⟨List.mem_of_getElem? (i := 922) (by decide +kernel), rfl⟩
theorem se_X8_longest : Cond.selects RX8 yX8_longest yX8_longest ∈ bigW := List.mem_filter.mpr ⟨List.mem_of_getElem? (i := 923) (by decide +kernel), rfl⟩
theorem co_X8_longest : Cond.code yX8_longest cX8_longest 2 (some (FieldType.int)) ∈ bigW := List.mem_filter.mpr ⟨List.mem_of_getElem? (i := 924) (by decide +kernel), rfl⟩
theorem ml_X8_193 : Cond.methodLink RX8 193 yX8_goesFree ∈ bigW := List.mem_filter.mpr ⟨List.mem_of_getElem? (i := 925) (by decide +kernel), rfl⟩
theorem im_X8_goesFree : Cond.instanceMethod yX8_goesFree ∈ bigW := List.mem_filter.mpr ⟨List.mem_of_getElem? (i := 927) (by decide +kernel), rfl⟩
theorem co_X8_goesFree : Cond.code yX8_goesFree cX8_goesFree 3 (some (FieldType.boolean)) ∈ bigW := List.mem_filter.mpr ⟨List.mem_of_getElem? (i := 928) (by decide +kernel), rfl⟩
theorem ml_L_67 : Cond.methodLink RL 67 yX8_spare ∈ bigW := List.mem_filter.mpr ⟨List.mem_of_getElem? (i := 929) (by decide +kernel), rfl⟩
theorem im_X8_spare : Cond.instanceMethod yX8_spare ∈ bigW := List.mem_filter.mpr ⟨List.mem_of_getElem? (i := 930) (by decide +kernel), rfl⟩
theorem se_X8_spare : Cond.selects RX8 yX8_spare yX8_spare ∈ bigW := List.mem_filter.mpr ⟨List.mem_of_getElem? (i := 931) (by decide +kernel), rfl⟩
theorem co_X8_spare : Cond.code yX8_spare cX8_spare 4 (some (FieldType.int)) ∈ bigW := List.mem_filter.mpr ⟨List.mem_of_getElem? (i := 932) (by decide +kernel), rfl⟩
theorem ml_X8_197 : Cond.methodLink RX8 197 yX8_isIn ∈ bigW := List.mem_filter.mpr ⟨List.mem_of_getElem? (i := 933) (by decide +kernel), rfl⟩
theorem im_X8_isIn : Cond.instanceMethod yX8_isIn ∈ bigW := List.mem_filter.mpr ⟨List.mem_of_getElem? (i := 935) (by decide +kernel), rfl⟩
theorem co_X8_isIn : Cond.code yX8_isIn cX8_isIn 5 (some (FieldType.boolean)) ∈ bigW := List.mem_filter.mpr ⟨List.mem_of_getElem? (i := 936) (by decide +kernel), rfl⟩
theorem ml_L_72 : Cond.methodLink RL 72 yX8_reading ∈ bigW := List.mem_filter.mpr ⟨List.mem_of_getElem? (i := 937) (by decide +kernel), rfl⟩
theorem im_X8_reading : Cond.instanceMethod yX8_reading ∈ bigW := List.mem_filter.mpr ⟨List.mem_of_getElem? (i := 938) (by decide +kernel), rfl⟩
theorem se_X8_reading : Cond.selects RX8 yX8_reading yX8_reading ∈ bigW := List.mem_filter.mpr ⟨List.mem_of_getElem? (i := 939) (by decide +kernel), rfl⟩
theorem co_X8_reading : Cond.code yX8_reading cX8_reading 10 (some (FieldType.int)) ∈ bigW := List.mem_filter.mpr ⟨List.mem_of_getElem? (i := 940) (by decide +kernel), rfl⟩
theorem ml_L_76 : Cond.methodLink RL 76 yX8_back ∈ bigW := List.mem_filter.mpr ⟨List.mem_of_getElem? (i := 941) (by decide +kernel), rfl⟩
theorem im_X8_back : Cond.instanceMethod yX8_back ∈ bigW := List.mem_filter.mpr ⟨List.mem_of_getElem? (i := 942) (by decide +kernel), rfl⟩
theorem se_X8_back : Cond.selects RX8 yX8_back yX8_back ∈ bigW := List.mem_filter.mpr ⟨List.mem_of_getElem? (i := 943) (by decide +kernel), rfl⟩
theorem co_X8_back : Cond.code yX8_back cX8_back 2 (some (FieldType.int)) ∈ bigW := List.mem_filter.mpr ⟨List.mem_of_getElem? (i := 944) (by decide +kernel), rfl⟩
theorem ml_L_80 : Cond.methodLink RL 80 yX8_kinds ∈ bigW := List.mem_filter.mpr ⟨List.mem_of_getElem? (i := 945) (by decide +kernel), rfl⟩
theorem im_X8_kinds : Cond.instanceMethod yX8_kinds ∈ bigW := List.mem_filter.mpr ⟨List.mem_of_getElem? (i := 946) (by decide +kernel), rfl⟩
theorem se_X8_kinds : Cond.selects RX8 yX8_kinds yX8_kinds ∈ bigW := List.mem_filter.mpr ⟨List.mem_of_getElem? (i := 947) (by decide +kernel), rfl⟩
theorem co_X8_kinds : Cond.code yX8_kinds cX8_kinds 5 (some (FieldType.int)) ∈ bigW := List.mem_filter.mpr ⟨List.mem_of_getElem? (i := 948) (by decide +kernel), rfl⟩
theorem ml_X8_200 : Cond.methodLink RX8 200 yX8_areSo ∈ bigW := List.mem_filter.mpr ⟨List.mem_of_getElem? (i := 949) (by decide +kernel), rfl⟩
theorem im_X8_areSo : Cond.instanceMethod yX8_areSo ∈ bigW := List.mem_filter.mpr ⟨List.mem_of_getElem? (i := 951) (by decide +kernel), rfl⟩
theorem co_X8_areSo : Cond.code yX8_areSo cX8_areSo 3 (some (FieldType.boolean)) ∈ bigW := List.mem_filter.mpr ⟨List.mem_of_getElem? (i := 952) (by decide +kernel), rfl⟩
theorem ml_L_84 : Cond.methodLink RL 84 yX8_lasts ∈ bigW := List.mem_filter.mpr ⟨List.mem_of_getElem? (i := 953) (by decide +kernel), rfl⟩
theorem im_X8_lasts : Cond.instanceMethod yX8_lasts ∈ bigW := List.mem_filter.mpr ⟨List.mem_of_getElem? (i := 954) (by decide +kernel), rfl⟩
theorem se_X8_lasts : Cond.selects RX8 yX8_lasts yX8_lasts ∈ bigW := List.mem_filter.mpr ⟨List.mem_of_getElem? (i := 955) (by decide +kernel), rfl⟩
theorem co_X8_lasts : Cond.code yX8_lasts cX8_lasts 6 (some (FieldType.int)) ∈ bigW := List.mem_filter.mpr ⟨List.mem_of_getElem? (i := 956) (by decide +kernel), rfl⟩
theorem ml_L_89 : Cond.methodLink RL 89 yX8_odds ∈ bigW := List.mem_filter.mpr ⟨List.mem_of_getElem? (i := 957) (by decide +kernel), rfl⟩
theorem im_X8_odds : Cond.instanceMethod yX8_odds ∈ bigW := List.mem_filter.mpr ⟨List.mem_of_getElem? (i := 958) (by decide +kernel), rfl⟩
theorem se_X8_odds : Cond.selects RX8 yX8_odds yX8_odds ∈ bigW := List.mem_filter.mpr ⟨List.mem_of_getElem? (i := 959) (by decide +kernel), rfl⟩
theorem co_X8_odds : Cond.code yX8_odds cX8_odds 6 (some (FieldType.long)) ∈ bigW := List.mem_filter.mpr ⟨List.mem_of_getElem? (i := 960) (by decide +kernel), rfl⟩
theorem ct_X8_203 : Cond.constantLong RX8 203 (3) ∈ bigW := List.mem_filter.mpr ⟨List.mem_of_getElem? (i := 961) (by decide +kernel), rfl⟩
theorem ml_X8_205 : Cond.methodLink RX8 205 yX8_inLeastTerms ∈ bigW := List.mem_filter.mpr ⟨List.mem_of_getElem? (i := 962) (by decide +kernel), rfl⟩
theorem st_X8_inLeastTerms : Cond.static yX8_inLeastTerms ∈ bigW := List.mem_filter.mpr ⟨List.mem_of_getElem? (i := 963) (by decide +kernel), rfl⟩
theorem co_X8_inLeastTerms : Cond.code yX8_inLeastTerms cX8_inLeastTerms 11 (some (FieldType.long)) ∈ bigW := List.mem_filter.mpr ⟨List.mem_of_getElem? (i := 964) (by decide +kernel), rfl⟩
theorem ml_L_93 : Cond.methodLink RL 93 yX8_sheet ∈ bigW := List.mem_filter.mpr ⟨List.mem_of_getElem? (i := 965) (by decide +kernel), rfl⟩
theorem im_X8_sheet : Cond.instanceMethod yX8_sheet ∈ bigW := List.mem_filter.mpr ⟨List.mem_of_getElem? (i := 966) (by decide +kernel), rfl⟩
theorem se_X8_sheet : Cond.selects RX8 yX8_sheet yX8_sheet ∈ bigW := List.mem_filter.mpr ⟨List.mem_of_getElem? (i := 967) (by decide +kernel), rfl⟩
theorem co_X8_sheet : Cond.code yX8_sheet cX8_sheet 5 (some (FieldType.int)) ∈ bigW := List.mem_filter.mpr ⟨List.mem_of_getElem? (i := 968) (by decide +kernel), rfl⟩
theorem ml_L_97 : Cond.methodLink RL 97 yX8_lose ∈ bigW := List.mem_filter.mpr ⟨List.mem_of_getElem? (i := 969) (by decide +kernel), rfl⟩
theorem im_X8_lose : Cond.instanceMethod yX8_lose ∈ bigW := List.mem_filter.mpr ⟨List.mem_of_getElem? (i := 970) (by decide +kernel), rfl⟩
theorem se_X8_lose : Cond.selects RX8 yX8_lose yX8_lose ∈ bigW := List.mem_filter.mpr ⟨List.mem_of_getElem? (i := 971) (by decide +kernel), rfl⟩
theorem co_X8_lose : Cond.code yX8_lose cX8_lose 3 (some (FieldType.int)) ∈ bigW := List.mem_filter.mpr ⟨List.mem_of_getElem? (i := 972) (by decide +kernel), rfl⟩
theorem ml_L_101 : Cond.methodLink RL 101 yX8_put ∈ bigW := List.mem_filter.mpr ⟨List.mem_of_getElem? (i := 973) (by decide +kernel), rfl⟩
theorem im_X8_put : Cond.instanceMethod yX8_put ∈ bigW := List.mem_filter.mpr ⟨List.mem_of_getElem? (i := 974) (by decide +kernel), rfl⟩
theorem se_X8_put : Cond.selects RX8 yX8_put yX8_put ∈ bigW := List.mem_filter.mpr ⟨List.mem_of_getElem? (i := 975) (by decide +kernel), rfl⟩
theorem co_X8_put : Cond.code yX8_put cX8_put 4 (some (FieldType.int)) ∈ bigW := List.mem_filter.mpr ⟨List.mem_of_getElem? (i := 976) (by decide +kernel), rfl⟩
theorem ml_L_106 : Cond.methodLink RL 106 yX8_cell ∈ bigW := List.mem_filter.mpr ⟨List.mem_of_getElem? (i := 977) (by decide +kernel), rfl⟩
theorem im_X8_cell : Cond.instanceMethod yX8_cell ∈ bigW := List.mem_filter.mpr ⟨List.mem_of_getElem? (i := 978) (by decide +kernel), rfl⟩
theorem se_X8_cell : Cond.selects RX8 yX8_cell yX8_cell ∈ bigW := List.mem_filter.mpr ⟨List.mem_of_getElem? (i := 979) (by decide +kernel), rfl⟩
theorem co_X8_cell : Cond.code yX8_cell cX8_cell 4 (some (FieldType.long)) ∈ bigW := List.mem_filter.mpr ⟨List.mem_of_getElem? (i := 980) (by decide +kernel), rfl⟩
theorem ml_X8_209 : Cond.methodLink RX8 209 yX8_lost ∈ bigW := List.mem_filter.mpr ⟨List.mem_of_getElem? (i := 981) (by decide +kernel), rfl⟩
theorem im_X8_lost : Cond.instanceMethod yX8_lost ∈ bigW := List.mem_filter.mpr ⟨List.mem_of_getElem? (i := 983) (by decide +kernel), rfl⟩
theorem co_X8_lost : Cond.code yX8_lost cX8_lost 2 (some (FieldType.long)) ∈ bigW := List.mem_filter.mpr ⟨List.mem_of_getElem? (i := 984) (by decide +kernel), rfl⟩
theorem ml_L_110 : Cond.methodLink RL 110 yX8_copy ∈ bigW := List.mem_filter.mpr ⟨List.mem_of_getElem? (i := 985) (by decide +kernel), rfl⟩
theorem im_X8_copy : Cond.instanceMethod yX8_copy ∈ bigW := List.mem_filter.mpr ⟨List.mem_of_getElem? (i := 986) (by decide +kernel), rfl⟩
theorem se_X8_copy : Cond.selects RX8 yX8_copy yX8_copy ∈ bigW := List.mem_filter.mpr ⟨List.mem_of_getElem? (i := 987) (by decide +kernel), rfl⟩
theorem co_X8_copy : Cond.code yX8_copy cX8_copy 10 (some (FieldType.int)) ∈ bigW := List.mem_filter.mpr ⟨List.mem_of_getElem? (i := 988) (by decide +kernel), rfl⟩
theorem ml_L_114 : Cond.methodLink RL 114 yX8_tell ∈ bigW := List.mem_filter.mpr ⟨List.mem_of_getElem? (i := 989) (by decide +kernel), rfl⟩
theorem im_X8_tell : Cond.instanceMethod yX8_tell ∈ bigW := List.mem_filter.mpr ⟨List.mem_of_getElem? (i := 990) (by decide +kernel), rfl⟩
theorem se_X8_tell : Cond.selects RX8 yX8_tell yX8_tell ∈ bigW := List.mem_filter.mpr ⟨List.mem_of_getElem? (i := 991) (by decide +kernel), rfl⟩
theorem co_X8_tell : Cond.code yX8_tell cX8_tell 3 (some (FieldType.int)) ∈ bigW := List.mem_filter.mpr ⟨List.mem_of_getElem? (i := 992) (by decide +kernel), rfl⟩
theorem ml_X8_215 : Cond.methodLink RX8 215 yX8_begins ∈ bigW := List.mem_filter.mpr ⟨List.mem_of_getElem? (i := 993) (by decide +kernel), rfl⟩
theorem im_X8_begins : Cond.instanceMethod yX8_begins ∈ bigW := List.mem_filter.mpr ⟨List.mem_of_getElem? (i := 995) (by decide +kernel), rfl⟩
theorem co_X8_begins : Cond.code yX8_begins cX8_begins 2 none ∈ bigW := List.mem_filter.mpr ⟨List.mem_of_getElem? (i := 996) (by decide +kernel), rfl⟩
theorem ml_L_118 : Cond.methodLink RL 118 yX8_spelt ∈ bigW := List.mem_filter.mpr ⟨List.mem_of_getElem? (i := 997) (by decide +kernel), rfl⟩
theorem im_X8_spelt : Cond.instanceMethod yX8_spelt ∈ bigW := List.mem_filter.mpr ⟨List.mem_of_getElem? (i := 998) (by decide +kernel), rfl⟩
theorem se_X8_spelt : Cond.selects RX8 yX8_spelt yX8_spelt ∈ bigW := List.mem_filter.mpr ⟨List.mem_of_getElem? (i := 999) (by decide +kernel), rfl⟩
theorem co_X8_spelt : Cond.code yX8_spelt cX8_spelt 2 (some (FieldType.int)) ∈ bigW := List.mem_filter.mpr ⟨List.mem_of_getElem? (i := 1000) (by decide +kernel), rfl⟩
theorem ml_L_122 : Cond.methodLink RL 122 yX8_as ∈ bigW := List.mem_filter.mpr ⟨List.mem_of_getElem? (i := 1001) (by decide +kernel), rfl⟩
theorem im_X8_as : Cond.instanceMethod yX8_as ∈ bigW := List.mem_filter.mpr ⟨List.mem_of_getElem? (i := 1002) (by decide +kernel), rfl⟩
theorem se_X8_as : Cond.selects RX8 yX8_as yX8_as ∈ bigW := List.mem_filter.mpr ⟨List.mem_of_getElem? (i := 1003) (by decide +kernel), rfl⟩
theorem co_X8_as : Cond.code yX8_as cX8_as 3 (some (FieldType.int)) ∈ bigW := List.mem_filter.mpr ⟨List.mem_of_getElem? (i := 1004) (by decide +kernel), rfl⟩
theorem ml_L_126 : Cond.methodLink RL 126 yX8_trace ∈ bigW := List.mem_filter.mpr ⟨List.mem_of_getElem? (i := 1005) (by decide +kernel), rfl⟩
theorem im_X8_trace : Cond.instanceMethod yX8_trace ∈ bigW := List.mem_filter.mpr ⟨List.mem_of_getElem? (i := 1006) (by decide +kernel), rfl⟩
theorem se_X8_trace : Cond.selects RX8 yX8_trace yX8_trace ∈ bigW := List.mem_filter.mpr ⟨List.mem_of_getElem? (i := 1007) (by decide +kernel), rfl⟩
theorem co_X8_trace : Cond.code yX8_trace cX8_trace 1 (some (FieldType.int)) ∈ bigW := List.mem_filter.mpr ⟨List.mem_of_getElem? (i := 1008) (by decide +kernel), rfl⟩
theorem ml_L_130 : Cond.methodLink RL 130 yX8_fault ∈ bigW := List.mem_filter.mpr ⟨List.mem_of_getElem? (i := 1009) (by decide +kernel), rfl⟩
theorem im_X8_fault : Cond.instanceMethod yX8_fault ∈ bigW := List.mem_filter.mpr ⟨List.mem_of_getElem? (i := 1010) (by decide +kernel), rfl⟩
theorem se_X8_fault : Cond.selects RX8 yX8_fault yX8_fault ∈ bigW := List.mem_filter.mpr ⟨List.mem_of_getElem? (i := 1011) (by decide +kernel), rfl⟩
theorem co_X8_fault : Cond.code yX8_fault cX8_fault 1 (some (FieldType.int)) ∈ bigW := List.mem_filter.mpr ⟨List.mem_of_getElem? (i := 1012) (by decide +kernel), rfl⟩
theorem ml_L_134 : Cond.methodLink RL 134 yX8_many ∈ bigW := List.mem_filter.mpr ⟨List.mem_of_getElem? (i := 1013) (by decide +kernel), rfl⟩
theorem im_X8_many : Cond.instanceMethod yX8_many ∈ bigW := List.mem_filter.mpr ⟨List.mem_of_getElem? (i := 1014) (by decide +kernel), rfl⟩
theorem se_X8_many : Cond.selects RX8 yX8_many yX8_many ∈ bigW := List.mem_filter.mpr ⟨List.mem_of_getElem? (i := 1015) (by decide +kernel), rfl⟩
theorem co_X8_many : Cond.code yX8_many cX8_many 2 (some (FieldType.int)) ∈ bigW := List.mem_filter.mpr ⟨List.mem_of_getElem? (i := 1016) (by decide +kernel), rfl⟩
theorem ly_X0_0 : u_lay RX0 TX0 0 ∈ bigW := List.mem_filter.mpr ⟨List.mem_of_getElem? (i := 207) (by decide +kernel), by decide +kernel⟩
theorem ly_X0_1 : u_lay RX0 TX0 1 ∈ bigW := List.mem_filter.mpr ⟨List.mem_of_getElem? (i := 209) (by decide +kernel), by decide +kernel⟩
theorem ly_X0_2 : u_lay RX0 TX0 2 ∈ bigW := List.mem_filter.mpr ⟨List.mem_of_getElem? (i := 211) (by decide +kernel), by decide +kernel⟩
theorem ly_X0_3 : u_lay RX0 TX0 3 ∈ bigW := List.mem_filter.mpr ⟨List.mem_of_getElem? (i := 213) (by decide +kernel), by decide +kernel⟩
theorem ly_X0_4 : u_lay RX0 TX0 4 ∈ bigW := List.mem_filter.mpr ⟨List.mem_of_getElem? (i := 215) (by decide +kernel), by decide +kernel⟩
theorem wu_X0 : ∀ w ∈ u_ws RX0 TX0 5, w ∈ bigW := by
  intro w hw
  obtain ⟨k, hk, rfl⟩ := List.mem_map.mp hw
  have hk := List.mem_range.mp hk
  match k, hk with
  | 0, _ => exact ly_X0_0
  | 1, _ => exact ly_X0_1
  | 2, _ => exact ly_X0_2
  | 3, _ => exact ly_X0_3
  | 4, _ => exact ly_X0_4
  | k + 5, hk => exact absurd hk (by omega)
theorem ly_X1_0 : u_lay RX1 TX1 0 ∈ bigW := List.mem_filter.mpr ⟨List.mem_of_getElem? (i := 144) (by decide +kernel), by decide +kernel⟩
theorem ly_X1_1 : u_lay RX1 TX1 1 ∈ bigW := List.mem_filter.mpr ⟨List.mem_of_getElem? (i := 146) (by decide +kernel), by decide +kernel⟩
theorem ly_X1_2 : u_lay RX1 TX1 2 ∈ bigW := List.mem_filter.mpr ⟨List.mem_of_getElem? (i := 148) (by decide +kernel), by decide +kernel⟩
theorem ly_X1_3 : u_lay RX1 TX1 3 ∈ bigW := List.mem_filter.mpr ⟨List.mem_of_getElem? (i := 150) (by decide +kernel), by decide +kernel⟩
theorem ly_X1_4 : u_lay RX1 TX1 4 ∈ bigW := List.mem_filter.mpr ⟨List.mem_of_getElem? (i := 152) (by decide +kernel), by decide +kernel⟩
theorem ly_X1_5 : u_lay RX1 TX1 5 ∈ bigW := List.mem_filter.mpr ⟨List.mem_of_getElem? (i := 154) (by decide +kernel), by decide +kernel⟩
theorem wu_X1 : ∀ w ∈ u_ws RX1 TX1 6, w ∈ bigW := by
  intro w hw
  obtain ⟨k, hk, rfl⟩ := List.mem_map.mp hw
  have hk := List.mem_range.mp hk
  match k, hk with
  | 0, _ => exact ly_X1_0
  | 1, _ => exact ly_X1_1
  | 2, _ => exact ly_X1_2
  | 3, _ => exact ly_X1_3
  | 4, _ => exact ly_X1_4
  | 5, _ => exact ly_X1_5
  | k + 6, hk => exact absurd hk (by omega)
theorem ly_X2_0 : u_lay RX2 TX2 0 ∈ bigW := List.mem_filter.mpr ⟨List.mem_of_getElem? (i := 177) (by decide +kernel), by decide +kernel⟩
theorem ly_X2_1 : u_lay RX2 TX2 1 ∈ bigW := List.mem_filter.mpr ⟨List.mem_of_getElem? (i := 179) (by decide +kernel), by decide +kernel⟩
theorem ly_X2_2 : u_lay RX2 TX2 2 ∈ bigW := List.mem_filter.mpr ⟨List.mem_of_getElem? (i := 181) (by decide +kernel), by decide +kernel⟩
theorem ly_X2_3 : u_lay RX2 TX2 3 ∈ bigW := List.mem_filter.mpr ⟨List.mem_of_getElem? (i := 183) (by decide +kernel), by decide +kernel⟩
theorem ly_X2_4 : u_lay RX2 TX2 4 ∈ bigW := List.mem_filter.mpr ⟨List.mem_of_getElem? (i := 185) (by decide +kernel), by decide +kernel⟩
theorem ly_X2_5 : u_lay RX2 TX2 5 ∈ bigW := List.mem_filter.mpr ⟨List.mem_of_getElem? (i := 187) (by decide +kernel), by decide +kernel⟩
theorem ly_X2_6 : u_lay RX2 TX2 6 ∈ bigW := List.mem_filter.mpr ⟨List.mem_of_getElem? (i := 189) (by decide +kernel), by decide +kernel⟩
theorem ly_X2_7 : u_lay RX2 TX2 7 ∈ bigW := List.mem_filter.mpr ⟨List.mem_of_getElem? (i := 191) (by decide +kernel), by decide +kernel⟩
theorem wu_X2 : ∀ w ∈ u_ws RX2 TX2 8, w ∈ bigW := by
  intro w hw
  obtain ⟨k, hk, rfl⟩ := List.mem_map.mp hw
  have hk := List.mem_range.mp hk
  match k, hk with
  | 0, _ => exact ly_X2_0
  | 1, _ => exact ly_X2_1
  | 2, _ => exact ly_X2_2
  | 3, _ => exact ly_X2_3
  | 4, _ => exact ly_X2_4
  | 5, _ => exact ly_X2_5
  | 6, _ => exact ly_X2_6
  | 7, _ => exact ly_X2_7
  | k + 8, hk => exact absurd hk (by omega)
theorem ly_X3_0 : u_lay RX3 TX3 0 ∈ bigW := List.mem_filter.mpr ⟨List.mem_of_getElem? (i := 255) (by decide +kernel), by decide +kernel⟩
theorem ly_X3_1 : u_lay RX3 TX3 1 ∈ bigW := List.mem_filter.mpr ⟨List.mem_of_getElem? (i := 257) (by decide +kernel), by decide +kernel⟩
theorem ly_X3_2 : u_lay RX3 TX3 2 ∈ bigW := List.mem_filter.mpr ⟨List.mem_of_getElem? (i := 259) (by decide +kernel), by decide +kernel⟩
theorem ly_X3_3 : u_lay RX3 TX3 3 ∈ bigW := List.mem_filter.mpr ⟨List.mem_of_getElem? (i := 261) (by decide +kernel), by decide +kernel⟩
theorem wu_X3 : ∀ w ∈ u_ws RX3 TX3 4, w ∈ bigW := by
  intro w hw
  obtain ⟨k, hk, rfl⟩ := List.mem_map.mp hw
  have hk := List.mem_range.mp hk
  match k, hk with
  | 0, _ => exact ly_X3_0
  | 1, _ => exact ly_X3_1
  | 2, _ => exact ly_X3_2
  | 3, _ => exact ly_X3_3
  | k + 4, hk => exact absurd hk (by omega)
theorem ly_X4_0 : u_lay RX4 TX4 0 ∈ bigW := List.mem_filter.mpr ⟨List.mem_of_getElem? (i := 233) (by decide +kernel), by decide +kernel⟩
theorem ly_X4_1 : u_lay RX4 TX4 1 ∈ bigW := List.mem_filter.mpr ⟨List.mem_of_getElem? (i := 235) (by decide +kernel), by decide +kernel⟩
theorem ly_X4_2 : u_lay RX4 TX4 2 ∈ bigW := List.mem_filter.mpr ⟨List.mem_of_getElem? (i := 237) (by decide +kernel), by decide +kernel⟩
theorem ly_X4_3 : u_lay RX4 TX4 3 ∈ bigW := List.mem_filter.mpr ⟨List.mem_of_getElem? (i := 239) (by decide +kernel), by decide +kernel⟩
theorem wu_X4 : ∀ w ∈ u_ws RX4 TX4 4, w ∈ bigW := by
  intro w hw
  obtain ⟨k, hk, rfl⟩ := List.mem_map.mp hw
  have hk := List.mem_range.mp hk
  match k, hk with
  | 0, _ => exact ly_X4_0
  | 1, _ => exact ly_X4_1
  | 2, _ => exact ly_X4_2
  | 3, _ => exact ly_X4_3
  | k + 4, hk => exact absurd hk (by omega)
theorem ly_X5_0 : u_lay RX5 TX5 0 ∈ bigW := List.mem_filter.mpr ⟨List.mem_of_getElem? (i := 118) (by decide +kernel), by decide +kernel⟩
theorem ly_X5_1 : u_lay RX5 TX5 1 ∈ bigW := List.mem_filter.mpr ⟨List.mem_of_getElem? (i := 120) (by decide +kernel), by decide +kernel⟩
theorem wu_X5 : ∀ w ∈ u_ws RX5 TX5 2, w ∈ bigW := by
  intro w hw
  obtain ⟨k, hk, rfl⟩ := List.mem_map.mp hw
  have hk := List.mem_range.mp hk
  match k, hk with
  | 0, _ => exact ly_X5_0
  | 1, _ => exact ly_X5_1
  | k + 2, hk => exact absurd hk (by omega)
theorem ly_X6_0 : u_lay RX6 TX6 0 ∈ bigW := List.mem_filter.mpr ⟨List.mem_of_getElem? (i := 106) (by decide +kernel), by decide +kernel⟩
theorem ly_X6_1 : u_lay RX6 TX6 1 ∈ bigW := List.mem_filter.mpr ⟨List.mem_of_getElem? (i := 108) (by decide +kernel), by decide +kernel⟩
theorem ly_X6_2 : u_lay RX6 TX6 2 ∈ bigW := List.mem_filter.mpr ⟨List.mem_of_getElem? (i := 110) (by decide +kernel), by decide +kernel⟩
theorem wu_X6 : ∀ w ∈ u_ws RX6 TX6 3, w ∈ bigW := by
  intro w hw
  obtain ⟨k, hk, rfl⟩ := List.mem_map.mp hw
  have hk := List.mem_range.mp hk
  match k, hk with
  | 0, _ => exact ly_X6_0
  | 1, _ => exact ly_X6_1
  | 2, _ => exact ly_X6_2
  | k + 3, hk => exact absurd hk (by omega)
theorem ly_X7_0 : u_lay RX7 TX7 0 ∈ bigW := List.mem_filter.mpr ⟨List.mem_of_getElem? (i := 281) (by decide +kernel), by decide +kernel⟩
theorem ly_X7_1 : u_lay RX7 TX7 1 ∈ bigW := List.mem_filter.mpr ⟨List.mem_of_getElem? (i := 283) (by decide +kernel), by decide +kernel⟩
theorem ly_X7_2 : u_lay RX7 TX7 2 ∈ bigW := List.mem_filter.mpr ⟨List.mem_of_getElem? (i := 285) (by decide +kernel), by decide +kernel⟩
theorem ly_X7_3 : u_lay RX7 TX7 3 ∈ bigW := List.mem_filter.mpr ⟨List.mem_of_getElem? (i := 287) (by decide +kernel), by decide +kernel⟩
theorem ly_X7_4 : u_lay RX7 TX7 4 ∈ bigW := List.mem_filter.mpr ⟨List.mem_of_getElem? (i := 289) (by decide +kernel), by decide +kernel⟩
theorem ly_X7_5 : u_lay RX7 TX7 5 ∈ bigW := List.mem_filter.mpr ⟨List.mem_of_getElem? (i := 291) (by decide +kernel), by decide +kernel⟩
theorem ly_X7_6 : u_lay RX7 TX7 6 ∈ bigW := List.mem_filter.mpr ⟨List.mem_of_getElem? (i := 293) (by decide +kernel), by decide +kernel⟩
theorem ly_X7_7 : u_lay RX7 TX7 7 ∈ bigW := List.mem_filter.mpr ⟨List.mem_of_getElem? (i := 295) (by decide +kernel), by decide +kernel⟩
theorem ly_X7_8 : u_lay RX7 TX7 8 ∈ bigW := List.mem_filter.mpr ⟨List.mem_of_getElem? (i := 297) (by decide +kernel), by decide +kernel⟩
theorem ly_X7_9 : u_lay RX7 TX7 9 ∈ bigW := List.mem_filter.mpr ⟨List.mem_of_getElem? (i := 299) (by decide +kernel), by decide +kernel⟩
theorem ly_X7_10 : u_lay RX7 TX7 10 ∈ bigW := List.mem_filter.mpr ⟨List.mem_of_getElem? (i := 301) (by decide +kernel), by decide +kernel⟩
theorem ly_X7_11 : u_lay RX7 TX7 11 ∈ bigW := List.mem_filter.mpr ⟨List.mem_of_getElem? (i := 303) (by decide +kernel), by decide +kernel⟩
theorem ly_X7_12 : u_lay RX7 TX7 12 ∈ bigW := List.mem_filter.mpr ⟨List.mem_of_getElem? (i := 305) (by decide +kernel), by decide +kernel⟩
theorem ly_X7_13 : u_lay RX7 TX7 13 ∈ bigW := List.mem_filter.mpr ⟨List.mem_of_getElem? (i := 307) (by decide +kernel), by decide +kernel⟩
theorem ly_X7_14 : u_lay RX7 TX7 14 ∈ bigW := List.mem_filter.mpr ⟨List.mem_of_getElem? (i := 309) (by decide +kernel), by decide +kernel⟩
theorem ly_X7_15 : u_lay RX7 TX7 15 ∈ bigW := List.mem_filter.mpr ⟨List.mem_of_getElem? (i := 311) (by decide +kernel), by decide +kernel⟩
theorem ly_X7_16 : u_lay RX7 TX7 16 ∈ bigW := List.mem_filter.mpr ⟨List.mem_of_getElem? (i := 313) (by decide +kernel), by decide +kernel⟩
theorem wu_X7 : ∀ w ∈ u_ws RX7 TX7 17, w ∈ bigW := by
  intro w hw
  obtain ⟨k, hk, rfl⟩ := List.mem_map.mp hw
  have hk := List.mem_range.mp hk
  match k, hk with
  | 0, _ => exact ly_X7_0
  | 1, _ => exact ly_X7_1
  | 2, _ => exact ly_X7_2
  | 3, _ => exact ly_X7_3
  | 4, _ => exact ly_X7_4
  | 5, _ => exact ly_X7_5
  | 6, _ => exact ly_X7_6
  | 7, _ => exact ly_X7_7
  | 8, _ => exact ly_X7_8
  | 9, _ => exact ly_X7_9
  | 10, _ => exact ly_X7_10
  | 11, _ => exact ly_X7_11
  | 12, _ => exact ly_X7_12
  | 13, _ => exact ly_X7_13
  | 14, _ => exact ly_X7_14
  | 15, _ => exact ly_X7_15
  | 16, _ => exact ly_X7_16
  | k + 17, hk => exact absurd hk (by omega)
theorem ly_X8_0 : u_lay RX8 TX8 0 ∈ bigW := List.mem_filter.mpr ⟨List.mem_of_getElem? (i := 714) (by decide +kernel), by decide +kernel⟩
theorem ly_X8_1 : u_lay RX8 TX8 1 ∈ bigW := List.mem_filter.mpr ⟨List.mem_of_getElem? (i := 716) (by decide +kernel), by decide +kernel⟩
theorem ly_X8_2 : u_lay RX8 TX8 2 ∈ bigW := List.mem_filter.mpr ⟨List.mem_of_getElem? (i := 718) (by decide +kernel), by decide +kernel⟩
theorem ly_X8_3 : u_lay RX8 TX8 3 ∈ bigW := List.mem_filter.mpr ⟨List.mem_of_getElem? (i := 720) (by decide +kernel), by decide +kernel⟩
theorem ly_X8_4 : u_lay RX8 TX8 4 ∈ bigW := List.mem_filter.mpr ⟨List.mem_of_getElem? (i := 722) (by decide +kernel), by decide +kernel⟩
theorem ly_X8_5 : u_lay RX8 TX8 5 ∈ bigW := List.mem_filter.mpr ⟨List.mem_of_getElem? (i := 724) (by decide +kernel), by decide +kernel⟩
theorem ly_X8_6 : u_lay RX8 TX8 6 ∈ bigW := List.mem_filter.mpr ⟨List.mem_of_getElem? (i := 726) (by decide +kernel), by decide +kernel⟩
theorem ly_X8_7 : u_lay RX8 TX8 7 ∈ bigW := List.mem_filter.mpr ⟨List.mem_of_getElem? (i := 728) (by decide +kernel), by decide +kernel⟩
theorem ly_X8_8 : u_lay RX8 TX8 8 ∈ bigW := List.mem_filter.mpr ⟨List.mem_of_getElem? (i := 730) (by decide +kernel), by decide +kernel⟩
theorem ly_X8_9 : u_lay RX8 TX8 9 ∈ bigW := List.mem_filter.mpr ⟨List.mem_of_getElem? (i := 732) (by decide +kernel), by decide +kernel⟩
theorem ly_X8_10 : u_lay RX8 TX8 10 ∈ bigW := List.mem_filter.mpr ⟨List.mem_of_getElem? (i := 734) (by decide +kernel), by decide +kernel⟩
theorem ly_X8_11 : u_lay RX8 TX8 11 ∈ bigW := List.mem_filter.mpr ⟨List.mem_of_getElem? (i := 736) (by decide +kernel), by decide +kernel⟩
theorem ly_X8_12 : u_lay RX8 TX8 12 ∈ bigW := List.mem_filter.mpr ⟨List.mem_of_getElem? (i := 738) (by decide +kernel), by decide +kernel⟩
theorem ly_X8_13 : u_lay RX8 TX8 13 ∈ bigW := List.mem_filter.mpr ⟨List.mem_of_getElem? (i := 740) (by decide +kernel), by decide +kernel⟩
theorem ly_X8_14 : u_lay RX8 TX8 14 ∈ bigW := List.mem_filter.mpr ⟨List.mem_of_getElem? (i := 742) (by decide +kernel), by decide +kernel⟩
theorem ly_X8_15 : u_lay RX8 TX8 15 ∈ bigW := List.mem_filter.mpr ⟨List.mem_of_getElem? (i := 744) (by decide +kernel), by decide +kernel⟩
theorem ly_X8_16 : u_lay RX8 TX8 16 ∈ bigW := List.mem_filter.mpr ⟨List.mem_of_getElem? (i := 746) (by decide +kernel), by decide +kernel⟩
theorem ly_X8_17 : u_lay RX8 TX8 17 ∈ bigW := List.mem_filter.mpr ⟨List.mem_of_getElem? (i := 748) (by decide +kernel), by decide +kernel⟩
theorem ly_X8_18 : u_lay RX8 TX8 18 ∈ bigW := List.mem_filter.mpr ⟨List.mem_of_getElem? (i := 750) (by decide +kernel), by decide +kernel⟩
theorem ly_X8_19 : u_lay RX8 TX8 19 ∈ bigW := List.mem_filter.mpr ⟨List.mem_of_getElem? (i := 752) (by decide +kernel), by decide +kernel⟩
theorem ly_X8_20 : u_lay RX8 TX8 20 ∈ bigW := List.mem_filter.mpr ⟨List.mem_of_getElem? (i := 754) (by decide +kernel), by decide +kernel⟩
theorem ly_X8_21 : u_lay RX8 TX8 21 ∈ bigW := List.mem_filter.mpr ⟨List.mem_of_getElem? (i := 756) (by decide +kernel), by decide +kernel⟩
theorem ly_X8_22 : u_lay RX8 TX8 22 ∈ bigW := List.mem_filter.mpr ⟨List.mem_of_getElem? (i := 758) (by decide +kernel), by decide +kernel⟩
theorem ly_X8_23 : u_lay RX8 TX8 23 ∈ bigW := List.mem_filter.mpr ⟨List.mem_of_getElem? (i := 760) (by decide +kernel), by decide +kernel⟩
theorem ly_X8_24 : u_lay RX8 TX8 24 ∈ bigW := List.mem_filter.mpr ⟨List.mem_of_getElem? (i := 762) (by decide +kernel), by decide +kernel⟩
theorem ly_X8_25 : u_lay RX8 TX8 25 ∈ bigW := List.mem_filter.mpr ⟨List.mem_of_getElem? (i := 764) (by decide +kernel), by decide +kernel⟩
theorem ly_X8_26 : u_lay RX8 TX8 26 ∈ bigW := List.mem_filter.mpr ⟨List.mem_of_getElem? (i := 766) (by decide +kernel), by decide +kernel⟩
theorem ly_X8_27 : u_lay RX8 TX8 27 ∈ bigW := List.mem_filter.mpr ⟨List.mem_of_getElem? (i := 768) (by decide +kernel), by decide +kernel⟩
theorem ly_X8_28 : u_lay RX8 TX8 28 ∈ bigW := List.mem_filter.mpr ⟨List.mem_of_getElem? (i := 770) (by decide +kernel), by decide +kernel⟩
theorem ly_X8_29 : u_lay RX8 TX8 29 ∈ bigW := List.mem_filter.mpr ⟨List.mem_of_getElem? (i := 772) (by decide +kernel), by decide +kernel⟩
theorem wu_X8 : ∀ w ∈ u_ws RX8 TX8 30, w ∈ bigW := by
  intro w hw
  obtain ⟨k, hk, rfl⟩ := List.mem_map.mp hw
  have hk := List.mem_range.mp hk
  match k, hk with
  | 0, _ => exact ly_X8_0
  | 1, _ => exact ly_X8_1
  | 2, _ => exact ly_X8_2
  | 3, _ => exact ly_X8_3
  | 4, _ => exact ly_X8_4
  | 5, _ => exact ly_X8_5
  | 6, _ => exact ly_X8_6
  | 7, _ => exact ly_X8_7
  | 8, _ => exact ly_X8_8
  | 9, _ => exact ly_X8_9
  | 10, _ => exact ly_X8_10
  | 11, _ => exact ly_X8_11
  | 12, _ => exact ly_X8_12
  | 13, _ => exact ly_X8_13
  | 14, _ => exact ly_X8_14
  | 15, _ => exact ly_X8_15
  | 16, _ => exact ly_X8_16
  | 17, _ => exact ly_X8_17
  | 18, _ => exact ly_X8_18
  | 19, _ => exact ly_X8_19
  | 20, _ => exact ly_X8_20
  | 21, _ => exact ly_X8_21
  | 22, _ => exact ly_X8_22
  | 23, _ => exact ly_X8_23
  | 24, _ => exact ly_X8_24
  | 25, _ => exact ly_X8_25
  | 26, _ => exact ly_X8_26
  | 27, _ => exact ly_X8_27
  | 28, _ => exact ly_X8_28
  | 29, _ => exact ly_X8_29
  | k + 30, hk => exact absurd hk (by omega)
end
section
/-! The machine's worlds as one pure heap: place k of the pure heap is the cell lo + k. J: from here the method returns as Z says. -/
abbrev pE : Type := (Nat × vp_A) ⊕ (Nat × List Value)
abbrev pH : Type := Nat → pE
abbrev pG : Type := Nat × va_G × (Nat → ClassId)
abbrev pX : Type := Program × Launch × Env × Room × State × MethodId × Array Value × List Frame × Method × Code
abbrev pZ : Type := Nat × Nat × Option Value × Nat × pH
abbrev pK : Type := Nat × Nat × Nat
def tV (lo : Nat) (v : Value) : Value := match v with
  | .ref a => .ref (lo + a)
  | v => v
def tA (lo : Nat) (x : vp_A) : vp_A := match x with
  | (n, .inr (.inr (.inr (.inr f)))) => (n, .inr (.inr (.inr (.inr (fun i => (f i).map (fun a => lo + a))))))
  | x => x
def tE (G : pG) (e : pE) : va_E := match e with
  | .inl x => .inl (G.2.2 x.1, tA G.1 x.2)
  | .inr o => .inr (o.1, o.2.map (tV G.1))
def wd (G : pG) (n : Nat) (h : pH) : va_W := (List.range n).map (fun k => (G.1 + k, tE G (h k)))
def pj : pE := .inr (999, [])
def wf (n : Nat) (h : pH) : Prop := ∀ k, n ≤ k → h k = pj
def tyL (f : Nat → ClassId) : List (ClassId × FieldType) := [(f 0, .int), (f 1, .long), (f 2, .boolean), (f 3, .object RX4), (f 4, .object RX6), (f 5, .object RX3)]
def pW (G : pG) (n : Nat) (h : pH) (H : Heap) : Prop := va_P G.2.1 vwCl (wd G n h) H ∧ wf n h
def QR (G : pG) (r : Option Value) (n : Nat) (h : pH) : Array Value → State → Outcome → State → Prop := fun _ st o t => o = .returned (r.map (tV G.1)) ∧ pW G n h t.heap ∧ va_F (fun q => G.1 ≤ q) st t
def Cx (X : pX) (G : pG) (own : String) (cc : ByteArray) (nL : Nat) (rm : Room) (n0 : Nat) (rt : Option FieldType) : Prop := match X with
  | (p, _, _, R, s, m, args, _, meth, c) => p.tables.exec = Jvm.exec ∧ c.code = cc ∧ s.vm.findClass own = some m.cls ∧ (∀ w ∈ bigW, w.before args s = true) ∧ va_K G.2.1 vwCl (tyL G.2.2) s ∧ s.heap.size = G.1 + n0 ∧ meth.locks = false ∧ c.maxLocals = nL ∧ R = rm ∧ meth.sig.returnType = rt
def J (X : pX) (G : pG) (Z : pZ) (K : pK) (h : pH) (pc : Nat) (L : List (Nat × Value)) (st : List Value) : Prop := match X with
  | (p, l, e, R, s, m, args, below, meth, c) => ∀ (H : Heap) (locs : List Loc) (ls : Array Slot), pW G K.2.2 h H → va_S (fun q => G.1 ≤ q) s.heap H locs → lv_has ls c.maxLocals (L.map fun q => (q.1, tV G.1 q.2)) →
    W p l e R s m args below meth c H locs K.1 K.2.1 (MQ below (QR G Z.2.2.1 Z.2.2.2.1 Z.2.2.2.2) args s Z.1 Z.2.1 (fun q => G.1 ≤ q)) (F0 m pc ls (st.map (tV G.1)))
/-! ## the world of the pure heap -/
theorem wd_at {G : pG} {n : Nat} {h : pH} {a : Nat} (ha : a < n) : (wd G n h)[a]? = some (G.1 + a, tE G (h a)) := by
  simp [wd, ha]
theorem wd_set {G : pG} {n : Nat} {h : pH} {a : Nat} {e : pE} (ha : a < n) : (wd G n h).set a (G.1 + a, tE G e) = wd G n (va_up h a e) := by
  apply List.ext_getElem?
  intro k
  by_cases hk : k = a
  · subst hk
    rw [wd_at ha, List.getElem?_set_self (by simp [wd, ha])]
    simp [va_up]
  · rw [List.getElem?_set_ne (Ne.symm hk)]
    by_cases hn : k < n
    · rw [wd_at hn, wd_at hn]
      simp [va_up, hk]
    · simp [wd, hn]
theorem wd_push {G : pG} {n : Nat} {h : pH} {e : pE} : wd G n h ++ [(G.1 + n, tE G e)] = wd G (n + 1) (va_up h n e) := by
  unfold wd
  rw [List.range_succ, List.map_append]
  congr 1
  · apply List.map_congr_left
    intro k hk
    have := List.mem_range.mp hk
    simp [va_up, Nat.ne_of_lt this]
  · simp [va_up]
theorem wd_D (G : pG) (n : Nat) (h : pH) : va_D (fun q => G.1 ≤ q) (wd G n h) := by
  have key : ∀ (k : Nat) (q : Nat × va_E), (wd G n h)[k]? = some q → q.1 = G.1 + k := by
    intro k q hk
    by_cases hn : k < n
    · rw [wd_at hn] at hk
      cases hk
      rfl
    · simp [wd, hn] at hk
  refine ⟨fun i j x y hi hj hxy => ?_, fun k q hk => ?_⟩
  · have h1 := key i x hi
    have h2 := key j y hj
    omega
  · have := key k q hk
    show G.1 ≤ q.1
    omega
theorem wf_lt {n : Nat} {h : pH} (w : wf n h) {a : Nat} (hj : h a ≠ pj) : a < n := by
  rcases Nat.lt_or_ge a n with q | q
  · exact q
  · exact absurd (w a q) hj
theorem wf_up {n : Nat} {h : pH} (w : wf n h) {a : Nat} (ha : a < n) (e : pE) : wf n (va_up h a e) := by
  intro k hk
  have : k ≠ a := by omega
  simp [va_up, this, w k hk]
theorem wf_push {n : Nat} {h : pH} (w : wf n h) (e : pE) : wf (n + 1) (va_up h n e) := by
  intro k hk
  have : k ≠ n := by omega
  simp [va_up, this, w k (by omega)]
theorem tV_cat (lo : Nat) (v : Value) : (tV lo v).category = v.category := by cases v <;> rfl
theorem tV_cats (lo : Nat) (st : List Value) : ((st.map (tV lo)).map fun v => v.category).sum = (st.map fun v => v.category).sum := by
  rw [List.map_map]
  congr 1
  apply List.map_congr_left
  intro v _
  exact tV_cat lo v
/-! ## words -/
theorem nw_use {w : Cond} (hw : w ∈ bigW) {A : Array Value} {U : State} (h : va_Nw w U) : w.before A U = true := by
  have ho := (List.mem_filter.mp hw).2
  cases w <;> first | exact va_Nw.use rfl h | exact h | (simp [okW, goodWord, Cond.onTables] at ho)
theorem nw_of {w : Cond} (hw : w ∈ bigW) {A : Array Value} {U : State} (h : w.before A U = true) : va_Nw w U := by
  have ho := (List.mem_filter.mp hw).2
  cases w <;> first | exact va_Nw.of rfl h | exact h | (simp [okW, goodWord, Cond.onTables] at ho)
theorem nw_warm {w : Cond} (hw : w ∈ bigW) {s U : State} (hW : s.WarmedH U.vm) (h : va_Nw w s) : va_Nw w U := by
  have ho := (List.mem_filter.mp hw).2
  by_cases hg : goodWord w = true
  · exact word_at hW (good_of_word hg) h
  · cases w <;> first | exact absurd ho hg | exact va_Nw.warmM hW h | (rename_i ty; cases ty <;> first | exact absurd ho hg | exact va_AO.moved hW.alike h)
def PU (G : pG) (n : Nat) (h : pH) (U : State) : Prop := (pW G n h U.heap ∧ U.heap.size = G.1 + n) ∧ va_K G.2.1 vwCl (tyL G.2.2) U ∧ ∀ w ∈ bigW, va_Nw w U
def MC (l : Launch) (y : MethodName) (b : ByteArray) (mL : Nat) (ret : Option FieldType) (rm : Room) (G : pG) (As : List Value) (n : Nat) (h : pH) (r : Option Value) (n' : Nat) (h' : pH) : Prop :=
  Met l y [Cond.code y b mL ret] rm (va_Pc (As.map (tV G.1)) (PU G n h)) (QR G r n' h') rm.cells rm.slots (fun q => G.1 ≤ q)
theorem PU_blind (G : pG) (n : Nat) (h : pH) (av : List Value) : FrameBlind (va_Pc av (PU G n h)) := by
  intro a U g mk q
  obtain ⟨q0, q1, q2, q3⟩ := q
  exact ⟨q0, q1, va_K.moved (u := U) (U := U.calling g mk a) (Vm.Alike.refl U.vm) q2, fun w hw => nw_of (A := #[]) hw (by
    have := q3 w hw
    have ho := (List.mem_filter.mp hw).2
    cases w <;> first | exact va_tabs rfl rfl this | exact this | (simp [okW, goodWord, Cond.onTables] at ho))⟩
def rmD (d c s : Nat) : Room := { frames := d, cells := c, slots := s, locals := 33 * d }
end
section
section JR
variable {X : pX} {G : pG} {Z : pZ} {K : pK} {h : pH} {pc : Nat} {L : List (Nat × Value)} {st : List Value} {own : String} {cc : ByteArray} {nL n0 : Nat} {rm : Room} {rt : Option FieldType}

def sF (i : Nat) (q : Nat × Value) : Bool := !(q.1 == i) && !(q.1 + 1 == i && q.2.category == 2)
def sF2 (i : Nat) (q : Nat × Value) : Bool := !(q.1 == i) && (!(q.1 == i + 1) && !(q.1 + 1 == i && q.2.category == 2))
theorem sF_map (lo i : Nat) (L : List (Nat × Value)) : (L.map fun q => (q.1, tV lo q.2)).filter (fun q => !(q.1 == i) && !(q.1 + 1 == i && q.2.category == 2)) = (L.filter (sF i)).map fun q => (q.1, tV lo q.2) := by
  rw [List.filter_map]
  congr 1
  apply List.filter_congr
  intro q _
  simp [sF, tV_cat]
theorem sF2_map (lo i : Nat) (L : List (Nat × Value)) : (L.map fun q => (q.1, tV lo q.2)).filter (fun q => !(q.1 == i) && (!(q.1 == i + 1) && !(q.1 + 1 == i && q.2.category == 2))) = (L.filter (sF2 i)).map fun q => (q.1, tV lo q.2) := by
  rw [List.filter_map]
  congr 1
  apply List.filter_congr
  intro q _
  simp [sF2, tV_cat]


theorem jj_iload_n (C : Cx X G own cc nL rm n0 rt) {j : Fin 4} {x : Int32} (i k : Nat) (hd : decode cc pc = .ok (.iload_n j, 1)) (hj : (j : Nat) = i) (hk : L[k]? = some (i, .int x)) (kk : J X G Z K h (pc + 1) L (.int x :: st)) : J X G Z K h pc L st := by
  obtain ⟨p, l, e, R, s, m, args, below, meth, c⟩ := X
  obtain ⟨hx, hb, hown, hts, hK, hlo, hlk, hm, hR, hrt⟩ := C
  intro H locs ls hW hS hl
  exact lv_iload_n hx hb hd hj (lv_at hl k (by rw [List.getElem?_map, hk]; rfl)) (kk H locs ls hW hS hl)

theorem jj_iload (C : Cx X G own cc nL rm n0 rt) {x : Int32} (i k : Nat) (hd : decode cc pc = .ok (.iload i, 2)) (hk : L[k]? = some (i, .int x)) (kk : J X G Z K h (pc + 2) L (.int x :: st)) : J X G Z K h pc L st := by
  obtain ⟨p, l, e, R, s, m, args, below, meth, c⟩ := X
  obtain ⟨hx, hb, hown, hts, hK, hlo, hlk, hm, hR, hrt⟩ := C
  intro H locs ls hW hS hl
  exact lv_iload hx hb hd (lv_at hl k (by rw [List.getElem?_map, hk]; rfl)) (kk H locs ls hW hS hl)

theorem jj_lload_n (C : Cx X G own cc nL rm n0 rt) {j : Fin 4} {x : Int64} (i k : Nat) (hd : decode cc pc = .ok (.lload_n j, 1)) (hj : (j : Nat) = i) (hk : L[k]? = some (i, .long x)) (kk : J X G Z K h (pc + 1) L (.long x :: st)) : J X G Z K h pc L st := by
  obtain ⟨p, l, e, R, s, m, args, below, meth, c⟩ := X
  obtain ⟨hx, hb, hown, hts, hK, hlo, hlk, hm, hR, hrt⟩ := C
  intro H locs ls hW hS hl
  exact lv_lload_n hx hb hd hj (lv_at hl k (by rw [List.getElem?_map, hk]; rfl)) (kk H locs ls hW hS hl)

theorem jj_lload (C : Cx X G own cc nL rm n0 rt) {x : Int64} (i k : Nat) (hd : decode cc pc = .ok (.lload i, 2)) (hk : L[k]? = some (i, .long x)) (kk : J X G Z K h (pc + 2) L (.long x :: st)) : J X G Z K h pc L st := by
  obtain ⟨p, l, e, R, s, m, args, below, meth, c⟩ := X
  obtain ⟨hx, hb, hown, hts, hK, hlo, hlk, hm, hR, hrt⟩ := C
  intro H locs ls hW hS hl
  exact lv_lload hx hb hd (lv_at hl k (by rw [List.getElem?_map, hk]; rfl)) (kk H locs ls hW hS hl)

theorem jj_aload_n (C : Cx X G own cc nL rm n0 rt) {j : Fin 4} {x : Nat} (i k : Nat) (hd : decode cc pc = .ok (.aload_n j, 1)) (hj : (j : Nat) = i) (hk : L[k]? = some (i, .ref x)) (kk : J X G Z K h (pc + 1) L (.ref x :: st)) : J X G Z K h pc L st := by
  obtain ⟨p, l, e, R, s, m, args, below, meth, c⟩ := X
  obtain ⟨hx, hb, hown, hts, hK, hlo, hlk, hm, hR, hrt⟩ := C
  intro H locs ls hW hS hl
  exact lv_aload_n hx hb hd hj (lv_at hl k (by rw [List.getElem?_map, hk]; rfl)) (kk H locs ls hW hS hl)

theorem jj_aload (C : Cx X G own cc nL rm n0 rt) {x : Nat} (i k : Nat) (hd : decode cc pc = .ok (.aload i, 2)) (hk : L[k]? = some (i, .ref x)) (kk : J X G Z K h (pc + 2) L (.ref x :: st)) : J X G Z K h pc L st := by
  obtain ⟨p, l, e, R, s, m, args, below, meth, c⟩ := X
  obtain ⟨hx, hb, hown, hts, hK, hlo, hlk, hm, hR, hrt⟩ := C
  intro H locs ls hW hS hl
  exact lv_aload hx hb hd (lv_at hl k (by rw [List.getElem?_map, hk]; rfl)) (kk H locs ls hW hS hl)

theorem jj_istore_n (C : Cx X G own cc nL rm n0 rt) {j : Fin 4} {x : Int32} {L2 : List (Nat × Value)} (i : Nat) (hd : decode cc pc = .ok (.istore_n j, 1)) (hj : (j : Nat) = i) (hL : (i, Value.int x) :: L.filter (sF i) = L2) (hn : i < nL) (kk : J X G Z K h (pc + 1) L2 st) : J X G Z K h pc L (.int x :: st) := by
  obtain ⟨p, l, e, R, s, m, args, below, meth, c⟩ := X
  obtain ⟨hx, hb, hown, hts, hK, hlo, hlk, hm, hR, hrt⟩ := C
  intro H locs ls hW hS hl
  subst hL
  exact lv_istore_n (lv' := ((i, Value.int x) :: L.filter (sF i)).map fun q => (q.1, tV G.1 q.2)) hx hb hd hj hl (by rw [hm]; exact hn) (by rw [sF_map]; rfl) (fun ls2 hl2 => kk H locs ls2 hW hS hl2)

theorem jj_istore (C : Cx X G own cc nL rm n0 rt) {x : Int32} {L2 : List (Nat × Value)} (i : Nat) (hd : decode cc pc = .ok (.istore i, 2)) (hL : (i, Value.int x) :: L.filter (sF i) = L2) (hn : i < nL) (kk : J X G Z K h (pc + 2) L2 st) : J X G Z K h pc L (.int x :: st) := by
  obtain ⟨p, l, e, R, s, m, args, below, meth, c⟩ := X
  obtain ⟨hx, hb, hown, hts, hK, hlo, hlk, hm, hR, hrt⟩ := C
  intro H locs ls hW hS hl
  subst hL
  exact lv_istore (lv' := ((i, Value.int x) :: L.filter (sF i)).map fun q => (q.1, tV G.1 q.2)) hx hb hd hl (by rw [hm]; exact hn) (by rw [sF_map]; rfl) (fun ls2 hl2 => kk H locs ls2 hW hS hl2)

theorem jj_lstore_n (C : Cx X G own cc nL rm n0 rt) {j : Fin 4} {x : Int64} {L2 : List (Nat × Value)} (i : Nat) (hd : decode cc pc = .ok (.lstore_n j, 1)) (hj : (j : Nat) = i) (hL : (i, Value.long x) :: L.filter (sF2 i) = L2) (hn : i + 1 < nL) (kk : J X G Z K h (pc + 1) L2 st) : J X G Z K h pc L (.long x :: st) := by
  obtain ⟨p, l, e, R, s, m, args, below, meth, c⟩ := X
  obtain ⟨hx, hb, hown, hts, hK, hlo, hlk, hm, hR, hrt⟩ := C
  intro H locs ls hW hS hl
  subst hL
  exact lv_lstore_n (lv' := ((i, Value.long x) :: L.filter (sF2 i)).map fun q => (q.1, tV G.1 q.2)) hx hb hd hj hl (by rw [hm]; exact hn) (by rw [sF2_map]; rfl) (fun ls2 hl2 => kk H locs ls2 hW hS hl2)

theorem jj_lstore (C : Cx X G own cc nL rm n0 rt) {x : Int64} {L2 : List (Nat × Value)} (i : Nat) (hd : decode cc pc = .ok (.lstore i, 2)) (hL : (i, Value.long x) :: L.filter (sF2 i) = L2) (hn : i + 1 < nL) (kk : J X G Z K h (pc + 2) L2 st) : J X G Z K h pc L (.long x :: st) := by
  obtain ⟨p, l, e, R, s, m, args, below, meth, c⟩ := X
  obtain ⟨hx, hb, hown, hts, hK, hlo, hlk, hm, hR, hrt⟩ := C
  intro H locs ls hW hS hl
  subst hL
  exact lv_lstore (lv' := ((i, Value.long x) :: L.filter (sF2 i)).map fun q => (q.1, tV G.1 q.2)) hx hb hd hl (by rw [hm]; exact hn) (by rw [sF2_map]; rfl) (fun ls2 hl2 => kk H locs ls2 hW hS hl2)

theorem jj_astore_n (C : Cx X G own cc nL rm n0 rt) {j : Fin 4} {x : Nat} {L2 : List (Nat × Value)} (i : Nat) (hd : decode cc pc = .ok (.astore_n j, 1)) (hj : (j : Nat) = i) (hL : (i, Value.ref x) :: L.filter (sF i) = L2) (hn : i < nL) (kk : J X G Z K h (pc + 1) L2 st) : J X G Z K h pc L (.ref x :: st) := by
  obtain ⟨p, l, e, R, s, m, args, below, meth, c⟩ := X
  obtain ⟨hx, hb, hown, hts, hK, hlo, hlk, hm, hR, hrt⟩ := C
  intro H locs ls hW hS hl
  subst hL
  exact lv_astore_n (lv' := ((i, Value.ref x) :: L.filter (sF i)).map fun q => (q.1, tV G.1 q.2)) hx hb hd hj hl (by rw [hm]; exact hn) (by rw [sF_map]; rfl) (fun ls2 hl2 => kk H locs ls2 hW hS hl2)

theorem jj_astore (C : Cx X G own cc nL rm n0 rt) {x : Nat} {L2 : List (Nat × Value)} (i : Nat) (hd : decode cc pc = .ok (.astore i, 2)) (hL : (i, Value.ref x) :: L.filter (sF i) = L2) (hn : i < nL) (kk : J X G Z K h (pc + 2) L2 st) : J X G Z K h pc L (.ref x :: st) := by
  obtain ⟨p, l, e, R, s, m, args, below, meth, c⟩ := X
  obtain ⟨hx, hb, hown, hts, hK, hlo, hlk, hm, hR, hrt⟩ := C
  intro H locs ls hW hS hl
  subst hL
  exact lv_astore (lv' := ((i, Value.ref x) :: L.filter (sF i)).map fun q => (q.1, tV G.1 q.2)) hx hb hd hl (by rw [hm]; exact hn) (by rw [sF_map]; rfl) (fun ls2 hl2 => kk H locs ls2 hW hS hl2)

theorem jj_iinc (C : Cx X G own cc nL rm n0 rt) {x v : Int32} {a : Int} {L2 : List (Nat × Value)} (i k : Nat) (hd : decode cc pc = .ok (.iinc i a, 3)) (hk : L[k]? = some (i, .int x)) (hv : x + Int32.ofInt a = v) (hL : (i, Value.int v) :: L.filter (sF i) = L2) (hn : i < nL) (kk : J X G Z K h (pc + 3) L2 st) : J X G Z K h pc L st := by
  obtain ⟨p, l, e, R, s, m, args, below, meth, c⟩ := X
  obtain ⟨hx, hb, hown, hts, hK, hlo, hlk, hm, hR, hrt⟩ := C
  intro H locs ls hW hS hl
  subst hL
  exact lv_iinc (v := v) (k := k) (lv' := ((i, Value.int v) :: L.filter (sF i)).map fun q => (q.1, tV G.1 q.2)) hx hb hd hl (by rw [List.getElem?_map, hk]; rfl) hv (by rw [hm]; exact hn) (by rw [sF_map]; rfl) (fun ls2 hl2 => kk H locs ls2 hW hS hl2)

theorem jj_iconst (C : Cx X G own cc nL rm n0 rt) {a : Int} {v : Int32} (hd : decode cc pc = .ok (.iconst a, 1)) (hv : Int32.ofInt a = v) (kk : J X G Z K h (pc + 1) L (.int v :: st)) : J X G Z K h pc L st := by
  obtain ⟨p, l, e, R, s, m, args, below, meth, c⟩ := X
  obtain ⟨hx, hb, hown, hts, hK, hlo, hlk, hm, hR, hrt⟩ := C
  intro H locs ls hW hS hl
  exact lv_iconst hx hb hd hv (kk H locs ls hW hS hl)

theorem jj_bipush (C : Cx X G own cc nL rm n0 rt) {a : Int} {v : Int32} (hd : decode cc pc = .ok (.bipush a, 2)) (hv : (Int8.ofInt a).toInt32 = v) (kk : J X G Z K h (pc + 2) L (.int v :: st)) : J X G Z K h pc L st := by
  obtain ⟨p, l, e, R, s, m, args, below, meth, c⟩ := X
  obtain ⟨hx, hb, hown, hts, hK, hlo, hlk, hm, hR, hrt⟩ := C
  intro H locs ls hW hS hl
  exact lv_bipush hx hb hd hv (kk H locs ls hW hS hl)

theorem jj_sipush (C : Cx X G own cc nL rm n0 rt) {a : Int} {v : Int32} (hd : decode cc pc = .ok (.sipush a, 3)) (hv : (Int16.ofInt a).toInt32 = v) (kk : J X G Z K h (pc + 3) L (.int v :: st)) : J X G Z K h pc L st := by
  obtain ⟨p, l, e, R, s, m, args, below, meth, c⟩ := X
  obtain ⟨hx, hb, hown, hts, hK, hlo, hlk, hm, hR, hrt⟩ := C
  intro H locs ls hW hS hl
  exact lv_sipush hx hb hd hv (kk H locs ls hW hS hl)

theorem jj_lconst (C : Cx X G own cc nL rm n0 rt) {a : Fin 2} {v : Int64} (hd : decode cc pc = .ok (.lconst a, 1)) (hv : Int64.ofNat (a : Nat) = v) (kk : J X G Z K h (pc + 1) L (.long v :: st)) : J X G Z K h pc L st := by
  obtain ⟨p, l, e, R, s, m, args, below, meth, c⟩ := X
  obtain ⟨hx, hb, hown, hts, hK, hlo, hlk, hm, hR, hrt⟩ := C
  intro H locs ls hW hS hl
  exact lv_lconst hx hb hd hv (kk H locs ls hW hS hl)

theorem jj_ldcw (C : Cx X G own cc nL rm n0 rt) {i : Nat} {v : Int32} (hd : decode cc pc = .ok (.ldc_w i, 3)) (hc : Cond.constant own i v ∈ bigW) (kk : J X G Z K h (pc + 3) L (.int v :: st)) : J X G Z K h pc L st := by
  obtain ⟨p, l, e, R, s, m, args, below, meth, c⟩ := X
  obtain ⟨hx, hb, hown, hts, hK, hlo, hlk, hm, hR, hrt⟩ := C
  intro H locs ls hW hS hl
  exact lv_ldcw hx hb hown (hts _ hc) hd (kk H locs ls hW hS hl)

theorem jj_ldc2 (C : Cx X G own cc nL rm n0 rt) {i : Nat} {v : Int64} (hd : decode cc pc = .ok (.ldc2_w i, 3)) (hc : Cond.constantLong own i v ∈ bigW) (kk : J X G Z K h (pc + 3) L (.long v :: st)) : J X G Z K h pc L st := by
  obtain ⟨p, l, e, R, s, m, args, below, meth, c⟩ := X
  obtain ⟨hx, hb, hown, hts, hK, hlo, hlk, hm, hR, hrt⟩ := C
  intro H locs ls hW hS hl
  exact lv_ldc2 hx hb hown (hts _ hc) hd (kk H locs ls hW hS hl)

theorem jj_iadd (C : Cx X G own cc nL rm n0 rt) {x y : Int32} (hd : decode cc pc = .ok (.iadd, 1)) (kk : J X G Z K h (pc + 1) L (.int (x + y) :: st)) : J X G Z K h pc L (.int y :: .int x :: st) := by
  obtain ⟨p, l, e, R, s, m, args, below, meth, c⟩ := X
  obtain ⟨hx, hb, hown, hts, hK, hlo, hlk, hm, hR, hrt⟩ := C
  intro H locs ls hW hS hl
  exact lv_iadd hx hb hd (kk H locs ls hW hS hl)

theorem jj_isub (C : Cx X G own cc nL rm n0 rt) {x y : Int32} (hd : decode cc pc = .ok (.isub, 1)) (kk : J X G Z K h (pc + 1) L (.int (x - y) :: st)) : J X G Z K h pc L (.int y :: .int x :: st) := by
  obtain ⟨p, l, e, R, s, m, args, below, meth, c⟩ := X
  obtain ⟨hx, hb, hown, hts, hK, hlo, hlk, hm, hR, hrt⟩ := C
  intro H locs ls hW hS hl
  exact lv_isub hx hb hd (kk H locs ls hW hS hl)

theorem jj_imul (C : Cx X G own cc nL rm n0 rt) {x y : Int32} (hd : decode cc pc = .ok (.imul, 1)) (kk : J X G Z K h (pc + 1) L (.int (x * y) :: st)) : J X G Z K h pc L (.int y :: .int x :: st) := by
  obtain ⟨p, l, e, R, s, m, args, below, meth, c⟩ := X
  obtain ⟨hx, hb, hown, hts, hK, hlo, hlk, hm, hR, hrt⟩ := C
  intro H locs ls hW hS hl
  exact lv_imul hx hb hd (kk H locs ls hW hS hl)

theorem jj_iand (C : Cx X G own cc nL rm n0 rt) {x y : Int32} (hd : decode cc pc = .ok (.iand, 1)) (kk : J X G Z K h (pc + 1) L (.int (x &&& y) :: st)) : J X G Z K h pc L (.int y :: .int x :: st) := by
  obtain ⟨p, l, e, R, s, m, args, below, meth, c⟩ := X
  obtain ⟨hx, hb, hown, hts, hK, hlo, hlk, hm, hR, hrt⟩ := C
  intro H locs ls hW hS hl
  exact lv_iand hx hb hd (kk H locs ls hW hS hl)

theorem jj_ior (C : Cx X G own cc nL rm n0 rt) {x y : Int32} (hd : decode cc pc = .ok (.ior, 1)) (kk : J X G Z K h (pc + 1) L (.int (x ||| y) :: st)) : J X G Z K h pc L (.int y :: .int x :: st) := by
  obtain ⟨p, l, e, R, s, m, args, below, meth, c⟩ := X
  obtain ⟨hx, hb, hown, hts, hK, hlo, hlk, hm, hR, hrt⟩ := C
  intro H locs ls hW hS hl
  exact lv_ior hx hb hd (kk H locs ls hW hS hl)

theorem jj_ishl (C : Cx X G own cc nL rm n0 rt) {x y : Int32} (hd : decode cc pc = .ok (.ishl, 1)) (kk : J X G Z K h (pc + 1) L (.int (x <<< (y &&& 31)) :: st)) : J X G Z K h pc L (.int y :: .int x :: st) := by
  obtain ⟨p, l, e, R, s, m, args, below, meth, c⟩ := X
  obtain ⟨hx, hb, hown, hts, hK, hlo, hlk, hm, hR, hrt⟩ := C
  intro H locs ls hW hS hl
  exact lv_ishl hx hb hd (kk H locs ls hW hS hl)

theorem jj_ishr (C : Cx X G own cc nL rm n0 rt) {x y : Int32} (hd : decode cc pc = .ok (.ishr, 1)) (kk : J X G Z K h (pc + 1) L (.int (x >>> (y &&& 31)) :: st)) : J X G Z K h pc L (.int y :: .int x :: st) := by
  obtain ⟨p, l, e, R, s, m, args, below, meth, c⟩ := X
  obtain ⟨hx, hb, hown, hts, hK, hlo, hlk, hm, hR, hrt⟩ := C
  intro H locs ls hW hS hl
  exact lv_ishr hx hb hd (kk H locs ls hW hS hl)

theorem jj_iushr (C : Cx X G own cc nL rm n0 rt) {x y : Int32} (hd : decode cc pc = .ok (.iushr, 1)) (kk : J X G Z K h (pc + 1) L (.int ((x.toUInt32 >>> (y.toUInt32 &&& Int32.toUInt32 31)).toInt32) :: st)) : J X G Z K h pc L (.int y :: .int x :: st) := by
  obtain ⟨p, l, e, R, s, m, args, below, meth, c⟩ := X
  obtain ⟨hx, hb, hown, hts, hK, hlo, hlk, hm, hR, hrt⟩ := C
  intro H locs ls hW hS hl
  exact lv_iushr hx hb hd rfl (kk H locs ls hW hS hl)

theorem jj_idiv (C : Cx X G own cc nL rm n0 rt) {x y : Int32} (hd : decode cc pc = .ok (.idiv, 1)) (hy : ¬ y = 0) (kk : J X G Z K h (pc + 1) L (.int (x / y) :: st)) : J X G Z K h pc L (.int y :: .int x :: st) := by
  obtain ⟨p, l, e, R, s, m, args, below, meth, c⟩ := X
  obtain ⟨hx, hb, hown, hts, hK, hlo, hlk, hm, hR, hrt⟩ := C
  intro H locs ls hW hS hl
  exact lv_idiv hx hb hd hy (kk H locs ls hW hS hl)

theorem jj_irem (C : Cx X G own cc nL rm n0 rt) {x y : Int32} (hd : decode cc pc = .ok (.irem, 1)) (hy : ¬ y = 0) (kk : J X G Z K h (pc + 1) L (.int (x - x / y * y) :: st)) : J X G Z K h pc L (.int y :: .int x :: st) := by
  obtain ⟨p, l, e, R, s, m, args, below, meth, c⟩ := X
  obtain ⟨hx, hb, hown, hts, hK, hlo, hlk, hm, hR, hrt⟩ := C
  intro H locs ls hW hS hl
  exact lv_irem hx hb hd hy (kk H locs ls hW hS hl)

theorem jj_ladd (C : Cx X G own cc nL rm n0 rt) {x y : Int64} (hd : decode cc pc = .ok (.ladd, 1)) (kk : J X G Z K h (pc + 1) L (.long (x + y) :: st)) : J X G Z K h pc L (.long y :: .long x :: st) := by
  obtain ⟨p, l, e, R, s, m, args, below, meth, c⟩ := X
  obtain ⟨hx, hb, hown, hts, hK, hlo, hlk, hm, hR, hrt⟩ := C
  intro H locs ls hW hS hl
  exact lv_ladd hx hb hd (kk H locs ls hW hS hl)

theorem jj_lmul (C : Cx X G own cc nL rm n0 rt) {x y : Int64} (hd : decode cc pc = .ok (.lmul, 1)) (kk : J X G Z K h (pc + 1) L (.long (x * y) :: st)) : J X G Z K h pc L (.long y :: .long x :: st) := by
  obtain ⟨p, l, e, R, s, m, args, below, meth, c⟩ := X
  obtain ⟨hx, hb, hown, hts, hK, hlo, hlk, hm, hR, hrt⟩ := C
  intro H locs ls hW hS hl
  exact lv_lmul hx hb hd (kk H locs ls hW hS hl)

theorem jj_land (C : Cx X G own cc nL rm n0 rt) {x y : Int64} (hd : decode cc pc = .ok (.land, 1)) (kk : J X G Z K h (pc + 1) L (.long (x &&& y) :: st)) : J X G Z K h pc L (.long y :: .long x :: st) := by
  obtain ⟨p, l, e, R, s, m, args, below, meth, c⟩ := X
  obtain ⟨hx, hb, hown, hts, hK, hlo, hlk, hm, hR, hrt⟩ := C
  intro H locs ls hW hS hl
  exact lv_land hx hb hd (kk H locs ls hW hS hl)

theorem jj_lor (C : Cx X G own cc nL rm n0 rt) {x y : Int64} (hd : decode cc pc = .ok (.lor, 1)) (kk : J X G Z K h (pc + 1) L (.long (x ||| y) :: st)) : J X G Z K h pc L (.long y :: .long x :: st) := by
  obtain ⟨p, l, e, R, s, m, args, below, meth, c⟩ := X
  obtain ⟨hx, hb, hown, hts, hK, hlo, hlk, hm, hR, hrt⟩ := C
  intro H locs ls hW hS hl
  exact lv_lor hx hb hd (kk H locs ls hW hS hl)

theorem jj_ldiv (C : Cx X G own cc nL rm n0 rt) {x y : Int64} (hd : decode cc pc = .ok (.ldiv, 1)) (hy : ¬ y = 0) (kk : J X G Z K h (pc + 1) L (.long (x / y) :: st)) : J X G Z K h pc L (.long y :: .long x :: st) := by
  obtain ⟨p, l, e, R, s, m, args, below, meth, c⟩ := X
  obtain ⟨hx, hb, hown, hts, hK, hlo, hlk, hm, hR, hrt⟩ := C
  intro H locs ls hW hS hl
  exact lv_ldiv hx hb hd hy (kk H locs ls hW hS hl)

theorem jj_lrem (C : Cx X G own cc nL rm n0 rt) {x y : Int64} (hd : decode cc pc = .ok (.lrem, 1)) (hy : ¬ y = 0) (kk : J X G Z K h (pc + 1) L (.long (x - x / y * y) :: st)) : J X G Z K h pc L (.long y :: .long x :: st) := by
  obtain ⟨p, l, e, R, s, m, args, below, meth, c⟩ := X
  obtain ⟨hx, hb, hown, hts, hK, hlo, hlk, hm, hR, hrt⟩ := C
  intro H locs ls hW hS hl
  exact lv_lrem hx hb hd hy (kk H locs ls hW hS hl)

theorem jj_lshl (C : Cx X G own cc nL rm n0 rt) {x : Int64} {y : Int32} (hd : decode cc pc = .ok (.lshl, 1)) (kk : J X G Z K h (pc + 1) L (.long (x <<< (y.toInt64 &&& 63)) :: st)) : J X G Z K h pc L (.int y :: .long x :: st) := by
  obtain ⟨p, l, e, R, s, m, args, below, meth, c⟩ := X
  obtain ⟨hx, hb, hown, hts, hK, hlo, hlk, hm, hR, hrt⟩ := C
  intro H locs ls hW hS hl
  exact lv_lshl hx hb hd rfl (kk H locs ls hW hS hl)

theorem jj_lshr (C : Cx X G own cc nL rm n0 rt) {x : Int64} {y : Int32} (hd : decode cc pc = .ok (.lshr, 1)) (kk : J X G Z K h (pc + 1) L (.long (x >>> (y.toInt64 &&& 63)) :: st)) : J X G Z K h pc L (.int y :: .long x :: st) := by
  obtain ⟨p, l, e, R, s, m, args, below, meth, c⟩ := X
  obtain ⟨hx, hb, hown, hts, hK, hlo, hlk, hm, hR, hrt⟩ := C
  intro H locs ls hW hS hl
  exact lv_lshr hx hb hd rfl (kk H locs ls hW hS hl)

theorem jj_i2l (C : Cx X G own cc nL rm n0 rt) {x : Int32} (hd : decode cc pc = .ok (.i2l, 1)) (kk : J X G Z K h (pc + 1) L (.long x.toInt64 :: st)) : J X G Z K h pc L (.int x :: st) := by
  obtain ⟨p, l, e, R, s, m, args, below, meth, c⟩ := X
  obtain ⟨hx, hb, hown, hts, hK, hlo, hlk, hm, hR, hrt⟩ := C
  intro H locs ls hW hS hl
  exact lv_i2l hx hb hd rfl (kk H locs ls hW hS hl)

theorem jj_i2b (C : Cx X G own cc nL rm n0 rt) {x : Int32} (hd : decode cc pc = .ok (.i2b, 1)) (kk : J X G Z K h (pc + 1) L (.int x.toInt8.toInt32 :: st)) : J X G Z K h pc L (.int x :: st) := by
  obtain ⟨p, l, e, R, s, m, args, below, meth, c⟩ := X
  obtain ⟨hx, hb, hown, hts, hK, hlo, hlk, hm, hR, hrt⟩ := C
  intro H locs ls hW hS hl
  exact lv_i2b hx hb hd rfl (kk H locs ls hW hS hl)

theorem jj_i2s (C : Cx X G own cc nL rm n0 rt) {x : Int32} (hd : decode cc pc = .ok (.i2s, 1)) (kk : J X G Z K h (pc + 1) L (.int x.toInt16.toInt32 :: st)) : J X G Z K h pc L (.int x :: st) := by
  obtain ⟨p, l, e, R, s, m, args, below, meth, c⟩ := X
  obtain ⟨hx, hb, hown, hts, hK, hlo, hlk, hm, hR, hrt⟩ := C
  intro H locs ls hW hS hl
  exact lv_i2s hx hb hd rfl (kk H locs ls hW hS hl)

theorem jj_lcmp (C : Cx X G own cc nL rm n0 rt) {x y : Int64} (hd : decode cc pc = .ok (.lcmp, 1)) (kk : J X G Z K h (pc + 1) L (.int (lg_cmp x y) :: st)) : J X G Z K h pc L (.long y :: .long x :: st) := by
  obtain ⟨p, l, e, R, s, m, args, below, meth, c⟩ := X
  obtain ⟨hx, hb, hown, hts, hK, hlo, hlk, hm, hR, hrt⟩ := C
  intro H locs ls hW hS hl
  exact W.lcmp hx hb hd (kk H locs ls hW hS hl)

theorem jj_dup (C : Cx X G own cc nL rm n0 rt) {v : Value} (hd : decode cc pc = .ok (.dup, 1)) (hv : v.category = 1) (kk : J X G Z K h (pc + 1) L (v :: v :: st)) : J X G Z K h pc L (v :: st) := by
  obtain ⟨p, l, e, R, s, m, args, below, meth, c⟩ := X
  obtain ⟨hx, hb, hown, hts, hK, hlo, hlk, hm, hR, hrt⟩ := C
  intro H locs ls hW hS hl
  exact lv_dup hx hb hd (by rw [tV_cat]; exact hv) (kk H locs ls hW hS hl)

theorem jj_pop (C : Cx X G own cc nL rm n0 rt) {v : Value} (hd : decode cc pc = .ok (.pop, 1)) (hv : v.category = 1) (kk : J X G Z K h (pc + 1) L st) : J X G Z K h pc L (v :: st) := by
  obtain ⟨p, l, e, R, s, m, args, below, meth, c⟩ := X
  obtain ⟨hx, hb, hown, hts, hK, hlo, hlk, hm, hR, hrt⟩ := C
  intro H locs ls hW hS hl
  exact lv_pop hx hb hd (by rw [tV_cat]; exact hv) (kk H locs ls hW hS hl)

theorem jj_dup2 (C : Cx X G own cc nL rm n0 rt) {v w : Value} (hd : decode cc pc = .ok (.dup2, 1)) (hv : v.category = 1) (hw : w.category = 1) (kk : J X G Z K h (pc + 1) L (v :: w :: v :: w :: st)) : J X G Z K h pc L (v :: w :: st) := by
  obtain ⟨p, l, e, R, s, m, args, below, meth, c⟩ := X
  obtain ⟨hx, hb, hown, hts, hK, hlo, hlk, hm, hR, hrt⟩ := C
  intro H locs ls hW hS hl
  exact lv_dup2_11 hx hb hd (by rw [tV_cat]; exact hv) (by rw [tV_cat]; exact hw) (kk H locs ls hW hS hl)

theorem jj_goto (C : Cx X G own cc nL rm n0 rt) {off : Int} {tgt : Nat} (hd : decode cc pc = .ok (.goto off, 3)) (ht : (pc : Int) + off = (tgt : Int)) (kk : J X G Z K h tgt L st) : J X G Z K h pc L st := by
  obtain ⟨p, l, e, R, s, m, args, below, meth, c⟩ := X
  obtain ⟨hx, hb, hown, hts, hK, hlo, hlk, hm, hR, hrt⟩ := C
  intro H locs ls hW hS hl
  exact lv_goto hx hb hd ht (kk H locs ls hW hS hl)

theorem jj_if_eq (C : Cx X G own cc nL rm n0 rt) {x : Int32} {off : Int} {tgt : Nat} (hd : decode cc pc = .ok (.ifCond .eq off, 3)) (ht : (pc : Int) + off = (tgt : Int)) (kt : x = 0 → J X G Z K h tgt L st) (kf : ¬ x = 0 → J X G Z K h (pc + 3) L st) : J X G Z K h pc L (.int x :: st) := by
  obtain ⟨p, l, e, R, s, m, args, below, meth, c⟩ := X
  obtain ⟨hx, hb, hown, hts, hK, hlo, hlk, hm, hR, hrt⟩ := C
  intro H locs ls hW hS hl
  exact lv_if_eq hx hb hd ht (fun q => kt q H locs ls hW hS hl) (fun q => kf q H locs ls hW hS hl)

theorem jj_icmp_eq (C : Cx X G own cc nL rm n0 rt) {x y : Int32} {off : Int} {tgt : Nat} (hd : decode cc pc = .ok (.if_icmp .eq off, 3)) (ht : (pc : Int) + off = (tgt : Int)) (kt : x = y → J X G Z K h tgt L st) (kf : ¬ x = y → J X G Z K h (pc + 3) L st) : J X G Z K h pc L (.int y :: .int x :: st) := by
  obtain ⟨p, l, e, R, s, m, args, below, meth, c⟩ := X
  obtain ⟨hx, hb, hown, hts, hK, hlo, hlk, hm, hR, hrt⟩ := C
  intro H locs ls hW hS hl
  exact lv_icmp_eq hx hb hd ht (fun q => kt q H locs ls hW hS hl) (fun q => kf q H locs ls hW hS hl)

theorem jj_if_ne (C : Cx X G own cc nL rm n0 rt) {x : Int32} {off : Int} {tgt : Nat} (hd : decode cc pc = .ok (.ifCond .ne off, 3)) (ht : (pc : Int) + off = (tgt : Int)) (kt : ¬ x = 0 → J X G Z K h tgt L st) (kf : x = 0 → J X G Z K h (pc + 3) L st) : J X G Z K h pc L (.int x :: st) := by
  obtain ⟨p, l, e, R, s, m, args, below, meth, c⟩ := X
  obtain ⟨hx, hb, hown, hts, hK, hlo, hlk, hm, hR, hrt⟩ := C
  intro H locs ls hW hS hl
  exact lv_if_ne hx hb hd ht (fun q => kt q H locs ls hW hS hl) (fun q => kf q H locs ls hW hS hl)

theorem jj_icmp_ne (C : Cx X G own cc nL rm n0 rt) {x y : Int32} {off : Int} {tgt : Nat} (hd : decode cc pc = .ok (.if_icmp .ne off, 3)) (ht : (pc : Int) + off = (tgt : Int)) (kt : ¬ x = y → J X G Z K h tgt L st) (kf : x = y → J X G Z K h (pc + 3) L st) : J X G Z K h pc L (.int y :: .int x :: st) := by
  obtain ⟨p, l, e, R, s, m, args, below, meth, c⟩ := X
  obtain ⟨hx, hb, hown, hts, hK, hlo, hlk, hm, hR, hrt⟩ := C
  intro H locs ls hW hS hl
  exact lv_icmp_ne hx hb hd ht (fun q => kt q H locs ls hW hS hl) (fun q => kf q H locs ls hW hS hl)

theorem jj_if_lt (C : Cx X G own cc nL rm n0 rt) {x : Int32} {off : Int} {tgt : Nat} (hd : decode cc pc = .ok (.ifCond .lt off, 3)) (ht : (pc : Int) + off = (tgt : Int)) (kt : x < 0 → J X G Z K h tgt L st) (kf : ¬ x < 0 → J X G Z K h (pc + 3) L st) : J X G Z K h pc L (.int x :: st) := by
  obtain ⟨p, l, e, R, s, m, args, below, meth, c⟩ := X
  obtain ⟨hx, hb, hown, hts, hK, hlo, hlk, hm, hR, hrt⟩ := C
  intro H locs ls hW hS hl
  exact lv_if_lt hx hb hd ht (fun q => kt q H locs ls hW hS hl) (fun q => kf q H locs ls hW hS hl)

theorem jj_icmp_lt (C : Cx X G own cc nL rm n0 rt) {x y : Int32} {off : Int} {tgt : Nat} (hd : decode cc pc = .ok (.if_icmp .lt off, 3)) (ht : (pc : Int) + off = (tgt : Int)) (kt : x < y → J X G Z K h tgt L st) (kf : ¬ x < y → J X G Z K h (pc + 3) L st) : J X G Z K h pc L (.int y :: .int x :: st) := by
  obtain ⟨p, l, e, R, s, m, args, below, meth, c⟩ := X
  obtain ⟨hx, hb, hown, hts, hK, hlo, hlk, hm, hR, hrt⟩ := C
  intro H locs ls hW hS hl
  exact lv_icmp_lt hx hb hd ht (fun q => kt q H locs ls hW hS hl) (fun q => kf q H locs ls hW hS hl)

theorem jj_if_ge (C : Cx X G own cc nL rm n0 rt) {x : Int32} {off : Int} {tgt : Nat} (hd : decode cc pc = .ok (.ifCond .ge off, 3)) (ht : (pc : Int) + off = (tgt : Int)) (kt : 0 ≤ x → J X G Z K h tgt L st) (kf : ¬ 0 ≤ x → J X G Z K h (pc + 3) L st) : J X G Z K h pc L (.int x :: st) := by
  obtain ⟨p, l, e, R, s, m, args, below, meth, c⟩ := X
  obtain ⟨hx, hb, hown, hts, hK, hlo, hlk, hm, hR, hrt⟩ := C
  intro H locs ls hW hS hl
  exact lv_if_ge hx hb hd ht (fun q => kt q H locs ls hW hS hl) (fun q => kf q H locs ls hW hS hl)

theorem jj_icmp_ge (C : Cx X G own cc nL rm n0 rt) {x y : Int32} {off : Int} {tgt : Nat} (hd : decode cc pc = .ok (.if_icmp .ge off, 3)) (ht : (pc : Int) + off = (tgt : Int)) (kt : y ≤ x → J X G Z K h tgt L st) (kf : ¬ y ≤ x → J X G Z K h (pc + 3) L st) : J X G Z K h pc L (.int y :: .int x :: st) := by
  obtain ⟨p, l, e, R, s, m, args, below, meth, c⟩ := X
  obtain ⟨hx, hb, hown, hts, hK, hlo, hlk, hm, hR, hrt⟩ := C
  intro H locs ls hW hS hl
  exact lv_icmp_ge hx hb hd ht (fun q => kt q H locs ls hW hS hl) (fun q => kf q H locs ls hW hS hl)

theorem jj_if_gt (C : Cx X G own cc nL rm n0 rt) {x : Int32} {off : Int} {tgt : Nat} (hd : decode cc pc = .ok (.ifCond .gt off, 3)) (ht : (pc : Int) + off = (tgt : Int)) (kt : 0 < x → J X G Z K h tgt L st) (kf : ¬ 0 < x → J X G Z K h (pc + 3) L st) : J X G Z K h pc L (.int x :: st) := by
  obtain ⟨p, l, e, R, s, m, args, below, meth, c⟩ := X
  obtain ⟨hx, hb, hown, hts, hK, hlo, hlk, hm, hR, hrt⟩ := C
  intro H locs ls hW hS hl
  exact lv_if_gt hx hb hd ht (fun q => kt q H locs ls hW hS hl) (fun q => kf q H locs ls hW hS hl)

theorem jj_icmp_gt (C : Cx X G own cc nL rm n0 rt) {x y : Int32} {off : Int} {tgt : Nat} (hd : decode cc pc = .ok (.if_icmp .gt off, 3)) (ht : (pc : Int) + off = (tgt : Int)) (kt : y < x → J X G Z K h tgt L st) (kf : ¬ y < x → J X G Z K h (pc + 3) L st) : J X G Z K h pc L (.int y :: .int x :: st) := by
  obtain ⟨p, l, e, R, s, m, args, below, meth, c⟩ := X
  obtain ⟨hx, hb, hown, hts, hK, hlo, hlk, hm, hR, hrt⟩ := C
  intro H locs ls hW hS hl
  exact lv_icmp_gt hx hb hd ht (fun q => kt q H locs ls hW hS hl) (fun q => kf q H locs ls hW hS hl)

theorem jj_if_le (C : Cx X G own cc nL rm n0 rt) {x : Int32} {off : Int} {tgt : Nat} (hd : decode cc pc = .ok (.ifCond .le off, 3)) (ht : (pc : Int) + off = (tgt : Int)) (kt : x ≤ 0 → J X G Z K h tgt L st) (kf : ¬ x ≤ 0 → J X G Z K h (pc + 3) L st) : J X G Z K h pc L (.int x :: st) := by
  obtain ⟨p, l, e, R, s, m, args, below, meth, c⟩ := X
  obtain ⟨hx, hb, hown, hts, hK, hlo, hlk, hm, hR, hrt⟩ := C
  intro H locs ls hW hS hl
  exact lv_if_le hx hb hd ht (fun q => kt q H locs ls hW hS hl) (fun q => kf q H locs ls hW hS hl)

theorem jj_icmp_le (C : Cx X G own cc nL rm n0 rt) {x y : Int32} {off : Int} {tgt : Nat} (hd : decode cc pc = .ok (.if_icmp .le off, 3)) (ht : (pc : Int) + off = (tgt : Int)) (kt : x ≤ y → J X G Z K h tgt L st) (kf : ¬ x ≤ y → J X G Z K h (pc + 3) L st) : J X G Z K h pc L (.int y :: .int x :: st) := by
  obtain ⟨p, l, e, R, s, m, args, below, meth, c⟩ := X
  obtain ⟨hx, hb, hown, hts, hK, hlo, hlk, hm, hR, hrt⟩ := C
  intro H locs ls hW hS hl
  exact lv_icmp_le hx hb hd ht (fun q => kt q H locs ls hW hS hl) (fun q => kf q H locs ls hW hS hl)

theorem jj_tableOut (C : Cx X G own cc nL rm n0 rt) {dflt lo hi : Int} {offs : Array Int} {len : Nat} {x : Int32} {tgt : Nat} (hd : decode cc pc = .ok (.tableswitch dflt lo hi offs, len)) (hq : x.toInt < lo ∨ hi < x.toInt) (ht : (pc : Int) + dflt = (tgt : Int)) (kk : J X G Z K h tgt L st) : J X G Z K h pc L (.int x :: st) := by
  obtain ⟨p, l, e, R, s, m, args, below, meth, c⟩ := X
  obtain ⟨hx, hb, hown, hts, hK, hlo, hlk, hm, hR, hrt⟩ := C
  intro H locs ls hW hS hl
  exact lv_tableOut hx hb hd hq ht (kk H locs ls hW hS hl)

theorem jj_tableIn (C : Cx X G own cc nL rm n0 rt) {dflt lo hi : Int} {offs : Array Int} {len : Nat} {x : Int32} {off : Int} {tgt : Nat} (hd : decode cc pc = .ok (.tableswitch dflt lo hi offs, len)) (h1 : ¬ x.toInt < lo) (h2 : ¬ hi < x.toInt) (ho : offs[(x.toInt - lo).toNat]? = some off) (ht : (pc : Int) + off = (tgt : Int)) (kk : J X G Z K h tgt L st) : J X G Z K h pc L (.int x :: st) := by
  obtain ⟨p, l, e, R, s, m, args, below, meth, c⟩ := X
  obtain ⟨hx, hb, hown, hts, hK, hlo, hlk, hm, hR, hrt⟩ := C
  intro H locs ls hW hS hl
  exact lv_tableIn hx hb hd h1 h2 ho ht (kk H locs ls hW hS hl)

theorem jj_lookup (C : Cx X G own cc nL rm n0 rt) {dflt : Int} {ps : Array (Int × Int)} {len : Nat} {x : Int32} {off : Int} {tgt : Nat} (hd : decode cc pc = .ok (.lookupswitch dflt ps, len)) (hp : (ps.toList.zip (ps.toList.drop 1)).all (fun (a, next) => a.1 < next.1) = true) (ho : Op.lookupswitch.offset ps.toList dflt x.toInt = off) (ht : (pc : Int) + off = (tgt : Int)) (kk : J X G Z K h tgt L st) : J X G Z K h pc L (.int x :: st) := by
  obtain ⟨p, l, e, R, s, m, args, below, meth, c⟩ := X
  obtain ⟨hx, hb, hown, hts, hK, hlo, hlk, hm, hR, hrt⟩ := C
  intro H locs ls hW hS hl
  exact lv_lookup hx hb hd hp ho ht (kk H locs ls hW hS hl)

theorem jj_sub {L2 : List (Nat × Value)} (ks : List Nat) (hL : lv_pick L ks = L2) (kk : J X G Z K h pc L2 st) : J X G Z K h pc L st := by
  obtain ⟨p, l, e, R, s, m, args, below, meth, c⟩ := X
  intro H locs ls hW hS hl
  refine kk H locs ls hW hS (lv_sub hl ks ?_)
  rw [← hL]
  unfold lv_pick
  rw [List.map_filterMap]
  congr 1
  funext k
  rw [List.getElem?_map]

end JR
end
section
/-! fields, rows (arrays), new cells, calls, returns over the pure heap -/
def inb (i : Int32) (n : Nat) : Bool := !(decide (i < 0)) && decide (i.toNatClampNeg < n)
theorem inb_in {i : Int32} {n : Nat} (h : inb i n = true) : vp_in i n := by
  simp only [inb, Bool.and_eq_true, Bool.not_eq_true', decide_eq_false_iff_not, decide_eq_true_eq] at h
  rintro (q | q)
  · exact h.1 q
  · omega
def getI (ci : Nat) (h : pH) (a k : Nat) : Option Int32 := match h a with
  | .inr o => if o.1 = ci then (match o.2[k]? with | some (.int v) => some v | _ => none) else none
  | _ => none
def getR (ci : Nat) (h : pH) (a k : Nat) : Option Nat := match h a with
  | .inr o => if o.1 = ci then (match o.2[k]? with | some (.ref v) => some v | _ => none) else none
  | _ => none
def putV (ci : Nat) (h : pH) (a k : Nat) (v : Value) : Option pH := match h a with
  | .inr o => if o.1 = ci ∧ k < o.2.length then some (va_up h a (.inr (o.1, o.2.set k v))) else none
  | _ => none
def putZ (ci : Nat) (h : pH) (a k : Nat) (v : Int32) : Option pH := if v = 0 ∨ v = 1 then putV ci h a k (.int v) else none
def retZ (v : Int32) : Option Int32 := if v = 0 ∨ v = 1 then some v else none
def chk (ci : Nat) (h : pH) (a : Nat) : Option Unit := match h a with
  | .inr o => if o.1 = ci then some () else none
  | _ => none
def aldI (t : Nat) (h : pH) (a : Nat) (i : Int32) : Option Int32 := match h a with
  | .inl (u, n, .inl f) => if u = t ∧ inb i n = true then some (f i.toNatClampNeg) else none
  | _ => none
def astI (t : Nat) (h : pH) (a : Nat) (i x : Int32) : Option pH := match h a with
  | .inl (u, n, .inl f) => if u = t ∧ inb i n = true then some (va_up h a (.inl (u, n, .inl (upd f i.toNatClampNeg x)))) else none
  | _ => none
def aldL (h : pH) (a : Nat) (i : Int32) : Option Int64 := match h a with
  | .inl (u, n, .inr (.inl f)) => if u = 1 ∧ inb i n = true then some (f i.toNatClampNeg) else none
  | _ => none
def astL (h : pH) (a : Nat) (i : Int32) (x : Int64) : Option pH := match h a with
  | .inl (u, n, .inr (.inl f)) => if u = 1 ∧ inb i n = true then some (va_up h a (.inl (u, n, .inr (.inl (vp_updL f i.toNatClampNeg x))))) else none
  | _ => none
def aldR (t : Nat) (h : pH) (a : Nat) (i : Int32) : Option Nat := match h a with
  | .inl (u, n, .inr (.inr (.inr (.inr f)))) => if u = t ∧ inb i n = true then f i.toNatClampNeg else none
  | _ => none
def astR (t ci : Nat) (h : pH) (a : Nat) (i : Int32) (b : Nat) : Option pH := match h a with
  | .inl (u, n, .inr (.inr (.inr (.inr f)))) => if u = t ∧ inb i n = true ∧ chk ci h b = some () then some (va_up h a (.inl (u, n, .inr (.inr (.inr (.inr (va_up f i.toNatClampNeg (some b)))))))) else none
  | _ => none
def alen (h : pH) (a : Nat) : Option Int32 := match h a with
  | .inl x => if x.1 < 6 then some (Int32.ofNat x.2.1) else none
  | _ => none
def acpI (h : pH) (a : Nat) (sp : Int32) (b : Nat) (dp n : Int32) : Option pH := match h a, h b with
  | .inl (u, k, .inl f), .inl (v, k2, .inl g) => if u = 0 ∧ v = 0 ∧ ¬ sp < 0 ∧ ¬ dp < 0 ∧ ¬ n < 0 ∧ sp.toNatClampNeg + n.toNatClampNeg ≤ k ∧ dp.toNatClampNeg + n.toNatClampNeg ≤ k2 then some (va_up h b (.inl (v, k2, .inl (va_cpy f g sp.toNatClampNeg dp.toNatClampNeg n.toNatClampNeg)))) else none
  | _, _ => none
/-! ## what an answer says -/
theorem getI_inv {ci : Nat} {h : pH} {a k : Nat} {v : Int32} (q : getI ci h a k = some v) : ∃ fs, h a = .inr (ci, fs) ∧ fs[k]? = some (.int v) := by
  unfold getI at q
  split at q
  · rename_i o e
    split at q
    · rename_i e2
      split at q
      · rename_i w e3
        cases q
        exact ⟨o.2, by rw [e, ← e2], e3⟩
      · cases q
    · cases q
  · cases q
theorem getR_inv {ci : Nat} {h : pH} {a k : Nat} {v : Nat} (q : getR ci h a k = some v) : ∃ fs, h a = .inr (ci, fs) ∧ fs[k]? = some (.ref v) := by
  unfold getR at q
  split at q
  · rename_i o e
    split at q
    · rename_i e2
      split at q
      · rename_i w e3
        cases q
        exact ⟨o.2, by rw [e, ← e2], e3⟩
      · cases q
    · cases q
  · cases q
theorem putV_inv {ci : Nat} {h : pH} {a k : Nat} {v : Value} {h2 : pH} (q : putV ci h a k v = some h2) : ∃ fs, h a = .inr (ci, fs) ∧ k < fs.length ∧ h2 = va_up h a (.inr (ci, fs.set k v)) := by
  unfold putV at q
  split at q
  · rename_i o e
    split at q
    · rename_i e2
      cases q
      obtain ⟨rfl, e3⟩ := e2
      exact ⟨o.2, e, e3, rfl⟩
    · cases q
  · cases q
theorem putZ_inv {ci : Nat} {h : pH} {a k : Nat} {v : Int32} {h2 : pH} (q : putZ ci h a k v = some h2) : (v = 0 ∨ v = 1) ∧ putV ci h a k (.int v) = some h2 := by
  unfold putZ at q
  split at q
  · rename_i e
    exact ⟨e, q⟩
  · cases q
theorem retZ_inv {v r : Int32} (q : retZ v = some r) : (v = 0 ∨ v = 1) ∧ v = r := by
  unfold retZ at q
  split at q
  · rename_i e
    cases q
    exact ⟨e, rfl⟩
  · cases q
theorem chk_inv {ci : Nat} {h : pH} {a : Nat} {u : Unit} (q : chk ci h a = some u) : ∃ fs, h a = .inr (ci, fs) := by
  unfold chk at q
  split at q
  · rename_i o e
    split at q
    · rename_i e2
      exact ⟨o.2, by rw [e, ← e2]⟩
    · cases q
  · cases q
theorem aldI_inv {t : Nat} {h : pH} {a : Nat} {i v : Int32} (q : aldI t h a i = some v) : ∃ n f, h a = .inl (t, n, .inl f) ∧ vp_in i n ∧ v = f i.toNatClampNeg := by
  unfold aldI at q
  split at q
  · rename_i u n f e
    split at q
    · rename_i e2
      cases q
      exact ⟨n, f, by rw [e, ← e2.1], inb_in e2.2, rfl⟩
    · cases q
  · cases q
theorem astI_inv {t : Nat} {h : pH} {a : Nat} {i x : Int32} {h2 : pH} (q : astI t h a i x = some h2) : ∃ n f, h a = .inl (t, n, .inl f) ∧ vp_in i n ∧ h2 = va_up h a (.inl (t, n, .inl (upd f i.toNatClampNeg x))) := by
  unfold astI at q
  split at q
  · rename_i u n f e
    split at q
    · rename_i e2
      cases q
      obtain ⟨rfl, e3⟩ := e2
      exact ⟨n, f, e, inb_in e3, rfl⟩
    · cases q
  · cases q
theorem aldL_inv {h : pH} {a : Nat} {i : Int32} {v : Int64} (q : aldL h a i = some v) : ∃ n f, h a = .inl (1, n, .inr (.inl f)) ∧ vp_in i n ∧ v = f i.toNatClampNeg := by
  unfold aldL at q
  split at q
  · rename_i u n f e
    split at q
    · rename_i e2
      cases q
      exact ⟨n, f, by rw [e, ← e2.1], inb_in e2.2, rfl⟩
    · cases q
  · cases q
theorem astL_inv {h : pH} {a : Nat} {i : Int32} {x : Int64} {h2 : pH} (q : astL h a i x = some h2) : ∃ n f, h a = .inl (1, n, .inr (.inl f)) ∧ vp_in i n ∧ h2 = va_up h a (.inl (1, n, .inr (.inl (vp_updL f i.toNatClampNeg x)))) := by
  unfold astL at q
  split at q
  · rename_i u n f e
    split at q
    · rename_i e2
      cases q
      obtain ⟨rfl, e3⟩ := e2
      exact ⟨n, f, e, inb_in e3, rfl⟩
    · cases q
  · cases q
theorem aldR_inv {t : Nat} {h : pH} {a : Nat} {i : Int32} {v : Nat} (q : aldR t h a i = some v) : ∃ n f, h a = .inl (t, n, .inr (.inr (.inr (.inr f)))) ∧ vp_in i n ∧ f i.toNatClampNeg = some v := by
  unfold aldR at q
  split at q
  · rename_i u n f e
    split at q
    · rename_i e2
      exact ⟨n, f, by rw [e, ← e2.1], inb_in e2.2, q⟩
    · cases q
  · cases q
theorem astR_inv {t ci : Nat} {h : pH} {a : Nat} {i : Int32} {b : Nat} {h2 : pH} (q : astR t ci h a i b = some h2) : ∃ n f, h a = .inl (t, n, .inr (.inr (.inr (.inr f)))) ∧ vp_in i n ∧ chk ci h b = some () ∧ h2 = va_up h a (.inl (t, n, .inr (.inr (.inr (.inr (va_up f i.toNatClampNeg (some b))))))) := by
  unfold astR at q
  split at q
  · rename_i u n f e
    split at q
    · rename_i e2
      cases q
      obtain ⟨rfl, e3, e4⟩ := e2
      exact ⟨n, f, e, inb_in e3, e4, rfl⟩
    · cases q
  · cases q
theorem alen_inv {h : pH} {a : Nat} {v : Int32} (q : alen h a = some v) : ∃ t x, h a = .inl (t, x) ∧ t < 6 ∧ v = Int32.ofNat x.1 := by
  unfold alen at q
  split at q
  · rename_i x e
    split at q
    · rename_i e2
      cases q
      exact ⟨x.1, x.2, e, e2, rfl⟩
    · cases q
  · cases q
theorem acpI_inv {h : pH} {a : Nat} {sp : Int32} {b : Nat} {dp n : Int32} {h2 : pH} (q : acpI h a sp b dp n = some h2) : ∃ k f k2 g, h a = .inl (0, k, .inl f) ∧ h b = .inl (0, k2, .inl g) ∧ ¬ sp < 0 ∧ ¬ dp < 0 ∧ ¬ n < 0 ∧ sp.toNatClampNeg + n.toNatClampNeg ≤ k ∧ dp.toNatClampNeg + n.toNatClampNeg ≤ k2 ∧ h2 = va_up h b (.inl (0, k2, .inl (va_cpy f g sp.toNatClampNeg dp.toNatClampNeg n.toNatClampNeg))) := by
  unfold acpI at q
  split at q
  · rename_i u k f v k2 g e e'
    split at q
    · rename_i e2
      cases q
      obtain ⟨rfl, rfl, e3, e4, e5, e6, e7⟩ := e2
      exact ⟨k, f, k2, g, e, e', e3, e4, e5, e6, e7, rfl⟩
    · cases q
  · cases q
theorem pj_inl {x : Nat × vp_A} : (.inl x : pE) ≠ pj := fun q => by cases q
/-! ## fields -/
def fdl (own : String) (idx ci k : Nat) (ty : FieldType) (fin : Bool) : Prop := ∃ (Cn : String) (T : u_T) (N : Nat) (ty0 : Nat → FieldType), vwCl[ci]? = some (Cn, T, N) ∧ (∀ w ∈ u_ws Cn T N, w ∈ bigW) ∧ k < N ∧ Cond.fieldLink own idx (T k).1 (T k).2.1 (T k).2.2.1 ∈ bigW ∧ (∀ k, k < N → parseFieldDescriptor (T k).2.2.1 = some (ty0 k)) ∧ (∀ a, a < N → ∀ b, b < N → a ≠ b → (T a).2.1 ≠ (T b).2.1) ∧ ty0 k = ty ∧ (T k).2.2.2 = fin ∧ (T k).1 = Cn
theorem pj_cl {ci : Nat} {q : vw_C} (h : vwCl[ci]? = some q) (fs : List Value) : (.inr (ci, fs) : pE) ≠ pj := by
  intro e
  cases e
  rw [show vwCl[999]? = none from rfl] at h
  cases h
section JH
variable {X : pX} {G : pG} {Z : pZ} {K : pK} {h h2 : pH} {pc : Nat} {L : List (Nat × Value)} {st : List Value} {own : String} {cc : ByteArray} {nL n0 : Nat} {rm : Room} {rt : Option FieldType}
theorem jj_getI (C : Cx X G own cc nL rm n0 rt) {idx ci k a : Nat} {ty : FieldType} {fin : Bool} {v : Int32} (F : fdl own idx ci k ty fin) (hd : decode cc pc = .ok (.getfield idx, 3)) (hv : getI ci h a k = some v) (kk : J X G Z K h (pc + 3) L (.int v :: st)) : J X G Z K h pc L (.ref a :: st) := by
  obtain ⟨p, l, e, R, s, m, args, below, meth, c⟩ := X
  obtain ⟨hx, hb, hown, hts, hK, hlo, hlk, hm, hR, hrt⟩ := C
  intro H locs ls hW hS hl
  obtain ⟨fs, e1, e2⟩ := getI_inv hv
  obtain ⟨Cn, T, N, ty0, hc, hu, hk, hf, hty, hnm, -, -, -⟩ := F
  have ha : a < K.2.2 := wf_lt hW.2 (by rw [e1]; exact pj_cl hc fs)
  exact va_get (D := G.2.1) (ci := ci) (v := .int v) (C := Cn) (T := T) (N := N) (fs := fs.map (tV G.1)) hx hb hts hu hown hK hW.1 a (by rw [wd_at ha, e1]; rfl) hc k hk (hts _ hf) (fun _ q => q) (by rw [List.getElem?_map, e2]; rfl) hd (kk H locs ls hW hS hl)
theorem jj_getR (C : Cx X G own cc nL rm n0 rt) {idx ci k a : Nat} {ty : FieldType} {fin : Bool} {v : Nat} (F : fdl own idx ci k ty fin) (hd : decode cc pc = .ok (.getfield idx, 3)) (hv : getR ci h a k = some v) (kk : J X G Z K h (pc + 3) L (.ref v :: st)) : J X G Z K h pc L (.ref a :: st) := by
  obtain ⟨p, l, e, R, s, m, args, below, meth, c⟩ := X
  obtain ⟨hx, hb, hown, hts, hK, hlo, hlk, hm, hR, hrt⟩ := C
  intro H locs ls hW hS hl
  obtain ⟨fs, e1, e2⟩ := getR_inv hv
  obtain ⟨Cn, T, N, ty0, hc, hu, hk, hf, hty, hnm, -, -, -⟩ := F
  have ha : a < K.2.2 := wf_lt hW.2 (by rw [e1]; exact pj_cl hc fs)
  exact va_get (D := G.2.1) (ci := ci) (v := .ref (G.1 + v)) (C := Cn) (T := T) (N := N) (fs := fs.map (tV G.1)) hx hb hts hu hown hK hW.1 a (by rw [wd_at ha, e1]; rfl) hc k hk (hts _ hf) (fun _ q => q) (by rw [List.getElem?_map, e2]; rfl) hd (kk H locs ls hW hS hl)
theorem jj_put (C : Cx X G own cc nL rm n0 rt) {idx ci k a : Nat} {ty : FieldType} {v : Value} (F : fdl own idx ci k ty false) (hn : narrow ty (tV G.1 v) = tV G.1 v) (hfit : fits ty (tV G.1 v) = true) (hd : decode cc pc = .ok (.putfield idx, 3)) (hv : putV ci h a k v = some h2) (kk : J X G Z K h2 (pc + 3) L st) : J X G Z K h pc L (v :: .ref a :: st) := by
  obtain ⟨p, l, e, R, s, m, args, below, meth, c⟩ := X
  obtain ⟨hx, hb, hown, hts, hK, hlo, hlk, hm, hR, hrt⟩ := C
  intro H locs ls hW hS hl
  obtain ⟨fs, e1, e2, rfl⟩ := putV_inv hv
  obtain ⟨Cn, T, N, ty0, hc, hu, hk, hf, hty, hnm, hte, hfin, -⟩ := F
  have ha : a < K.2.2 := wf_lt hW.2 (by rw [e1]; exact pj_cl hc fs)
  refine va_put (D := G.2.1) (ci := ci) (v := tV G.1 v) (ty := ty) (C := Cn) (T := T) (N := N) (fs := fs.map (tV G.1)) hx hb hts hu ty0 hty hnm hown hK hW.1 (wd_D G K.2.2 h) hS a (by rw [wd_at ha, e1]; rfl) hc k hk (hts _ hf) (fun _ q => q) hfin (by rw [hty k hk, hte]) hn hfit (by rw [List.length_map]; exact e2) hd (fun H1 locs1 hP1 _ hS1 => ?_)
  refine kk H1 locs1 ls ⟨?_, wf_up hW.2 ha _⟩ hS1 hl
  rw [← wd_set ha]
  have e3 : tE G (.inr (ci, fs.set k v)) = .inr (ci, (fs.map (tV G.1)).set k (tV G.1 v)) := by show Sum.inr (ci, (fs.set k v).map (tV G.1)) = _; rw [List.map_set]
  rw [e3]
  exact hP1
theorem jj_putF (C : Cx X G own cc nL rm n0 rt) {idx ci k a : Nat} {ty : FieldType} {v : Value} (F : fdl own idx ci k ty true) (hO : vwCl[ci]? = some (own, (vwCl.getD ci ("", fun _ => ("", "", "", false), 0)).2)) (hin : X.2.2.2.2.2.2.2.2.1.name = "<init>") (hn : narrow ty (tV G.1 v) = tV G.1 v) (hfit : fits ty (tV G.1 v) = true) (hd : decode cc pc = .ok (.putfield idx, 3)) (hv : putV ci h a k v = some h2) (kk : J X G Z K h2 (pc + 3) L st) : J X G Z K h pc L (v :: .ref a :: st) := by
  obtain ⟨p, l, e, R, s, m, args, below, meth, c⟩ := X
  obtain ⟨hx, hb, hown, hts, hK, hlo, hlk, hm, hR, hrt⟩ := C
  intro H locs ls hW hS hl
  obtain ⟨fs, e1, e2, rfl⟩ := putV_inv hv
  obtain ⟨Cn, T, N, ty0, hc, hu, hk, hf, hty, hnm, hte, hfin, hcn⟩ := F
  have hoc : Cn = own := congrArg (fun q : vw_C => q.1) (Option.some.inj (hc.symm.trans hO))
  have ha : a < K.2.2 := wf_lt hW.2 (by rw [e1]; exact pj_cl hc fs)
  refine va_putF (D := G.2.1) (ci := ci) (v := tV G.1 v) (ty := ty) (C := Cn) (T := T) (N := N) (fs := fs.map (tV G.1)) hx hb hts hu ty0 hty hnm hown hK hW.1 (wd_D G K.2.2 h) hS a (by rw [wd_at ha, e1]; rfl) hc k hk (hts _ hf) (fun _ q => q) hfin hin (by rw [hcn, hoc]) (by rw [hty k hk, hte]) hn hfit (by rw [List.length_map]; exact e2) hd (fun H1 locs1 hP1 _ hS1 => ?_)
  refine kk H1 locs1 ls ⟨?_, wf_up hW.2 ha _⟩ hS1 hl
  rw [← wd_set ha]
  have e3 : tE G (.inr (ci, fs.set k v)) = .inr (ci, (fs.map (tV G.1)).set k (tV G.1 v)) := by show Sum.inr (ci, (fs.set k v).map (tV G.1)) = _; rw [List.map_set]
  rw [e3]
  exact hP1
/-! ## arrays -/
theorem jj_iald (C : Cx X G own cc nL rm n0 rt) {a : Nat} {i v : Int32} (hd : decode cc pc = .ok (.iaload, 1)) (hv : aldI 0 h a i = some v) (kk : J X G Z K h (pc + 1) L (.int v :: st)) : J X G Z K h pc L (.int i :: .ref a :: st) := by
  obtain ⟨p, l, e, R, s, m, args, below, meth, c⟩ := X
  obtain ⟨hx, hb, hown, hts, hK, hlo, hlk, hm, hR, hrt⟩ := C
  intro H locs ls hW hS hl
  obtain ⟨n, f, e1, e2, rfl⟩ := aldI_inv hv
  have ha : a < K.2.2 := wf_lt hW.2 (by rw [e1]; exact pj_inl)
  exact va_iald (D := G.2.1) hx hb hK hW.1 a 0 (by rw [wd_at ha, e1]; rfl) rfl e2 hd (kk H locs ls hW hS hl)
theorem jj_zald (C : Cx X G own cc nL rm n0 rt) {a : Nat} {i v : Int32} (hd : decode cc pc = .ok (.baload, 1)) (hv : aldI 2 h a i = some v) (kk : J X G Z K h (pc + 1) L (.int v :: st)) : J X G Z K h pc L (.int i :: .ref a :: st) := by
  obtain ⟨p, l, e, R, s, m, args, below, meth, c⟩ := X
  obtain ⟨hx, hb, hown, hts, hK, hlo, hlk, hm, hR, hrt⟩ := C
  intro H locs ls hW hS hl
  obtain ⟨n, f, e1, e2, rfl⟩ := aldI_inv hv
  have ha : a < K.2.2 := wf_lt hW.2 (by rw [e1]; exact pj_inl)
  exact va_zald (D := G.2.1) hx hb hK hW.1 a 2 (by rw [wd_at ha, e1]; rfl) rfl e2 hd (kk H locs ls hW hS hl)
theorem jj_lald (C : Cx X G own cc nL rm n0 rt) {a : Nat} {i : Int32} {v : Int64} (hd : decode cc pc = .ok (.laload, 1)) (hv : aldL h a i = some v) (kk : J X G Z K h (pc + 1) L (.long v :: st)) : J X G Z K h pc L (.int i :: .ref a :: st) := by
  obtain ⟨p, l, e, R, s, m, args, below, meth, c⟩ := X
  obtain ⟨hx, hb, hown, hts, hK, hlo, hlk, hm, hR, hrt⟩ := C
  intro H locs ls hW hS hl
  obtain ⟨n, f, e1, e2, rfl⟩ := aldL_inv hv
  have ha : a < K.2.2 := wf_lt hW.2 (by rw [e1]; exact pj_inl)
  exact va_lald (D := G.2.1) hx hb hK hW.1 a 1 (by rw [wd_at ha, e1]; rfl) rfl e2 hd (kk H locs ls hW hS hl)
theorem jj_aald (C : Cx X G own cc nL rm n0 rt) {a : Nat} {i : Int32} {v : Nat} (t : Nat) {Cn : String} (ht : (tyL G.2.2)[t]? = some (G.2.2 t, .object Cn)) (hd : decode cc pc = .ok (.aaload, 1)) (hv : aldR t h a i = some v) (kk : J X G Z K h (pc + 1) L (.ref v :: st)) : J X G Z K h pc L (.int i :: .ref a :: st) := by
  obtain ⟨p, l, e, R, s, m, args, below, meth, c⟩ := X
  obtain ⟨hx, hb, hown, hts, hK, hlo, hlk, hm, hR, hrt⟩ := C
  intro H locs ls hW hS hl
  obtain ⟨n, f, e1, e2, e3⟩ := aldR_inv hv
  have ha : a < K.2.2 := wf_lt hW.2 (by rw [e1]; exact pj_inl)
  refine va_aldq (D := G.2.1) (f := fun i => (f i).map (fun a => G.1 + a)) hx hb hK hW.1 a t (by rw [wd_at ha, e1]; rfl) ht e2 hd ?_
  rw [e3]
  exact kk H locs ls hW hS hl
theorem jj_alen (C : Cx X G own cc nL rm n0 rt) {a : Nat} {v : Int32} (hd : decode cc pc = .ok (.arraylength, 1)) (hv : alen h a = some v) (kk : J X G Z K h (pc + 1) L (.int v :: st)) : J X G Z K h pc L (.ref a :: st) := by
  obtain ⟨p, l, e, R, s, m, args, below, meth, c⟩ := X
  obtain ⟨hx, hb, hown, hts, hK, hlo, hlk, hm, hR, hrt⟩ := C
  intro H locs ls hW hS hl
  obtain ⟨t, x, e1, e2, rfl⟩ := alen_inv hv
  have ha : a < K.2.2 := wf_lt hW.2 (by rw [e1]; exact pj_inl)
  obtain ⟨ty, ht⟩ : ∃ ty, (tyL G.2.2)[t]? = some (G.2.2 t, ty) := by
    match t, e2 with
    | 0, _ => exact ⟨_, rfl⟩
    | 1, _ => exact ⟨_, rfl⟩
    | 2, _ => exact ⟨_, rfl⟩
    | 3, _ => exact ⟨_, rfl⟩
    | 4, _ => exact ⟨_, rfl⟩
    | 5, _ => exact ⟨_, rfl⟩
    | t + 6, q => exact absurd q (by omega)
  refine va_alen (D := G.2.1) (x := tA G.1 x) hx hb hK hW.1 a t (by rw [wd_at ha, e1]; rfl) ht ?_ hd (kk H locs ls hW hS hl)
  obtain ⟨n, f | f | f | f | f⟩ := x <;> rfl
theorem jj_iast (C : Cx X G own cc nL rm n0 rt) {a : Nat} {i x : Int32} (hd : decode cc pc = .ok (.iastore, 1)) (hv : astI 0 h a i x = some h2) (kk : J X G Z K h2 (pc + 1) L st) : J X G Z K h pc L (.int x :: .int i :: .ref a :: st) := by
  obtain ⟨p, l, e, R, s, m, args, below, meth, c⟩ := X
  obtain ⟨hx, hb, hown, hts, hK, hlo, hlk, hm, hR, hrt⟩ := C
  intro H locs ls hW hS hl
  obtain ⟨n, f, e1, e2, rfl⟩ := astI_inv hv
  have ha : a < K.2.2 := wf_lt hW.2 (by rw [e1]; exact pj_inl)
  refine va_iast (D := G.2.1) hx hb hK hW.1 (wd_D G K.2.2 h) hS a 0 (by rw [wd_at ha, e1]; rfl) rfl e2 hd (fun H1 locs1 hP1 _ hS1 => ?_)
  refine kk H1 locs1 ls ⟨?_, wf_up hW.2 ha _⟩ hS1 hl
  rw [← wd_set ha]
  exact hP1
theorem jj_zast (C : Cx X G own cc nL rm n0 rt) {a : Nat} {i x : Int32} (hd : decode cc pc = .ok (.bastore, 1)) (hv : astI 2 h a i (vp_nar .boolean x) = some h2) (kk : J X G Z K h2 (pc + 1) L st) : J X G Z K h pc L (.int x :: .int i :: .ref a :: st) := by
  obtain ⟨p, l, e, R, s, m, args, below, meth, c⟩ := X
  obtain ⟨hx, hb, hown, hts, hK, hlo, hlk, hm, hR, hrt⟩ := C
  intro H locs ls hW hS hl
  obtain ⟨n, f, e1, e2, rfl⟩ := astI_inv hv
  have ha : a < K.2.2 := wf_lt hW.2 (by rw [e1]; exact pj_inl)
  refine va_zast (D := G.2.1) hx hb hK hW.1 (wd_D G K.2.2 h) hS a 2 (by rw [wd_at ha, e1]; rfl) rfl e2 hd (fun H1 locs1 hP1 _ hS1 => ?_)
  refine kk H1 locs1 ls ⟨?_, wf_up hW.2 ha _⟩ hS1 hl
  rw [← wd_set ha]
  exact hP1
theorem jj_last (C : Cx X G own cc nL rm n0 rt) {a : Nat} {i : Int32} {x : Int64} (hd : decode cc pc = .ok (.lastore, 1)) (hv : astL h a i x = some h2) (kk : J X G Z K h2 (pc + 1) L st) : J X G Z K h pc L (.long x :: .int i :: .ref a :: st) := by
  obtain ⟨p, l, e, R, s, m, args, below, meth, c⟩ := X
  obtain ⟨hx, hb, hown, hts, hK, hlo, hlk, hm, hR, hrt⟩ := C
  intro H locs ls hW hS hl
  obtain ⟨n, f, e1, e2, rfl⟩ := astL_inv hv
  have ha : a < K.2.2 := wf_lt hW.2 (by rw [e1]; exact pj_inl)
  refine va_last (D := G.2.1) hx hb hK hW.1 (wd_D G K.2.2 h) hS a 1 (by rw [wd_at ha, e1]; rfl) rfl e2 hd (fun H1 locs1 hP1 _ hS1 => ?_)
  refine kk H1 locs1 ls ⟨?_, wf_up hW.2 ha _⟩ hS1 hl
  rw [← wd_set ha]
  exact hP1
theorem jj_aast (C : Cx X G own cc nL rm n0 rt) {a b : Nat} {i : Int32} (t ci : Nat) {q : vw_C} (hc : vwCl[ci]? = some q) (ht : (tyL G.2.2)[t]? = some (G.2.2 t, .object q.1)) (hd : decode cc pc = .ok (.aastore, 1)) (hv : astR t ci h a i b = some h2) (kk : J X G Z K h2 (pc + 1) L st) : J X G Z K h pc L (.ref b :: .int i :: .ref a :: st) := by
  obtain ⟨p, l, e, R, s, m, args, below, meth, c⟩ := X
  obtain ⟨hx, hb, hown, hts, hK, hlo, hlk, hm, hR, hrt⟩ := C
  intro H locs ls hW hS hl
  obtain ⟨n, f, e1, e2, e3, rfl⟩ := astR_inv hv
  obtain ⟨fs, e4⟩ := chk_inv e3
  have ha : a < K.2.2 := wf_lt hW.2 (by rw [e1]; exact pj_inl)
  have hb2 : b < K.2.2 := wf_lt hW.2 (by rw [e4]; exact pj_cl hc fs)
  refine va_astq (D := G.2.1) (f := fun i => (f i).map (fun a => G.1 + a)) (v := G.1 + b) hx hb hK hW.1 (wd_D G K.2.2 h) hS a t b ci (r := q) (vs := fs.map (tV G.1)) (by rw [wd_at ha, e1]; rfl) ht (by rw [wd_at hb2, e4]; rfl) hc e2 hd (fun H1 locs1 hP1 _ hS1 => ?_)
  refine kk H1 locs1 ls ⟨?_, wf_up hW.2 ha _⟩ hS1 hl
  rw [← wd_set ha]
  have e5 : (fun j => ((va_up f i.toNatClampNeg (some b)) j).map (fun a => G.1 + a)) = va_up (fun j => (f j).map (fun a => G.1 + a)) i.toNatClampNeg (some (G.1 + b)) := by
    funext j
    by_cases hj : j = i.toNatClampNeg
    · simp [va_up, hj]
    · simp [va_up, hj]
  have e6 : tE G (.inl (t, n, .inr (.inr (.inr (.inr (va_up f i.toNatClampNeg (some b))))))) = .inl (G.2.2 t, n, .inr (.inr (.inr (.inr (va_up (fun j => (f j).map (fun a => G.1 + a)) i.toNatClampNeg (some (G.1 + b))))))) := by rw [← e5]; rfl
  rw [e6]
  exact hP1
theorem jj_acp (C : Cx X G own cc nL rm n0 rt) {idx a b : Nat} {sp dp n : Int32} (hlk : Cond.methodLink own idx arraycopyName ∈ bigW) (hfr : 1 ≤ rm.frames) (hlc : (st.map fun v => v.category).sum + (nativeFrameWords "java/lang/System" "arraycopy" 5 + 11) ≤ rm.locals) (hd : decode cc pc = .ok (.invokestatic idx, 3)) (hv : acpI h a sp b dp n = some h2) (kk : J X G Z K h2 (pc + 3) L st) : J X G Z K h pc L (.int n :: .int dp :: .ref b :: .int sp :: .ref a :: st) := by
  obtain ⟨p, l, e, R, s, m, args, below, meth, c⟩ := X
  obtain ⟨hx, hb, hown, hts, hK, hlo, hlk0, hm, hR, hrt⟩ := C
  intro H locs ls hW hS hl
  obtain ⟨k, f, k2, g, e1, e2, e3, e4, e5, e6, e7, rfl⟩ := acpI_inv hv
  have ha : a < K.2.2 := wf_lt hW.2 (by rw [e1]; exact pj_inl)
  have hb2 : b < K.2.2 := wf_lt hW.2 (by rw [e2]; exact pj_inl)
  refine va_copyi (D := G.2.1) (ty := .int) hx hb hl.1.symm hown (hts _ hlk) (hts _ na_arraycopyName) (hts _ st_arraycopyName) (hts _ ini_J10) hK hW.1 (wd_D G K.2.2 h) hS a b 0 0 (by rw [wd_at ha, e1]; rfl) (by rw [wd_at hb2, e2]; rfl) rfl rfl rfl e3 e4 e5 e6 e7 (fun _ _ => rfl) (by rw [hR]; exact hfr) (by rw [hR, tV_cats]; exact hlc) hd (fun H1 locs1 hP1 _ hS1 => ?_)
  refine kk H1 locs1 ls ⟨?_, wf_up hW.2 hb2 _⟩ hS1 hl
  rw [← wd_set hb2]
  exact hP1
theorem jj_max (C : Cx X G own cc nL rm n0 rt) {idx : Nat} {x y : Int32} (hlk : Cond.methodLink own idx yJ9_max_7cf53 ∈ bigW) (hfr : 1 ≤ rm.frames) (hlc : (st.map fun v => v.category).sum + 13 ≤ rm.locals) (hc : K.1 ≤ rm.cells) (hs : K.2.1 ≤ rm.slots) (hd : decode cc pc = .ok (.invokestatic idx, 3)) (kk : J X G Z K h (pc + 3) L (.int (if x < y then y else x) :: st)) : J X G Z K h pc L (.int y :: .int x :: st) := by
  obtain ⟨p, l, e, R, s, m, args, below, meth, c⟩ := X
  obtain ⟨hx, hb, hown, hts, hK, hlo, hlk0, hm, hR, hrt⟩ := C
  intro H locs ls hW hS hl
  exact va_mmax hx hb hl.1.symm hown (hts _ hlk) (hts _ st_J9_max_7cf53) (hts _ ini_J9) (hts _ co_J9_max_7cf53) (by rw [hR]; exact hfr) (by rw [hR, tV_cats]; exact hlc) (by rw [hR]; exact hc) (by rw [hR]; exact hs) hd (kk H locs ls hW hS hl)
theorem jj_min (C : Cx X G own cc nL rm n0 rt) {idx : Nat} {x y : Int32} (hlk : Cond.methodLink own idx yJ9_min_7cf53 ∈ bigW) (hfr : 1 ≤ rm.frames) (hlc : (st.map fun v => v.category).sum + 13 ≤ rm.locals) (hc : K.1 ≤ rm.cells) (hs : K.2.1 ≤ rm.slots) (hd : decode cc pc = .ok (.invokestatic idx, 3)) (kk : J X G Z K h (pc + 3) L (.int (if y < x then y else x) :: st)) : J X G Z K h pc L (.int y :: .int x :: st) := by
  obtain ⟨p, l, e, R, s, m, args, below, meth, c⟩ := X
  obtain ⟨hx, hb, hown, hts, hK, hlo, hlk0, hm, hR, hrt⟩ := C
  intro H locs ls hW hS hl
  exact va_mmin hx hb hl.1.symm hown (hts _ hlk) (hts _ st_J9_min_7cf53) (hts _ ini_J9) (hts _ co_J9_min_7cf53) (by rw [hR]; exact hfr) (by rw [hR, tV_cats]; exact hlc) (by rw [hR]; exact hc) (by rw [hR]; exact hs) hd (kk H locs ls hW hS hl)
end JH
end
section
/-! new cells, calls, returns, the entry -/
theorem pW_push {G : pG} {n : Nat} {h : pH} {H H1 : Heap} {e : pE} (hW : pW G n h H) (hz : H.size = G.1 + n) (ho : ∀ q, q < G.1 + n → H1[q]? = H[q]?) (he : va_at G.2.1 vwCl (G.1 + n, tE G e) H1) : pW G (n + 1) (va_up h n e) H1 := by
  refine ⟨?_, wf_push hW.2 e⟩
  rw [← wd_push]
  refine va_P.app (hW.1.kept (fun k q hk => ho _ (by rw [← hz]; exact (hW.1 k q hk).lt))) (fun k q hk => ?_)
  have hz : k < 1 := (List.getElem?_eq_some_iff.mp hk).1
  rw [show k = 0 by omega] at hk
  cases hk
  exact he
theorem sz_of {p : Program} {l : Launch} {e : Env} {R : Room} {s : State} {m : MethodId} {args : Array Value} {below : List Frame} {meth : Method} {c : Code} {T : State} {locs : List Loc} {cells slots : Nat} {G : pG} {n n0 : Nat} {h : pH} {H : Heap} (hT : T.heap = H) (X : Stand p l e R s m args below meth c T locs cells slots) (hlo : s.heap.size = G.1 + n0) (hW : pW G n h H) (hS : s.heap.size ≤ H.size) (hn : n = n0 + cells) : H.size = G.1 + n := by
  have h1 : T.heap.size ≤ s.heap.size + cells := X.same.2.2.1
  rw [hT] at h1
  rcases Nat.eq_zero_or_pos n with q | q
  · omega
  · have h2 := (hW.1 (n - 1) _ (wd_at (by omega))).lt
    have h3 : G.1 + (n - 1) < H.size := h2
    omega
section JN
variable {X : pX} {G : pG} {Z : pZ} {K K2 : pK} {h h2 : pH} {pc : Nat} {L : List (Nat × Value)} {st st2 st3 : List Value} {own : String} {cc : ByteArray} {nL n0 : Nat} {rm : Room} {rt : Option FieldType}
theorem jj_new (C : Cx X G own cc nL rm n0 rt) {idx ci N : Nat} {Cn : String} {T : u_T} {ty0 : Nat → FieldType} (hc : vwCl[ci]? = some (Cn, T, N)) (hu : ∀ w ∈ u_ws Cn T N, w ∈ bigW) (hty : ∀ k, k < N → parseFieldDescriptor (T k).2.2.1 = some (ty0 k)) (hcl : Cond.classLink own idx Cn ∈ bigW) (hin : Cond.instantiable Cn N ∈ bigW) (hini : Cond.initialized Cn ∈ bigW) (fs : List Value) (hfs : ∀ j, j < N → defaultValue (ty0 j) = vp_V fs j) (htv : fs.map (tV G.1) = fs)
    (hn : K.2.2 = n0 + K.1) (hcells : K.1 + 1 ≤ rm.cells) (hslots : K.2.1 + N ≤ rm.slots) (hd : decode cc pc = .ok (.new idx, 3)) (hK2 : (K.1 + 1, K.2.1 + N, K.2.2 + 1) = K2) (kk : J X G Z K2 (va_up h K.2.2 (.inr (ci, fs))) (pc + 3) L (.ref K.2.2 :: st)) : J X G Z K h pc L st := by
  obtain ⟨p, l, e, R, s, m, args, below, meth, c⟩ := X
  obtain ⟨hx, hb, hown, hts, hK, hlo, hlk, hm, hR, hrt⟩ := C
  intro H locs ls hW hS hl S0 hT XT
  have hsz := sz_of hT XT hlo hW hS.1 hn
  subst hK2
  subst hR
  have hKn := hK.1 ci _ hc
  refine W.newcK hx hb hown (hts _ hcl) (hts _ hin) (hts _ hini) (g := F0 m pc ls (st.map (tV G.1))) rfl hd hcells hslots hKn.2.1 hsz (fun H1 kC hkC e1 z1 o1 => ?_) S0 hT XT
  refine kk H1 locs ls (pW_push hW hsz o1 ?_) ⟨Nat.le_trans hS.1 (by omega), fun x h1 h2 => (o1 x (by omega)).trans (hS.2.1 x h1 h2), hS.2.2⟩ hl
  refine ⟨_, hc, (u_born ty0 hts hu hKn hkC e1 hty).to ?_⟩
  show ∀ k, k < N → defaultValue (ty0 k) = vp_V (fs.map (tV G.1)) k
  rw [htv]
  exact hfs
theorem jj_newa (C : Cx X G own cc nL rm n0 rt) (t : Nat) {atype : ArrayType} {ty : FieldType} (hty : newarray.typeOf atype = ty) (hac : Cond.arrayClass ty ∈ bigW) (ht : (tyL G.2.2)[t]? = some (G.2.2 t, ty)) (hra : ∀ (U : State) (cA : ClassId), va_RA U cA ty → U.vm.findClass ("[" ++ ty.toString) = some cA) {n : Int32} {N : Nat} (a0 : vp_A) (ha : ∀ cA : ClassId, vp_cell cA a0 = arrV cA N (fun _ => defaultValue ty)) (hta : tA G.1 a0 = a0) (hn0 : ¬ n < 0) (hN : n.toNatClampNeg = N) (hby : N * componentBytes ty ≤ 536870912)
    (hn : K.2.2 = n0 + K.1) (hcells : K.1 + 1 ≤ rm.cells) (hslots : K.2.1 + N ≤ rm.slots) (hd : decode cc pc = .ok (.newarray atype, 2)) (hK2 : (K.1 + 1, K.2.1 + N, K.2.2 + 1) = K2) (kk : J X G Z K2 (va_up h K.2.2 (.inl (t, a0))) (pc + 2) L (.ref K.2.2 :: st)) : J X G Z K h pc L (.int n :: st) := by
  obtain ⟨p, l, e, R, s, m, args, below, meth, c⟩ := X
  obtain ⟨hx, hb, hown, hts, hK, hlo, hlk, hm, hR, hrt⟩ := C
  intro H locs ls hW hS hl S0 hT XT
  have hsz := sz_of hT XT hlo hW hS.1 hn
  subst hK2
  subst hR
  subst hty
  refine va_newaK hx hb (hts _ hac) (g := F0 m pc ls (.int n :: st.map (tV G.1))) rfl hd rfl hn0 hN hby hcells hslots hsz (fun H1 cA e1 z1 o1 hAr hNm => ?_) S0 hT XT
  have hcA : cA = G.2.2 t := Option.some.inj (hNm.symm.trans (hra s _ (hK.2 t _ ht).2))
  subst hcA
  refine kk H1 locs ls (pW_push hW hsz o1 ?_) ⟨Nat.le_trans hS.1 (by omega), fun x h1 h2 => (o1 x (by omega)).trans (hS.2.1 x h1 h2), hS.2.2⟩ hl
  show H1[G.1 + K.2.2]? = some (vp_cell (G.2.2 t) (tA G.1 a0))
  rw [hta, ha]
  exact e1
theorem jj_anew (C : Cx X G own cc nL rm n0 rt) (t : Nat) {idx : Nat} {Cn : String} (hcl : Cond.classLink own idx Cn ∈ bigW) (hao : Cond.arrayOver (.object Cn) ∈ bigW) (ht : (tyL G.2.2)[t]? = some (G.2.2 t, .object Cn)) {n : Int32} {N : Nat} (hn0 : ¬ n < 0) (hN : n.toNatClampNeg = N) (hby : N * 4 ≤ 536870912)
    (hn : K.2.2 = n0 + K.1) (hcells : K.1 + 1 ≤ rm.cells) (hslots : K.2.1 + N ≤ rm.slots) (hd : decode cc pc = .ok (.anewarray idx, 3)) (hK2 : (K.1 + 1, K.2.1 + N, K.2.2 + 1) = K2) (kk : J X G Z K2 (va_up h K.2.2 (.inl (t, N, .inr (.inr (.inr (.inr (fun _ => none))))))) (pc + 3) L (.ref K.2.2 :: st)) : J X G Z K h pc L (.int n :: st) := by
  obtain ⟨p, l, e, R, s, m, args, below, meth, c⟩ := X
  obtain ⟨hx, hb, hown, hts, hK, hlo, hlk, hm, hR, hrt⟩ := C
  intro H locs ls hW hS hl S0 hT XT
  have hsz := sz_of hT XT hlo hW hS.1 hn
  subst hK2
  subst hR
  subst hN
  refine W.anew hx hb hown (hts _ hcl) (hts _ hao) (g := F0 m pc ls (.int n :: st.map (tV G.1))) rfl hd rfl hn0 hby hcells hslots (fun cA kA comp f1 f2 f3 f4 => ?_) S0 hT XT
  have hcA : cA = G.2.2 t := by
    obtain ⟨kA2, comp2, g1, g2, g3, g4⟩ := (hK.2 t _ ht).2
    exact Option.some.inj (f1.symm.trans g4)
  subst hcA
  generalize hH1 : H.push ({ cls := G.2.2 t, slots := Array.replicate n.toNatClampNeg .null, vm := .none } : Cell) = H1
  have z1 : H1.size = H.size + 1 := by rw [← hH1, Array.size_push]
  have e1 : H1[H.size]? = some (arrV (G.2.2 t) n.toNatClampNeg (fun _ => .null)) := by rw [← hH1, Array.getElem?_push_size, ← arrV_new]
  have o1 : ∀ q : Nat, q < H.size → H1[q]? = H[q]? := fun q hq => by rw [← hH1, Array.getElem?_push, if_neg (Nat.ne_of_lt hq)]
  rw [hsz] at e1 o1 ⊢
  refine kk H1 locs ls (pW_push hW hsz o1 ?_) ⟨Nat.le_trans hS.1 (by omega), fun x h1 h2 => (o1 x (by omega)).trans (hS.2.1 x h1 h2), hS.2.2⟩ hl
  exact e1
theorem jj_objInit (C : Cx X G own cc nL rm n0 rt) {idx a : Nat} (hml : Cond.methodLink own idx objectInit ∈ bigW) (hfr : 1 ≤ rm.frames) (hlc : (st.map fun v => v.category).sum + 12 ≤ rm.locals) (hd : decode cc pc = .ok (.invokespecial idx, 3)) (kk : J X G Z K h (pc + 3) L st) : J X G Z K h pc L (.ref a :: st) := by
  obtain ⟨p, l, e, R, s, m, args, below, meth, c⟩ := X
  obtain ⟨hx, hb, hown, hts, hK, hlo, hlk, hm, hR, hrt⟩ := C
  intro H locs ls hW hS hl
  subst hR
  refine W.objInit hx hb hown (hts _ hml) (hts _ im_objectInit) (hts _ co_objectInit) (g := F0 m pc ls (.ref (G.1 + a) :: st.map (tV G.1))) rfl hl.1 rfl hd hfr ?_ (kk H locs ls hW hS hl)
  rw [tV_cats]
  show 2 * 0 + _ + 12 ≤ _
  omega
/-! ## calls -/
theorem jj_back {p : Program} {l : Launch} {e : Env} {R : Room} {s : State} {m : MethodId} {args : Array Value} {below : List Frame} {meth : Method} {c : Code} {H : Heap} {locs : List Loc} {cells slots mc ms : Nat} {Q : State → Prop} {ls : Array Slot} {rest st0 : List Value} {a : Array Value} {r : Option Value} {n1 : Nat} {h1 : pH}
    (hr : va_Run p l e R s m args below meth c H locs cells slots mc ms (F0 m pc ls st0) rest (QR G r n1 h1 a) (fun q => G.1 ≤ q)) (hS : va_S (fun q => G.1 ≤ q) s.heap H locs)
    (kk : ∀ (H1 : Heap) (locs1 : List Loc), pW G n1 h1 H1 → va_S (fun q => G.1 ≤ q) s.heap H1 locs1 → W p l e R s m args below meth c H1 locs1 (cells + mc) (slots + ms) Q (F0 m (pc + 3) ls ((r.map (tV G.1)).toList ++ rest))) : W p l e R s m args below meth c H locs cells slots Q (F0 m pc ls st0) := by
  intro T hT X
  obtain ⟨v, st₀, t, T', Lx, h0, X', hL, e1, e2, ⟨hv, hp, hz, hk⟩, sx⟩ := hr T hT X
  cases hv
  rw [h0] at hz hk
  obtain ⟨t2, a1, b1⟩ := kk T'.heap (locs ++ Lx) (by rw [e1]; exact hp) ⟨Nat.le_trans hS.1 (by rw [e1]; exact hz), fun q h1 h2 => by rw [e1, hk q (Nat.lt_of_lt_of_le h1 hS.1) h2]; exact hS.2.1 q h1 h2, fun q hq => by
      rcases List.mem_append.mp hq with h | h
      · exact hS.2.2 q h
      · exact hL q h⟩ T' rfl X'
  exact ⟨t2, sx t2 a1, b1⟩
def okD (y : MethodName) (np : Nat) : Prop := y.cls ≠ "java/lang/invoke/MethodHandle" ∧ y.cls ≠ "java/lang/invoke/VarHandle" ∧ (parseMethodDescriptor y.desc).map (fun d => d.parameters.length) = some np
def lkV (own : String) (idx ci : Nat) (y : MethodName) (b : ByteArray) (mL : Nat) (ret : Option FieldType) (np : Nat) : Prop := Cond.methodLink own idx y ∈ bigW ∧ Cond.instanceMethod y ∈ bigW ∧ Cond.selects y.cls y y ∈ bigW ∧ Cond.initialized y.cls ∈ bigW ∧ Cond.code y b mL ret ∈ bigW ∧ okD y np ∧ ∃ q : vw_C, vwCl[ci]? = some q ∧ q.1 = y.cls
def lkS (own : String) (idx : Nat) (y : MethodName) (b : ByteArray) (mL : Nat) (ret : Option FieldType) (np : Nat) : Prop := Cond.methodLink own idx y ∈ bigW ∧ Cond.static y ∈ bigW ∧ Cond.initialized y.cls ∈ bigW ∧ Cond.code y b mL ret ∈ bigW ∧ okD y np
def lkSN (own : String) (idx : Nat) (y : MethodName) (b : ByteArray) (mL : Nat) (ret : Option FieldType) (np : Nat) : Prop := (∃ host : String, Cond.methodLinkNest own idx y host ∈ bigW) ∧ Cond.static y ∈ bigW ∧ Cond.initialized y.cls ∈ bigW ∧ Cond.code y b mL ret ∈ bigW ∧ okD y np
def lkI (own : String) (idx : Nat) (y : MethodName) (b : ByteArray) (mL np : Nat) : Prop := Cond.methodLink own idx y ∈ bigW ∧ Cond.instanceMethod y ∈ bigW ∧ Cond.initialized y.cls ∈ bigW ∧ Cond.code y b mL none ∈ bigW ∧ okD y np ∧ y.name = "<init>"
def lkIN (own : String) (idx : Nat) (y : MethodName) (b : ByteArray) (mL np : Nat) : Prop := (∃ host : String, Cond.methodLinkNest own idx y host ∈ bigW) ∧ Cond.instanceMethod y ∈ bigW ∧ Cond.initialized y.cls ∈ bigW ∧ Cond.code y b mL none ∈ bigW ∧ okD y np ∧ y.name = "<init>"
theorem cb_of {R : Room} {s : State} {args : Array Value} {own : String} {idx : Nat} {y : MethodName} {b : ByteArray} {mL : Nat} {ret : Option FieldType} {rm2 : Room} {np : Nat} (hts : ∀ w ∈ bigW, w.before args s = true) (hco : Cond.code y b mL ret ∈ bigW) (hini : Cond.initialized y.cls ∈ bigW) (hml : Cond.methodLink own idx y ∈ bigW) (hd : okD y np) (hR : rm2.frames + 1 ≤ R.frames ∧ 8 + (mL + 11) + rm2.locals ≤ R.locals) : CallB R s args own idx y b mL ret [Cond.code y b mL ret] rm2 rm2.cells rm2.slots np := by
  refine ⟨rfl, rfl, hR.1, hR.2, fun w hw a' U hW => ?_, List.mem_cons_self, hts _ hco, hts _ hini, ⟨hd.1, hd.2.1⟩, fun sig hs => ?_, hts _ hml⟩
  · obtain rfl := List.mem_singleton.mp hw
    exact word_at hW (Or.inl rfl) (hts _ hco)
  · have h2 := hd.2.2
    rw [hs] at h2
    exact (Option.some.inj h2).symm
theorem cn_of {R : Room} {s : State} {args : Array Value} {own host : String} {idx : Nat} {y : MethodName} {b : ByteArray} {mL : Nat} {ret : Option FieldType} {rm2 : Room} {np : Nat} (hts : ∀ w ∈ bigW, w.before args s = true) (hco : Cond.code y b mL ret ∈ bigW) (hini : Cond.initialized y.cls ∈ bigW) (hml : Cond.methodLinkNest own idx y host ∈ bigW) (hd : okD y np) (hR : rm2.frames + 1 ≤ R.frames ∧ 8 + (mL + 11) + rm2.locals ≤ R.locals) : va_CN R s args own idx y host b mL ret [Cond.code y b mL ret] rm2 rm2.cells rm2.slots np := by
  refine ⟨⟨rfl, rfl, hR.1, hR.2, fun w hw a' U hW => ?_, List.mem_cons_self⟩, hts _ hco, hts _ hini, ⟨hd.1, hd.2.1⟩, fun sig hs => ?_, hts _ hml⟩
  · obtain rfl := List.mem_singleton.mp hw
    exact word_at hW (Or.inl rfl) (hts _ hco)
  · have h2 := hd.2.2
    rw [hs] at h2
    exact (Option.some.inj h2).symm
theorem pu_of {s U : State} {args : Array Value} {n : Nat} {H : Heap} (hts : ∀ w ∈ bigW, w.before args s = true) (hK : va_K G.2.1 vwCl (tyL G.2.2) s) (hW : pW G n h H) (hsz : H.size = G.1 + n) (hU : U.heap = H) (hWm : s.WarmedH U.vm) : PU G n h U :=
  ⟨⟨by rw [hU]; exact hW, by rw [hU]; exact hsz⟩, va_K.moved hWm.alike hK, fun w hw => nw_warm hw hWm (nw_of hw (hts w hw))⟩
section CA
variable {idx ci a np mL n1 : Nat} {y : MethodName} {b : ByteArray} {ret : Option FieldType} {rm2 : Room} {r : Option Value} {h1 : pH}
theorem jj_callV (C : Cx X G own cc nL rm n0 rt) (As : List Value) (k : lkV own idx ci y b mL ret np) (M : MC X.2.1 y b mL ret rm2 G (.ref a :: As) K.2.2 h r n1 h1) (hO : chk ci h a = some ()) (hst : As.reverse ++ .ref a :: st = st2) (hnp : As.length = np) (hcat : (st.map fun v => v.category).sum ≤ 8) (hR2 : rm2.frames + 1 ≤ rm.frames ∧ 8 + (mL + 11) + rm2.locals ≤ rm.locals) (hroom : K.1 + rm2.cells ≤ rm.cells ∧ K.2.1 + rm2.slots ≤ rm.slots) (hn : K.2.2 = n0 + K.1) (hd : decode cc pc = .ok (.invokevirtual idx, 3)) (hK2 : (K.1 + rm2.cells, K.2.1 + rm2.slots, n1) = K2) (hs3 : r.toList ++ st = st3) (kk : J X G Z K2 h1 (pc + 3) L st3) : J X G Z K h pc L st2 := by
  obtain ⟨p, l, e, R, s, m, args, below, meth, c⟩ := X
  obtain ⟨hx, hb, hown, hts, hK, hlo, hlk, hm, hR, hrt⟩ := C
  obtain ⟨k1, k2, k3, k4, k5, k6, q, k7, k8⟩ := k
  intro H locs ls hW hS hl S0 hT XT
  have hsz := sz_of hT XT hlo hW hS.1 hn
  obtain ⟨fs, e4⟩ := chk_inv hO
  have ha : a < K.2.2 := wf_lt hW.2 (by rw [e4]; exact pj_cl k7 fs)
  subst hK2
  subst hR
  subst hst
  subst hs3
  refine jj_back (va_runV (Ts := bigW) (C := y.cls) (As := As.map (tV G.1)) (rest := st.map (tV G.1)) (b := G.1 + a) ⟨hx, hb, rfl, hown, hts⟩ M ⟨cb_of hts k5 k4 k1 k6 hR2, hts _ k2, hts _ k3⟩ ⟨PU_blind G K.2.2 h _, ?_, fun U hU hWm => ⟨rfl, pu_of hts hK hW hsz hU hWm⟩⟩ rfl (by rw [List.length_map]; exact hnp) hl.1 (by simp [tV, List.map_reverse]) (lv_room (by rw [tV_cats]; exact hcat)) hd hroom) hS (fun H1 locs1 hP1 hS1 => ?_) S0 hT XT
  · rw [← k8]
    exact va_recv (q0 := a) (fs := fs.map (tV G.1)) hK hW.1 k7 (by rw [wd_at ha, e4]; rfl)
  · have := kk H1 locs1 ls hP1 hS1 hl
    rw [List.map_append] at this
    rw [show (Option.map (tV G.1) r).toList = r.toList.map (tV G.1) from by cases r <;> rfl]
    exact this
theorem jj_callS (C : Cx X G own cc nL rm n0 rt) (As : List Value) (k : lkS own idx y b mL ret np) (M : MC X.2.1 y b mL ret rm2 G As K.2.2 h r n1 h1) (hst : As.reverse ++ st = st2) (hnp : As.length = np) (hcat : (st.map fun v => v.category).sum ≤ 8) (hR2 : rm2.frames + 1 ≤ rm.frames ∧ 8 + (mL + 11) + rm2.locals ≤ rm.locals) (hroom : K.1 + rm2.cells ≤ rm.cells ∧ K.2.1 + rm2.slots ≤ rm.slots) (hn : K.2.2 = n0 + K.1) (hd : decode cc pc = .ok (.invokestatic idx, 3)) (hK2 : (K.1 + rm2.cells, K.2.1 + rm2.slots, n1) = K2) (hs3 : r.toList ++ st = st3) (kk : J X G Z K2 h1 (pc + 3) L st3) : J X G Z K h pc L st2 := by
  obtain ⟨p, l, e, R, s, m, args, below, meth, c⟩ := X
  obtain ⟨hx, hb, hown, hts, hK, hlo, hlk, hm, hR, hrt⟩ := C
  obtain ⟨k1, k2, k4, k5, k6⟩ := k
  intro H locs ls hW hS hl S0 hT XT
  have hsz := sz_of hT XT hlo hW hS.1 hn
  subst hK2
  subst hR
  subst hst
  subst hs3
  refine jj_back (va_runS (Ts := bigW) (As := As.map (tV G.1)) (rest := st.map (tV G.1)) ⟨hx, hb, rfl, hown, hts⟩ M ⟨cb_of hts k5 k4 k1 k6 hR2, hts _ k2⟩ ⟨PU_blind G K.2.2 h _, fun U hU hWm => ⟨rfl, pu_of hts hK hW hsz hU hWm⟩⟩ rfl (by rw [List.length_map]; exact hnp) hl.1 (by simp [List.map_reverse]) (lv_room (by rw [tV_cats]; exact hcat)) hd hroom) hS (fun H1 locs1 hP1 hS1 => ?_) S0 hT XT
  have := kk H1 locs1 ls hP1 hS1 hl
  rw [List.map_append] at this
  rw [show (Option.map (tV G.1) r).toList = r.toList.map (tV G.1) from by cases r <;> rfl]
  exact this
theorem jj_callSN (C : Cx X G own cc nL rm n0 rt) (As : List Value) (k : lkSN own idx y b mL ret np) (M : MC X.2.1 y b mL ret rm2 G As K.2.2 h r n1 h1) (hst : As.reverse ++ st = st2) (hnp : As.length = np) (hcat : (st.map fun v => v.category).sum ≤ 8) (hR2 : rm2.frames + 1 ≤ rm.frames ∧ 8 + (mL + 11) + rm2.locals ≤ rm.locals) (hroom : K.1 + rm2.cells ≤ rm.cells ∧ K.2.1 + rm2.slots ≤ rm.slots) (hn : K.2.2 = n0 + K.1) (hd : decode cc pc = .ok (.invokestatic idx, 3)) (hK2 : (K.1 + rm2.cells, K.2.1 + rm2.slots, n1) = K2) (hs3 : r.toList ++ st = st3) (kk : J X G Z K2 h1 (pc + 3) L st3) : J X G Z K h pc L st2 := by
  obtain ⟨p, l, e, R, s, m, args, below, meth, c⟩ := X
  obtain ⟨hx, hb, hown, hts, hK, hlo, hlk, hm, hR, hrt⟩ := C
  obtain ⟨⟨host, k1⟩, k2, k4, k5, k6⟩ := k
  intro H locs ls hW hS hl S0 hT XT
  have hsz := sz_of hT XT hlo hW hS.1 hn
  subst hK2
  subst hR
  subst hst
  subst hs3
  refine jj_back (va_runSN (Ts := bigW) (As := As.map (tV G.1)) (rest := st.map (tV G.1)) ⟨hx, hb, rfl, hown, hts⟩ M ⟨cn_of hts k5 k4 k1 k6 hR2, hts _ k2, trivial⟩ ⟨PU_blind G K.2.2 h _, fun U hU hWm => ⟨rfl, pu_of hts hK hW hsz hU hWm⟩⟩ rfl (by rw [List.length_map]; exact hnp) hl.1 (by simp [List.map_reverse]) (lv_room (by rw [tV_cats]; exact hcat)) hd hroom) hS (fun H1 locs1 hP1 hS1 => ?_) S0 hT XT
  have := kk H1 locs1 ls hP1 hS1 hl
  rw [List.map_append] at this
  rw [show (Option.map (tV G.1) r).toList = r.toList.map (tV G.1) from by cases r <;> rfl]
  exact this
theorem jj_callI (C : Cx X G own cc nL rm n0 rt) (As : List Value) (k : lkI own idx y b mL np) (M : MC X.2.1 y b mL none rm2 G (.ref a :: As) K.2.2 h r n1 h1) (hst : As.reverse ++ .ref a :: st = st2) (hnp : As.length = np) (hcat : (st.map fun v => v.category).sum ≤ 8) (hR2 : rm2.frames + 1 ≤ rm.frames ∧ 8 + (mL + 11) + rm2.locals ≤ rm.locals) (hroom : K.1 + rm2.cells ≤ rm.cells ∧ K.2.1 + rm2.slots ≤ rm.slots) (hn : K.2.2 = n0 + K.1) (hd : decode cc pc = .ok (.invokespecial idx, 3)) (hK2 : (K.1 + rm2.cells, K.2.1 + rm2.slots, n1) = K2) (hs3 : r.toList ++ st = st3) (kk : J X G Z K2 h1 (pc + 3) L st3) : J X G Z K h pc L st2 := by
  obtain ⟨p, l, e, R, s, m, args, below, meth, c⟩ := X
  obtain ⟨hx, hb, hown, hts, hK, hlo, hlk, hm, hR, hrt⟩ := C
  obtain ⟨k1, k2, k4, k5, k6, k7⟩ := k
  intro H locs ls hW hS hl S0 hT XT
  have hsz := sz_of hT XT hlo hW hS.1 hn
  subst hK2
  subst hR
  subst hst
  subst hs3
  refine jj_back (va_runI (Ts := bigW) (As := As.map (tV G.1)) (rest := st.map (tV G.1)) (b := G.1 + a) ⟨hx, hb, rfl, hown, hts⟩ M ⟨cb_of hts k5 k4 k1 k6 hR2, k7, hts _ k2⟩ ⟨PU_blind G K.2.2 h _, fun U hU hWm => ⟨rfl, pu_of hts hK hW hsz hU hWm⟩⟩ rfl (by rw [List.length_map]; exact hnp) hl.1 (by simp [tV, List.map_reverse]) (lv_room (by rw [tV_cats]; exact hcat)) hd hroom) hS (fun H1 locs1 hP1 hS1 => ?_) S0 hT XT
  have := kk H1 locs1 ls hP1 hS1 hl
  rw [List.map_append] at this
  rw [show (Option.map (tV G.1) r).toList = r.toList.map (tV G.1) from by cases r <;> rfl]
  exact this
theorem jj_callIN (C : Cx X G own cc nL rm n0 rt) (As : List Value) (k : lkIN own idx y b mL np) (M : MC X.2.1 y b mL none rm2 G (.ref a :: As) K.2.2 h r n1 h1) (hst : As.reverse ++ .ref a :: st = st2) (hnp : As.length = np) (hcat : (st.map fun v => v.category).sum ≤ 8) (hR2 : rm2.frames + 1 ≤ rm.frames ∧ 8 + (mL + 11) + rm2.locals ≤ rm.locals) (hroom : K.1 + rm2.cells ≤ rm.cells ∧ K.2.1 + rm2.slots ≤ rm.slots) (hn : K.2.2 = n0 + K.1) (hd : decode cc pc = .ok (.invokespecial idx, 3)) (hK2 : (K.1 + rm2.cells, K.2.1 + rm2.slots, n1) = K2) (hs3 : r.toList ++ st = st3) (kk : J X G Z K2 h1 (pc + 3) L st3) : J X G Z K h pc L st2 := by
  obtain ⟨p, l, e, R, s, m, args, below, meth, c⟩ := X
  obtain ⟨hx, hb, hown, hts, hK, hlo, hlk, hm, hR, hrt⟩ := C
  obtain ⟨⟨host, k1⟩, k2, k4, k5, k6, k7⟩ := k
  intro H locs ls hW hS hl S0 hT XT
  have hsz := sz_of hT XT hlo hW hS.1 hn
  subst hK2
  subst hR
  subst hst
  subst hs3
  refine jj_back (va_runIN (Ts := bigW) (As := As.map (tV G.1)) (rest := st.map (tV G.1)) (b := G.1 + a) ⟨hx, hb, rfl, hown, hts⟩ M ⟨cn_of hts k5 k4 k1 k6 hR2, k7, hts _ k2⟩ ⟨PU_blind G K.2.2 h _, fun U hU hWm => ⟨rfl, pu_of hts hK hW hsz hU hWm⟩⟩ rfl (by rw [List.length_map]; exact hnp) hl.1 (by simp [tV, List.map_reverse]) (lv_room (by rw [tV_cats]; exact hcat)) hd hroom) hS (fun H1 locs1 hP1 hS1 => ?_) S0 hT XT
  have := kk H1 locs1 ls hP1 hS1 hl
  rw [List.map_append] at this
  rw [show (Option.map (tV G.1) r).toList = r.toList.map (tV G.1) from by cases r <;> rfl]
  exact this
end CA
/-! ## returns -/
theorem jj_iret (C : Cx X G own cc nL rm n0 (some .int)) {v : Int32} (hd : decode cc pc = .ok (.ireturn, 1)) (hZ : Z = (K.1, K.2.1, some (.int v), K.2.2, h)) : J X G Z K h pc L [.int v] := by
  obtain ⟨p, l, e, R, s, m, args, below, meth, c⟩ := X
  obtain ⟨hx, hb, hown, hts, hK, hlo, hlk, hm, hR, hrt⟩ := C
  subst hZ
  intro H locs ls hW hS hl
  exact W.iret hx hb hrt (fun t ht hWm => ⟨rfl, by rw [ht]; exact hW, hS.F ht⟩) hS.2.2 hd hlk
theorem jj_zret (C : Cx X G own cc nL rm n0 (some .boolean)) {v : Int32} (hv : v = 0 ∨ v = 1) (hd : decode cc pc = .ok (.ireturn, 1)) (hZ : Z = (K.1, K.2.1, some (.int v), K.2.2, h)) : J X G Z K h pc L [.int v] := by
  obtain ⟨p, l, e, R, s, m, args, below, meth, c⟩ := X
  obtain ⟨hx, hb, hown, hts, hK, hlo, hlk, hm, hR, hrt⟩ := C
  subst hZ
  intro H locs ls hW hS hl
  exact W.zret hx hb hrt (by rcases hv with rfl | rfl <;> rfl) (fun t ht hWm => ⟨rfl, by rw [ht]; exact hW, hS.F ht⟩) hS.2.2 hd hlk
theorem jj_lret (C : Cx X G own cc nL rm n0 (some .long)) {v : Int64} (hd : decode cc pc = .ok (.lreturn, 1)) (hZ : Z = (K.1, K.2.1, some (.long v), K.2.2, h)) : J X G Z K h pc L [.long v] := by
  obtain ⟨p, l, e, R, s, m, args, below, meth, c⟩ := X
  obtain ⟨hx, hb, hown, hts, hK, hlo, hlk, hm, hR, hrt⟩ := C
  subst hZ
  intro H locs ls hW hS hl
  exact W.lret hx hb hrt (fun t ht hWm => ⟨rfl, by rw [ht]; exact hW, hS.F ht⟩) hS.2.2 hd hlk
theorem jj_vret (C : Cx X G own cc nL rm n0 none) (hd : decode cc pc = .ok (.return_, 1)) (hZ : Z = (K.1, K.2.1, none, K.2.2, h)) : J X G Z K h pc L [] := by
  obtain ⟨p, l, e, R, s, m, args, below, meth, c⟩ := X
  obtain ⟨hx, hb, hown, hts, hK, hlo, hlk, hm, hR, hrt⟩ := C
  subst hZ
  intro H locs ls hW hS hl
  exact W.vret hx hb hrt (fun t ht hWm => ⟨rfl, by rw [ht]; exact hW, hS.F ht⟩) hS.2.2 hd hlk
theorem jj_aret {ft : FieldType} (C : Cx X G own cc nL rm n0 (some ft)) (hft : (∃ q, ft = .object q) ∨ ∃ t, ft = .array t) {v : Nat} (hd : decode cc pc = .ok (.areturn, 1)) (hZ : Z = (K.1, K.2.1, some (.ref v), K.2.2, h)) : J X G Z K h pc L [.ref v] := by
  obtain ⟨p, l, e, R, s, m, args, below, meth, c⟩ := X
  obtain ⟨hx, hb, hown, hts, hK, hlo, hlk, hm, hR, hrt⟩ := C
  subst hZ
  intro H locs ls hW hS hl
  exact W.aret hx hb hrt hft (Or.inr ⟨_, rfl⟩) (fun t ht hWm => ⟨rfl, by rw [ht]; exact hW, hS.F ht⟩) hS.2.2 hd hlk
end JN
/-! ## the entry -/
theorem lv_args_tV (lo : Nat) : ∀ (vs : List Value) (i : Nat), lv_args i (vs.map (tV lo)) = (lv_args i vs).map fun q => (q.1, tV lo q.2)
  | [], i => rfl
  | v :: vs, i => by
    show (i, tV lo v) :: lv_args (if (tV lo v).category = 2 then i + 2 else i + 1) (vs.map (tV lo)) = (i, tV lo v) :: (lv_args (if v.category = 2 then i + 2 else i + 1) vs).map _
    rw [tV_cat, lv_args_tV lo vs]
theorem jj_entry {l : Launch} {y : MethodName} {b : ByteArray} {mL : Nat} {ret : Option FieldType} {rm : Room} {G : pG} {As : List Value} {n : Nat} {h : pH} {r : Option Value} {n1 : Nat} {h1 : pH} (own : String) (ho : y.cls = own) (hy : plainName own = true) (hlen : (lg_sl (As.map (tV G.1))).length ≤ mL)
    (body : ∀ X : pX, X.2.1 = l → X.2.2.2.2.2.2.2.2.1.name = y.name → Cx X G own b mL rm n ret → J X G (rm.cells, rm.slots, r, n1, h1) (0, 0, n) h 0 (lv_args 0 As) []) : MC l y b mL ret rm G As n h r n1 h1 := by
  subst ho
  refine Met.ofW (cc := b) (maxL := mL) (ret := ret) hy rfl ?_
  intro p e s m args below meth c s₁ B hml hv
  obtain ⟨rfl, ⟨hW, hsz⟩, hK, hNw⟩ := hv
  have hown : s.vm.findClass y.cls = some m.cls := findClass_of_methodNamed B.named
  have hname : meth.name = y.name := (name_of_methodNamed B.named B.method).1
  have hl := lv_entry (As.map (tV G.1)) (n := mL) hlen
  rw [lg_entry_eq]
  refine body (p, l, e, _, s, m, _, below, meth, c) rfl hname ⟨B.exec, B.bytes, hown, fun w hw => nw_use hw (hNw w hw), hK, hsz, B.notSynchronized, hml, rfl, B.returns⟩ s.heap [] _ hW va_S.rf ?_
  rw [hml, ← lv_args_tV]
  exact hl
end
section
theorem ob {α β : Type} {o : Option α} {f : α → Option β} {b : β} (h : o.bind f = some b) : ∃ a, o = some a ∧ f a = some b := by
  cases o with
  | none => cases h
  | some a => exact ⟨a, rfl, h⟩
theorem oe {α : Type} {c : Prop} {i : Decidable c} {x : Option α} {b : α} (h : (if c then none else x) = some b) : ¬ c ∧ x = some b := by
  by_cases q : c
  · rw [if_pos q] at h
    cases h
  · rw [if_neg q] at h
    exact ⟨q, h⟩
theorem nz {lo : Nat} {v : Int32} (h : v = 0 ∨ v = 1) : narrow .boolean (tV lo (.int v)) = tV lo (.int v) := by
  rcases h with rfl | rfl <;> rfl
theorem fz {lo : Nat} {v : Int32} (h : v = 0 ∨ v = 1) : fits .boolean (tV lo (.int v)) = true := by
  rcases h with rfl | rfl <;> rfl
theorem i32_ne {x v : Int32} (h : ¬ x = v) : x.toInt ≠ v.toInt := fun e => h (Int32.toInt_inj.mp e)
theorem tb_out4 {x : Int32} (q0 : ¬ x = 0) (q1 : ¬ x = 1) (q2 : ¬ x = 2) (q3 : ¬ x = 3) : x.toInt < 0 ∨ 3 < x.toInt := by
  have h0 : x.toInt ≠ 0 := i32_ne q0
  have h1 : x.toInt ≠ 1 := i32_ne q1
  have h2 : x.toInt ≠ 2 := i32_ne q2
  have h3 : x.toInt ≠ 3 := i32_ne q3
  omega
theorem tb_out6 {x : Int32} (q0 : ¬ x = 0) (q1 : ¬ x = 1) (q2 : ¬ x = 2) (q3 : ¬ x = 3) (q4 : ¬ x = 4) (q5 : ¬ x = 5) : x.toInt < 0 ∨ 5 < x.toInt := by
  have h0 : x.toInt ≠ 0 := i32_ne q0
  have h1 : x.toInt ≠ 1 := i32_ne q1
  have h2 : x.toInt ≠ 2 := i32_ne q2
  have h3 : x.toInt ≠ 3 := i32_ne q3
  have h4 : x.toInt ≠ 4 := i32_ne q4
  have h5 : x.toInt ≠ 5 := i32_ne q5
  omega
theorem jj_table {X : pX} {G : pG} {Z : pZ} {K : pK} {h : pH} {pc : Nat} {L : List (Nat × Value)} {st : List Value} {own : String} {cc : ByteArray} {nL n0 : Nat} {rm : Room} {rt : Option FieldType} (C : Cx X G own cc nL rm n0 rt) {dflt lo hi : Int} {offs : Array Int} {len : Nat} {x : Int32} {off : Int} {tgt : Nat} (hd : decode cc pc = .ok (.tableswitch dflt lo hi offs, len)) (v : Int32) (hv : x = v) (h1 : ¬ v.toInt < lo) (h2 : ¬ hi < v.toInt) (ho : offs[(v.toInt - lo).toNat]? = some off) (ht : (pc : Int) + off = (tgt : Int)) (kk : J X G Z K h tgt L st) : J X G Z K h pc L (.int x :: st) := by
  subst hv
  exact jj_tableIn C hd h1 h2 ho ht kk
theorem fd_X0_15 : fdl RX0 15 0 1 (.array .long) true := ⟨_, _, _, tyX0, rfl, wu_X0, by decide, fl_X0_15, tyX0_ok, nmX0, rfl, rfl, rfl⟩
theorem fd_X0_20 : fdl RX0 20 0 2 (.array .long) false := ⟨_, _, _, tyX0, rfl, wu_X0, by decide, fl_X0_20, tyX0_ok, nmX0, rfl, rfl, rfl⟩
theorem fd_X0_23 : fdl RX0 23 0 3 (.array .long) false := ⟨_, _, _, tyX0, rfl, wu_X0, by decide, fl_X0_23, tyX0_ok, nmX0, rfl, rfl, rfl⟩
theorem fd_X0_32 : fdl RX0 32 0 4 .int false := ⟨_, _, _, tyX0, rfl, wu_X0, by decide, fl_X0_32, tyX0_ok, nmX0, rfl, rfl, rfl⟩
theorem fd_X0_43 : fdl RX0 43 2 5 .int false := ⟨_, _, _, tyX2, rfl, wu_X2, by decide, fl_X0_43, tyX2_ok, nmX2, rfl, rfl, rfl⟩
theorem fd_X0_46 : fdl RX0 46 2 3 (.array .int) true := ⟨_, _, _, tyX2, rfl, wu_X2, by decide, fl_X0_46, tyX2_ok, nmX2, rfl, rfl, rfl⟩
theorem fd_X0_54 : fdl RX0 54 2 6 .int false := ⟨_, _, _, tyX2, rfl, wu_X2, by decide, fl_X0_54, tyX2_ok, nmX2, rfl, rfl, rfl⟩
theorem fd_X0_9 : fdl RX0 9 0 0 (.array .long) true := ⟨_, _, _, tyX0, rfl, wu_X0, by decide, fl_X0_9, tyX0_ok, nmX0, rfl, rfl, rfl⟩
theorem fd_X1_11 : fdl RX1 11 1 0 (.array .int) true := ⟨_, _, _, tyX1, rfl, wu_X1, by decide, fl_X1_11, tyX1_ok, nmX1, rfl, rfl, rfl⟩
theorem fd_X1_15 : fdl RX1 15 1 1 (.array .int) true := ⟨_, _, _, tyX1, rfl, wu_X1, by decide, fl_X1_15, tyX1_ok, nmX1, rfl, rfl, rfl⟩
theorem fd_X1_18 : fdl RX1 18 1 2 (.array .int) true := ⟨_, _, _, tyX1, rfl, wu_X1, by decide, fl_X1_18, tyX1_ok, nmX1, rfl, rfl, rfl⟩
theorem fd_X1_21 : fdl RX1 21 1 3 (.array .boolean) true := ⟨_, _, _, tyX1, rfl, wu_X1, by decide, fl_X1_21, tyX1_ok, nmX1, rfl, rfl, rfl⟩
theorem fd_X1_25 : fdl RX1 25 1 4 (.array .int) true := ⟨_, _, _, tyX1, rfl, wu_X1, by decide, fl_X1_25, tyX1_ok, nmX1, rfl, rfl, rfl⟩
theorem fd_X1_32 : fdl RX1 32 1 5 .int false := ⟨_, _, _, tyX1, rfl, wu_X1, by decide, fl_X1_32, tyX1_ok, nmX1, rfl, rfl, rfl⟩
theorem fd_X1_55 : fdl RX1 55 6 1 .int false := ⟨_, _, _, tyX6, rfl, wu_X6, by decide, fl_X1_55, tyX6_ok, nmX6, rfl, rfl, rfl⟩
theorem fd_X2_13 : fdl RX2 13 2 0 (.array .int) true := ⟨_, _, _, tyX2, rfl, wu_X2, by decide, fl_X2_13, tyX2_ok, nmX2, rfl, rfl, rfl⟩
theorem fd_X2_17 : fdl RX2 17 2 1 (.array .int) true := ⟨_, _, _, tyX2, rfl, wu_X2, by decide, fl_X2_17, tyX2_ok, nmX2, rfl, rfl, rfl⟩
theorem fd_X2_20 : fdl RX2 20 2 2 (.array .int) true := ⟨_, _, _, tyX2, rfl, wu_X2, by decide, fl_X2_20, tyX2_ok, nmX2, rfl, rfl, rfl⟩
theorem fd_X2_23 : fdl RX2 23 2 3 (.array .int) true := ⟨_, _, _, tyX2, rfl, wu_X2, by decide, fl_X2_23, tyX2_ok, nmX2, rfl, rfl, rfl⟩
theorem fd_X2_26 : fdl RX2 26 2 4 (.array .int) true := ⟨_, _, _, tyX2, rfl, wu_X2, by decide, fl_X2_26, tyX2_ok, nmX2, rfl, rfl, rfl⟩
theorem fd_X2_35 : fdl RX2 35 2 5 .int false := ⟨_, _, _, tyX2, rfl, wu_X2, by decide, fl_X2_35, tyX2_ok, nmX2, rfl, rfl, rfl⟩
theorem fd_X2_47 : fdl RX2 47 1 5 .int false := ⟨_, _, _, tyX1, rfl, wu_X1, by decide, fl_X2_47, tyX1_ok, nmX1, rfl, rfl, rfl⟩
theorem fd_X2_55 : fdl RX2 55 2 6 .int false := ⟨_, _, _, tyX2, rfl, wu_X2, by decide, fl_X2_55, tyX2_ok, nmX2, rfl, rfl, rfl⟩
theorem fd_X2_64 : fdl RX2 64 1 1 (.array .int) true := ⟨_, _, _, tyX1, rfl, wu_X1, by decide, fl_X2_64, tyX1_ok, nmX1, rfl, rfl, rfl⟩
theorem fd_X2_67 : fdl RX2 67 1 2 (.array .int) true := ⟨_, _, _, tyX1, rfl, wu_X1, by decide, fl_X2_67, tyX1_ok, nmX1, rfl, rfl, rfl⟩
theorem fd_X2_70 : fdl RX2 70 2 7 .int false := ⟨_, _, _, tyX2, rfl, wu_X2, by decide, fl_X2_70, tyX2_ok, nmX2, rfl, rfl, rfl⟩
theorem fd_X3_15 : fdl RX3 15 3 1 .int false := ⟨_, _, _, tyX3, rfl, wu_X3, by decide, fl_X3_15, tyX3_ok, nmX3, rfl, rfl, rfl⟩
theorem fd_X3_19 : fdl RX3 19 3 2 .int false := ⟨_, _, _, tyX3, rfl, wu_X3, by decide, fl_X3_19, tyX3_ok, nmX3, rfl, rfl, rfl⟩
theorem fd_X3_22 : fdl RX3 22 3 3 .boolean false := ⟨_, _, _, tyX3, rfl, wu_X3, by decide, fl_X3_22, tyX3_ok, nmX3, rfl, rfl, rfl⟩
theorem fd_X3_9 : fdl RX3 9 3 0 (.array .int) true := ⟨_, _, _, tyX3, rfl, wu_X3, by decide, fl_X3_9, tyX3_ok, nmX3, rfl, rfl, rfl⟩
theorem fd_X4_15 : fdl RX4 15 4 1 .boolean false := ⟨_, _, _, tyX4, rfl, wu_X4, by decide, fl_X4_15, tyX4_ok, nmX4, rfl, rfl, rfl⟩
theorem fd_X4_19 : fdl RX4 19 4 2 .int false := ⟨_, _, _, tyX4, rfl, wu_X4, by decide, fl_X4_19, tyX4_ok, nmX4, rfl, rfl, rfl⟩
theorem fd_X4_23 : fdl RX4 23 4 3 .int false := ⟨_, _, _, tyX4, rfl, wu_X4, by decide, fl_X4_23, tyX4_ok, nmX4, rfl, rfl, rfl⟩
theorem fd_X4_9 : fdl RX4 9 4 0 (.array .int) true := ⟨_, _, _, tyX4, rfl, wu_X4, by decide, fl_X4_9, tyX4_ok, nmX4, rfl, rfl, rfl⟩
theorem fd_X5_13 : fdl RX5 13 5 0 (.array (.object "OneLongRow$Word")) false := ⟨_, _, _, tyX5, rfl, wu_X5, by decide, fl_X5_13, tyX5_ok, nmX5, rfl, rfl, rfl⟩
theorem fd_X5_25 : fdl RX5 25 5 1 .int false := ⟨_, _, _, tyX5, rfl, wu_X5, by decide, fl_X5_25, tyX5_ok, nmX5, rfl, rfl, rfl⟩
theorem fd_X5_29 : fdl RX5 29 4 0 (.array .int) true := ⟨_, _, _, tyX4, rfl, wu_X4, by decide, fl_X5_29, tyX4_ok, nmX4, rfl, rfl, rfl⟩
theorem fd_X5_48 : fdl RX5 48 6 1 .int false := ⟨_, _, _, tyX6, rfl, wu_X6, by decide, fl_X5_48, tyX6_ok, nmX6, rfl, rfl, rfl⟩
theorem fd_X5_53 : fdl RX5 53 6 2 .int false := ⟨_, _, _, tyX6, rfl, wu_X6, by decide, fl_X5_53, tyX6_ok, nmX6, rfl, rfl, rfl⟩
theorem fd_X5_56 : fdl RX5 56 6 0 (.array .int) true := ⟨_, _, _, tyX6, rfl, wu_X6, by decide, fl_X5_56, tyX6_ok, nmX6, rfl, rfl, rfl⟩
theorem fd_X6_15 : fdl RX6 15 6 2 .int false := ⟨_, _, _, tyX6, rfl, wu_X6, by decide, fl_X6_15, tyX6_ok, nmX6, rfl, rfl, rfl⟩
theorem fd_X6_19 : fdl RX6 19 6 1 .int false := ⟨_, _, _, tyX6, rfl, wu_X6, by decide, fl_X6_19, tyX6_ok, nmX6, rfl, rfl, rfl⟩
theorem fd_X6_9 : fdl RX6 9 6 0 (.array .int) true := ⟨_, _, _, tyX6, rfl, wu_X6, by decide, fl_X6_9, tyX6_ok, nmX6, rfl, rfl, rfl⟩
theorem fd_X7_109 : fdl RX7 109 7 3 .int false := ⟨_, _, _, tyX7, rfl, wu_X7, by decide, fl_X7_109, tyX7_ok, nmX7, rfl, rfl, rfl⟩
theorem fd_X7_115 : fdl RX7 115 6 2 .int false := ⟨_, _, _, tyX6, rfl, wu_X6, by decide, fl_X7_115, tyX6_ok, nmX6, rfl, rfl, rfl⟩
theorem fd_X7_118 : fdl RX7 118 6 1 .int false := ⟨_, _, _, tyX6, rfl, wu_X6, by decide, fl_X7_118, tyX6_ok, nmX6, rfl, rfl, rfl⟩
theorem fd_X7_125 : fdl RX7 125 7 5 .int false := ⟨_, _, _, tyX7, rfl, wu_X7, by decide, fl_X7_125, tyX7_ok, nmX7, rfl, rfl, rfl⟩
theorem fd_X7_13 : fdl RX7 13 7 0 (.array (.object "OneLongRow$Sheet")) true := ⟨_, _, _, tyX7, rfl, wu_X7, by decide, fl_X7_13, tyX7_ok, nmX7, rfl, rfl, rfl⟩
theorem fd_X7_132 : fdl RX7 132 6 0 (.array .int) true := ⟨_, _, _, tyX6, rfl, wu_X6, by decide, fl_X7_132, tyX6_ok, nmX6, rfl, rfl, rfl⟩
theorem fd_X7_157 : fdl RX7 157 2 7 .int false := ⟨_, _, _, tyX2, rfl, wu_X2, by decide, fl_X7_157, tyX2_ok, nmX2, rfl, rfl, rfl⟩
theorem fd_X7_158 : fdl RX7 158 2 4 (.array .int) true := ⟨_, _, _, tyX2, rfl, wu_X2, by decide, fl_X7_158, tyX2_ok, nmX2, rfl, rfl, rfl⟩
theorem fd_X7_168 : fdl RX7 168 0 0 (.array .long) true := ⟨_, _, _, tyX0, rfl, wu_X0, by decide, fl_X7_168, tyX0_ok, nmX0, rfl, rfl, rfl⟩
theorem fd_X7_172 : fdl RX7 172 0 1 (.array .long) true := ⟨_, _, _, tyX0, rfl, wu_X0, by decide, fl_X7_172, tyX0_ok, nmX0, rfl, rfl, rfl⟩
theorem fd_X7_182 : fdl RX7 182 7 8 .int false := ⟨_, _, _, tyX7, rfl, wu_X7, by decide, fl_X7_182, tyX7_ok, nmX7, rfl, rfl, rfl⟩
theorem fd_X7_20 : fdl RX7 20 7 1 (.object "OneLongRow$Text") true := ⟨_, _, _, tyX7, rfl, wu_X7, by decide, fl_X7_20, tyX7_ok, nmX7, rfl, rfl, rfl⟩
theorem fd_X7_206 : fdl RX7 206 4 1 .boolean false := ⟨_, _, _, tyX4, rfl, wu_X4, by decide, fl_X7_206, tyX4_ok, nmX4, rfl, rfl, rfl⟩
theorem fd_X7_209 : fdl RX7 209 4 3 .int false := ⟨_, _, _, tyX4, rfl, wu_X4, by decide, fl_X7_209, tyX4_ok, nmX4, rfl, rfl, rfl⟩
theorem fd_X7_216 : fdl RX7 216 4 0 (.array .int) true := ⟨_, _, _, tyX4, rfl, wu_X4, by decide, fl_X7_216, tyX4_ok, nmX4, rfl, rfl, rfl⟩
theorem fd_X7_219 : fdl RX7 219 4 2 .int false := ⟨_, _, _, tyX4, rfl, wu_X4, by decide, fl_X7_219, tyX4_ok, nmX4, rfl, rfl, rfl⟩
theorem fd_X7_243 : fdl RX7 243 7 15 .int false := ⟨_, _, _, tyX7, rfl, wu_X7, by decide, fl_X7_243, tyX7_ok, nmX7, rfl, rfl, rfl⟩
theorem fd_X7_249 : fdl RX7 249 5 0 (.array (.object "OneLongRow$Word")) false := ⟨_, _, _, tyX5, rfl, wu_X5, by decide, fl_X7_249, tyX5_ok, nmX5, rfl, rfl, rfl⟩
theorem fd_X7_252 : fdl RX7 252 5 1 .int false := ⟨_, _, _, tyX5, rfl, wu_X5, by decide, fl_X7_252, tyX5_ok, nmX5, rfl, rfl, rfl⟩
theorem fd_X7_28 : fdl RX7 28 7 2 (.array (.object "OneLongRow$Word")) false := ⟨_, _, _, tyX7, rfl, wu_X7, by decide, fl_X7_28, tyX7_ok, nmX7, rfl, rfl, rfl⟩
theorem fd_X7_281 : fdl RX7 281 3 1 .int false := ⟨_, _, _, tyX3, rfl, wu_X3, by decide, fl_X7_281, tyX3_ok, nmX3, rfl, rfl, rfl⟩
theorem fd_X7_284 : fdl RX7 284 3 0 (.array .int) true := ⟨_, _, _, tyX3, rfl, wu_X3, by decide, fl_X7_284, tyX3_ok, nmX3, rfl, rfl, rfl⟩
theorem fd_X7_285 : fdl RX7 285 3 2 .int false := ⟨_, _, _, tyX3, rfl, wu_X3, by decide, fl_X7_285, tyX3_ok, nmX3, rfl, rfl, rfl⟩
theorem fd_X7_286 : fdl RX7 286 3 3 .boolean false := ⟨_, _, _, tyX3, rfl, wu_X3, by decide, fl_X7_286, tyX3_ok, nmX3, rfl, rfl, rfl⟩
theorem fd_X7_32 : fdl RX7 32 7 4 (.array .int) true := ⟨_, _, _, tyX7, rfl, wu_X7, by decide, fl_X7_32, tyX7_ok, nmX7, rfl, rfl, rfl⟩
theorem fd_X7_36 : fdl RX7 36 7 6 (.array .int) true := ⟨_, _, _, tyX7, rfl, wu_X7, by decide, fl_X7_36, tyX7_ok, nmX7, rfl, rfl, rfl⟩
theorem fd_X7_41 : fdl RX7 41 7 7 (.array (.object "OneLongRow$Reading")) true := ⟨_, _, _, tyX7, rfl, wu_X7, by decide, fl_X7_41, tyX7_ok, nmX7, rfl, rfl, rfl⟩
theorem fd_X7_48 : fdl RX7 48 7 9 (.object "OneLongRow$Word") true := ⟨_, _, _, tyX7, rfl, wu_X7, by decide, fl_X7_48, tyX7_ok, nmX7, rfl, rfl, rfl⟩
theorem fd_X7_52 : fdl RX7 52 7 10 (.array .int) true := ⟨_, _, _, tyX7, rfl, wu_X7, by decide, fl_X7_52, tyX7_ok, nmX7, rfl, rfl, rfl⟩
theorem fd_X7_58 : fdl RX7 58 7 11 (.object "OneLongRow$Net") true := ⟨_, _, _, tyX7, rfl, wu_X7, by decide, fl_X7_58, tyX7_ok, nmX7, rfl, rfl, rfl⟩
theorem fd_X7_65 : fdl RX7 65 7 12 (.object "OneLongRow$Points") true := ⟨_, _, _, tyX7, rfl, wu_X7, by decide, fl_X7_65, tyX7_ok, nmX7, rfl, rfl, rfl⟩
theorem fd_X7_72 : fdl RX7 72 7 13 (.object "OneLongRow$Counts") true := ⟨_, _, _, tyX7, rfl, wu_X7, by decide, fl_X7_72, tyX7_ok, nmX7, rfl, rfl, rfl⟩
theorem fd_X7_76 : fdl RX7 76 7 14 .boolean false := ⟨_, _, _, tyX7, rfl, wu_X7, by decide, fl_X7_76, tyX7_ok, nmX7, rfl, rfl, rfl⟩
theorem fd_X7_82 : fdl RX7 82 7 16 .int false := ⟨_, _, _, tyX7, rfl, wu_X7, by decide, fl_X7_82, tyX7_ok, nmX7, rfl, rfl, rfl⟩
theorem fd_X8_111 : fdl RX8 111 8 12 .int false := ⟨_, _, _, tyX8, rfl, wu_X8, by decide, fl_X8_111, tyX8_ok, nmX8, rfl, rfl, rfl⟩
theorem fd_X8_114 : fdl RX8 114 8 6 .int false := ⟨_, _, _, tyX8, rfl, wu_X8, by decide, fl_X8_114, tyX8_ok, nmX8, rfl, rfl, rfl⟩
theorem fd_X8_117 : fdl RX8 117 8 25 .int false := ⟨_, _, _, tyX8, rfl, wu_X8, by decide, fl_X8_117, tyX8_ok, nmX8, rfl, rfl, rfl⟩
theorem fd_X8_13 : fdl RX8 13 8 3 (.array .int) true := ⟨_, _, _, tyX8, rfl, wu_X8, by decide, fl_X8_13, tyX8_ok, nmX8, rfl, rfl, rfl⟩
theorem fd_X8_133 : fdl RX8 133 8 17 .int false := ⟨_, _, _, tyX8, rfl, wu_X8, by decide, fl_X8_133, tyX8_ok, nmX8, rfl, rfl, rfl⟩
theorem fd_X8_16 : fdl RX8 16 8 4 (.array .int) true := ⟨_, _, _, tyX8, rfl, wu_X8, by decide, fl_X8_16, tyX8_ok, nmX8, rfl, rfl, rfl⟩
theorem fd_X8_19 : fdl RX8 19 8 7 (.array .int) true := ⟨_, _, _, tyX8, rfl, wu_X8, by decide, fl_X8_19, tyX8_ok, nmX8, rfl, rfl, rfl⟩
theorem fd_X8_212 : fdl RX8 212 8 1 .int false := ⟨_, _, _, tyX8, rfl, wu_X8, by decide, fl_X8_212, tyX8_ok, nmX8, rfl, rfl, rfl⟩
theorem fd_X8_22 : fdl RX8 22 8 8 (.array .int) true := ⟨_, _, _, tyX8, rfl, wu_X8, by decide, fl_X8_22, tyX8_ok, nmX8, rfl, rfl, rfl⟩
theorem fd_X8_25 : fdl RX8 25 8 9 (.array .int) true := ⟨_, _, _, tyX8, rfl, wu_X8, by decide, fl_X8_25, tyX8_ok, nmX8, rfl, rfl, rfl⟩
theorem fd_X8_28 : fdl RX8 28 8 10 (.array .int) true := ⟨_, _, _, tyX8, rfl, wu_X8, by decide, fl_X8_28, tyX8_ok, nmX8, rfl, rfl, rfl⟩
theorem fd_X8_31 : fdl RX8 31 8 13 (.array .int) true := ⟨_, _, _, tyX8, rfl, wu_X8, by decide, fl_X8_31, tyX8_ok, nmX8, rfl, rfl, rfl⟩
theorem fd_X8_34 : fdl RX8 34 8 14 (.array .int) true := ⟨_, _, _, tyX8, rfl, wu_X8, by decide, fl_X8_34, tyX8_ok, nmX8, rfl, rfl, rfl⟩
theorem fd_X8_37 : fdl RX8 37 8 15 (.array .int) true := ⟨_, _, _, tyX8, rfl, wu_X8, by decide, fl_X8_37, tyX8_ok, nmX8, rfl, rfl, rfl⟩
theorem fd_X8_40 : fdl RX8 40 8 16 (.array .int) true := ⟨_, _, _, tyX8, rfl, wu_X8, by decide, fl_X8_40, tyX8_ok, nmX8, rfl, rfl, rfl⟩
theorem fd_X8_43 : fdl RX8 43 8 18 (.array .int) true := ⟨_, _, _, tyX8, rfl, wu_X8, by decide, fl_X8_43, tyX8_ok, nmX8, rfl, rfl, rfl⟩
theorem fd_X8_46 : fdl RX8 46 8 19 (.array .int) true := ⟨_, _, _, tyX8, rfl, wu_X8, by decide, fl_X8_46, tyX8_ok, nmX8, rfl, rfl, rfl⟩
theorem fd_X8_49 : fdl RX8 49 8 20 (.array .int) true := ⟨_, _, _, tyX8, rfl, wu_X8, by decide, fl_X8_49, tyX8_ok, nmX8, rfl, rfl, rfl⟩
theorem fd_X8_52 : fdl RX8 52 8 21 (.array .long) true := ⟨_, _, _, tyX8, rfl, wu_X8, by decide, fl_X8_52, tyX8_ok, nmX8, rfl, rfl, rfl⟩
theorem fd_X8_56 : fdl RX8 56 8 22 (.array .long) true := ⟨_, _, _, tyX8, rfl, wu_X8, by decide, fl_X8_56, tyX8_ok, nmX8, rfl, rfl, rfl⟩
theorem fd_X8_59 : fdl RX8 59 8 23 (.array .int) true := ⟨_, _, _, tyX8, rfl, wu_X8, by decide, fl_X8_59, tyX8_ok, nmX8, rfl, rfl, rfl⟩
theorem fd_X8_62 : fdl RX8 62 8 24 (.array .int) true := ⟨_, _, _, tyX8, rfl, wu_X8, by decide, fl_X8_62, tyX8_ok, nmX8, rfl, rfl, rfl⟩
theorem fd_X8_65 : fdl RX8 65 8 26 (.array .int) true := ⟨_, _, _, tyX8, rfl, wu_X8, by decide, fl_X8_65, tyX8_ok, nmX8, rfl, rfl, rfl⟩
theorem fd_X8_68 : fdl RX8 68 8 27 (.array .int) true := ⟨_, _, _, tyX8, rfl, wu_X8, by decide, fl_X8_68, tyX8_ok, nmX8, rfl, rfl, rfl⟩
theorem fd_X8_71 : fdl RX8 71 8 28 (.array .int) true := ⟨_, _, _, tyX8, rfl, wu_X8, by decide, fl_X8_71, tyX8_ok, nmX8, rfl, rfl, rfl⟩
theorem fd_X8_74 : fdl RX8 74 8 29 (.array .int) true := ⟨_, _, _, tyX8, rfl, wu_X8, by decide, fl_X8_74, tyX8_ok, nmX8, rfl, rfl, rfl⟩
theorem fd_X8_77 : fdl RX8 77 8 0 .int false := ⟨_, _, _, tyX8, rfl, wu_X8, by decide, fl_X8_77, tyX8_ok, nmX8, rfl, rfl, rfl⟩
theorem fd_X8_87 : fdl RX8 87 8 5 .int false := ⟨_, _, _, tyX8, rfl, wu_X8, by decide, fl_X8_87, tyX8_ok, nmX8, rfl, rfl, rfl⟩
theorem fd_X8_9 : fdl RX8 9 8 2 (.array .int) true := ⟨_, _, _, tyX8, rfl, wu_X8, by decide, fl_X8_9, tyX8_ok, nmX8, rfl, rfl, rfl⟩
theorem fd_X8_90 : fdl RX8 90 8 11 .int false := ⟨_, _, _, tyX8, rfl, wu_X8, by decide, fl_X8_90, tyX8_ok, nmX8, rfl, rfl, rfl⟩
theorem lk_X0_26 : lkS RX0 26 yJ7_fill_d0a16 cJ7_fill_d0a16 5 none 2 := ⟨ml_X0_26, st_J7_fill_d0a16, ini_J7, co_J7_fill_d0a16, ⟨by decide, by decide, by decide +kernel⟩⟩
theorem lk_X0_36 : lkV RX0 36 0 yX0_addUp cX0_addUp 5 none 1 := ⟨ml_X0_36, im_X0_addUp, se_X0_addUp, ini_X0, co_X0_addUp, ⟨by decide, by decide, by decide +kernel⟩, _, rfl, rfl⟩
theorem lk_X0_40 : lkV RX0 40 0 yX0_addLetter cX0_addLetter 6 none 1 := ⟨ml_X0_40, im_X0_addLetter, se_X0_addLetter, ini_X0, co_X0_addLetter, ⟨by decide, by decide, by decide +kernel⟩, _, rfl, rfl⟩
theorem lk_X0_50 : lkV RX0 50 2 yX2_isSilent cX2_isSilent 2 (some (FieldType.boolean)) 1 := ⟨ml_X0_50, im_X2_isSilent, se_X2_isSilent, ini_X2, co_X2_isSilent, ⟨by decide, by decide, by decide +kernel⟩, _, rfl, rfl⟩
theorem lk_X1_28 : lkS RX1 28 yX1_behind cX1_behind 2 (some (FieldType.int)) 2 := ⟨ml_X1_28, st_X1_behind, ini_X1, co_X1_behind, ⟨by decide, by decide, by decide +kernel⟩⟩
theorem lk_X1_36 : lkV RX1 36 1 yX1_markStays cX1_markStays 5 none 2 := ⟨ml_X1_36, im_X1_markStays, se_X1_markStays, ini_X1, co_X1_markStays, ⟨by decide, by decide, by decide +kernel⟩, _, rfl, rfl⟩
theorem lk_X1_40 : lkV RX1 40 1 yX1_layTrail cX1_layTrail 5 (some (FieldType.int)) 1 := ⟨ml_X1_40, im_X1_layTrail, se_X1_layTrail, ini_X1, co_X1_layTrail, ⟨by decide, by decide, by decide +kernel⟩, _, rfl, rfl⟩
theorem lk_X1_44 : lkSN RX1 44 yX7_heardBy cX7_heardBy 6 (some (FieldType.int)) 4 := ⟨⟨_, mn_X1_44⟩, st_X7_heardBy, ini_X7, co_X7_heardBy, ⟨by decide, by decide, by decide +kernel⟩⟩
theorem lk_X1_48 : lkV RX1 48 1 yX1_stayAt cX1_stayAt 4 (some (FieldType.int)) 1 := ⟨ml_X1_48, im_X1_stayAt, se_X1_stayAt, ini_X1, co_X1_stayAt, ⟨by decide, by decide, by decide +kernel⟩, _, rfl, rfl⟩
theorem lk_X1_51 : lkV RX1 51 1 yX1_markBeginnings cX1_markBeginnings 5 none 2 := ⟨ml_X1_51, im_X1_markBeginnings, se_X1_markBeginnings, ini_X1, co_X1_markBeginnings, ⟨by decide, by decide, by decide +kernel⟩, _, rfl, rfl⟩
theorem lk_X1_60 : lkV RX1 60 6 yX6_letterOf cX6_letterOf 3 (some (FieldType.int)) 2 := ⟨ml_X1_60, im_X6_letterOf, se_X6_letterOf, ini_X6, co_X6_letterOf, ⟨by decide, by decide, by decide +kernel⟩, _, rfl, rfl⟩
theorem lk_X1_63 : lkV RX1 63 1 yX1_silentlyReachedFrom cX1_silentlyReachedFrom 8 (some (FieldType.long)) 1 := ⟨ml_X1_63, im_X1_silentlyReachedFrom, se_X1_silentlyReachedFrom, ini_X1, co_X1_silentlyReachedFrom, ⟨by decide, by decide, by decide +kernel⟩, _, rfl, rfl⟩
theorem lk_X2_29 : lkS RX2 29 yJ7_fill_53178 cJ7_fill_53178 4 none 2 := ⟨ml_X2_29, st_J7_fill_53178, ini_J7, co_J7_fill_53178, ⟨by decide, by decide, by decide +kernel⟩⟩
theorem lk_X2_39 : lkV RX2 39 2 yX2_find cX2_find 3 (some (FieldType.int)) 2 := ⟨ml_X2_39, im_X2_find, se_X2_find, ini_X2, co_X2_find, ⟨by decide, by decide, by decide +kernel⟩, _, rfl, rfl⟩
theorem lk_X2_43 : lkV RX2 43 2 yX2_pointAfter cX2_pointAfter 7 (some (FieldType.int)) 3 := ⟨ml_X2_43, im_X2_pointAfter, se_X2_pointAfter, ini_X2, co_X2_pointAfter, ⟨by decide, by decide, by decide +kernel⟩, _, rfl, rfl⟩
theorem lk_X2_58 : lkV RX2 58 2 yX2_layShortestRow cX2_layShortestRow 3 none 0 := ⟨ml_X2_58, im_X2_layShortestRow, se_X2_layShortestRow, ini_X2, co_X2_layShortestRow, ⟨by decide, by decide, by decide +kernel⟩, _, rfl, rfl⟩
theorem lk_X2_61 : lkS RX2 61 yX1_behind cX1_behind 2 (some (FieldType.int)) 2 := ⟨ml_X2_61, st_X1_behind, ini_X1, co_X1_behind, ⟨by decide, by decide, by decide +kernel⟩⟩
theorem lk_X4_26 : lkS RX4 26 yJ7_fill_53178 cJ7_fill_53178 4 none 2 := ⟨ml_X4_26, st_J7_fill_53178, ini_J7, co_J7_fill_53178, ⟨by decide, by decide, by decide +kernel⟩⟩
theorem lk_X4_32 : lkV RX4 32 4 yX4_faultOfLane cX4_faultOfLane 2 (some (FieldType.int)) 1 := ⟨ml_X4_32, im_X4_faultOfLane, se_X4_faultOfLane, ini_X4, co_X4_faultOfLane, ⟨by decide, by decide, by decide +kernel⟩, _, rfl, rfl⟩
theorem lk_X4_36 : lkV RX4 36 4 yX4_hasCells cX4_hasCells 3 (some (FieldType.boolean)) 2 := ⟨ml_X4_36, im_X4_hasCells, se_X4_hasCells, ini_X4, co_X4_hasCells, ⟨by decide, by decide, by decide +kernel⟩, _, rfl, rfl⟩
theorem lk_X4_40 : lkSN RX4 40 yX7_isBelow cX7_isBelow 2 (some (FieldType.boolean)) 2 := ⟨⟨_, mn_X4_40⟩, st_X7_isBelow, ini_X7, co_X7_isBelow, ⟨by decide, by decide, by decide +kernel⟩⟩
theorem lk_X5_19 : lkV RX5 19 4 yX4_hasCells cX4_hasCells 3 (some (FieldType.boolean)) 2 := ⟨ml_X5_19, im_X4_hasCells, se_X4_hasCells, ini_X4, co_X4_hasCells, ⟨by decide, by decide, by decide +kernel⟩, _, rfl, rfl⟩
theorem lk_X5_33 : lkV RX5 33 5 yX5_stateAfter cX5_stateAfter 3 (some (FieldType.int)) 2 := ⟨ml_X5_33, im_X5_stateAfter, se_X5_stateAfter, ini_X5, co_X5_stateAfter, ⟨by decide, by decide, by decide +kernel⟩, _, rfl, rfl⟩
theorem lk_X5_37 : lkV RX5 37 5 yX5_beginWord cX5_beginWord 1 (some (FieldType.int)) 0 := ⟨ml_X5_37, im_X5_beginWord, se_X5_beginWord, ini_X5, co_X5_beginWord, ⟨by decide, by decide, by decide +kernel⟩, _, rfl, rfl⟩
theorem lk_X5_41 : lkV RX5 41 5 yX5_takeKind cX5_takeKind 3 (some (FieldType.int)) 1 := ⟨ml_X5_41, im_X5_takeKind, se_X5_takeKind, ini_X5, co_X5_takeKind, ⟨by decide, by decide, by decide +kernel⟩, _, rfl, rfl⟩
theorem lk_X5_45 : lkV RX5 45 5 yX5_takeLetter cX5_takeLetter 3 (some (FieldType.int)) 1 := ⟨ml_X5_45, im_X5_takeLetter, se_X5_takeLetter, ini_X5, co_X5_takeLetter, ⟨by decide, by decide, by decide +kernel⟩, _, rfl, rfl⟩
theorem lk_X6_28 : lkV RX6 28 6 yX6_letterOf cX6_letterOf 3 (some (FieldType.int)) 2 := ⟨ml_X6_28, im_X6_letterOf, se_X6_letterOf, ini_X6, co_X6_letterOf, ⟨by decide, by decide, by decide +kernel⟩, _, rfl, rfl⟩
theorem lk_X6_32 : lkV RX6 32 6 yX6_formEndsAt cX6_formEndsAt 6 (some (FieldType.boolean)) 3 := ⟨ml_X6_32, im_X6_formEndsAt, se_X6_formEndsAt, ini_X6, co_X6_formEndsAt, ⟨by decide, by decide, by decide +kernel⟩, _, rfl, rfl⟩
theorem lk_X6_36 : lkV RX6 36 6 yX6_endsAt cX6_endsAt 3 (some (FieldType.boolean)) 2 := ⟨ml_X6_36, im_X6_endsAt, se_X6_endsAt, ini_X6, co_X6_endsAt, ⟨by decide, by decide, by decide +kernel⟩, _, rfl, rfl⟩
theorem lk_X6_45 : lkV RX6 45 6 yX6_liesOver cX6_liesOver 4 (some (FieldType.boolean)) 2 := ⟨ml_X6_45, im_X6_liesOver, se_X6_liesOver, ini_X6, co_X6_liesOver, ⟨by decide, by decide, by decide +kernel⟩, _, rfl, rfl⟩
theorem lk_X7_102 : lkV RX7 102 5 yX5_firstFault cX5_firstFault 6 (some (FieldType.int)) 3 := ⟨ml_X7_102, im_X5_firstFault, se_X5_firstFault, ini_X5, co_X5_firstFault, ⟨by decide, by decide, by decide +kernel⟩, _, rfl, rfl⟩
theorem lk_X7_106 : lkV RX7 106 7 yX7_takeText cX7_takeText 2 none 0 := ⟨ml_X7_106, im_X7_takeText, se_X7_takeText, ini_X7, co_X7_takeText, ⟨by decide, by decide, by decide +kernel⟩, _, rfl, rfl⟩
theorem lk_X7_112 : lkV RX7 112 7 yX7_isWord cX7_isWord 2 (some (FieldType.boolean)) 1 := ⟨ml_X7_112, im_X7_isWord, se_X7_isWord, ini_X7, co_X7_isWord, ⟨by decide, by decide, by decide +kernel⟩, _, rfl, rfl⟩
theorem lk_X7_121 : lkV RX7 121 6 yX6_unlikeForms cX6_unlikeForms 2 (some (FieldType.int)) 0 := ⟨ml_X7_121, im_X6_unlikeForms, se_X6_unlikeForms, ini_X6, co_X6_unlikeForms, ⟨by decide, by decide, by decide +kernel⟩, _, rfl, rfl⟩
theorem lk_X7_128 : lkV RX7 128 6 yX6_timesIn cX6_timesIn 5 (some (FieldType.int)) 2 := ⟨ml_X7_128, im_X6_timesIn, se_X6_timesIn, ini_X6, co_X6_timesIn, ⟨by decide, by decide, by decide +kernel⟩, _, rfl, rfl⟩
theorem lk_X7_135 : lkS RX7 135 yX7_heardBy cX7_heardBy 6 (some (FieldType.int)) 4 := ⟨ml_X7_135, st_X7_heardBy, ini_X7, co_X7_heardBy, ⟨by decide, by decide, by decide +kernel⟩⟩
theorem lk_X7_139 : lkS RX7 139 yX7_isOfRow cX7_isOfRow 1 (some (FieldType.boolean)) 1 := ⟨ml_X7_139, st_X7_isOfRow, ini_X7, co_X7_isOfRow, ⟨by decide, by decide, by decide +kernel⟩⟩
theorem lk_X7_142 : lkV RX7 142 4 yX4_lettersTo cX4_lettersTo 5 (some (FieldType.boolean)) 3 := ⟨ml_X7_142, im_X4_lettersTo, se_X4_lettersTo, ini_X4, co_X4_lettersTo, ⟨by decide, by decide, by decide +kernel⟩, _, rfl, rfl⟩
theorem lk_X7_146 : lkV RX7 146 7 yX7_heardInTold cX7_heardInTold 10 (some (FieldType.int)) 2 := ⟨ml_X7_146, im_X7_heardInTold, se_X7_heardInTold, ini_X7, co_X7_heardInTold, ⟨by decide, by decide, by decide +kernel⟩, _, rfl, rfl⟩
theorem lk_X7_150 : lkV RX7 150 6 yX6_lettersOver cX6_lettersOver 3 (some (FieldType.int)) 1 := ⟨ml_X7_150, im_X6_lettersOver, se_X6_lettersOver, ini_X6, co_X6_lettersOver, ⟨by decide, by decide, by decide +kernel⟩, _, rfl, rfl⟩
theorem lk_X7_154 : lkV RX7 154 7 yX7_renewNet cX7_renewNet 1 none 0 := ⟨ml_X7_154, im_X7_renewNet, se_X7_renewNet, ini_X7, co_X7_renewNet, ⟨by decide, by decide, by decide +kernel⟩, _, rfl, rfl⟩
theorem lk_X7_159 : lkS RX7 159 yX7_isCounted cX7_isCounted 1 (some (FieldType.boolean)) 1 := ⟨ml_X7_159, st_X7_isCounted, ini_X7, co_X7_isCounted, ⟨by decide, by decide, by decide +kernel⟩⟩
theorem lk_X7_164 : lkV RX7 164 0 yX0_countTo cX0_countTo 3 none 2 := ⟨ml_X7_164, im_X0_countTo, se_X0_countTo, ini_X0, co_X0_countTo, ⟨by decide, by decide, by decide +kernel⟩, _, rfl, rfl⟩
theorem lk_X7_175 : lkV RX7 175 1 yX1_longestSilent cX1_longestSilent 4 (some (FieldType.int)) 0 := ⟨ml_X7_175, im_X1_longestSilent, se_X1_longestSilent, ini_X1, co_X1_longestSilent, ⟨by decide, by decide, by decide +kernel⟩, _, rfl, rfl⟩
theorem lk_X7_178 : lkV RX7 178 7 yX7_standsInEachForm cX7_standsInEachForm 5 (some (FieldType.boolean)) 2 := ⟨ml_X7_178, im_X7_standsInEachForm, se_X7_standsInEachForm, ini_X7, co_X7_standsInEachForm, ⟨by decide, by decide, by decide +kernel⟩, _, rfl, rfl⟩
theorem lk_X7_185 : lkV RX7 185 3 yX3_keep cX3_keep 5 none 4 := ⟨ml_X7_185, im_X3_keep, se_X3_keep, ini_X3, co_X3_keep, ⟨by decide, by decide, by decide +kernel⟩, _, rfl, rfl⟩
theorem lk_X7_189 : lkV RX7 189 6 yX6_become cX6_become 2 none 1 := ⟨ml_X7_189, im_X6_become, se_X6_become, ini_X6, co_X6_become, ⟨by decide, by decide, by decide +kernel⟩, _, rfl, rfl⟩
theorem lk_X7_193 : lkV RX7 193 7 yX7_readingsAreSo cX7_readingsAreSo 5 (some (FieldType.boolean)) 1 := ⟨ml_X7_193, im_X7_readingsAreSo, se_X7_readingsAreSo, ini_X7, co_X7_readingsAreSo, ⟨by decide, by decide, by decide +kernel⟩, _, rfl, rfl⟩
theorem lk_X7_196 : lkV RX7 196 6 yX6_changeLast cX6_changeLast 2 none 1 := ⟨ml_X7_196, im_X6_changeLast, se_X6_changeLast, ini_X6, co_X6_changeLast, ⟨by decide, by decide, by decide +kernel⟩, _, rfl, rfl⟩
theorem lk_X7_202 : lkV RX7 202 4 yX4_begin cX4_begin 3 none 2 := ⟨ml_X7_202, im_X4_begin, se_X4_begin, ini_X4, co_X4_begin, ⟨by decide, by decide, by decide +kernel⟩, _, rfl, rfl⟩
theorem lk_X7_210 : lkV RX7 210 4 yX4_write cX4_write 3 none 2 := ⟨ml_X7_210, im_X4_write, se_X4_write, ini_X4, co_X4_write, ⟨by decide, by decide, by decide +kernel⟩, _, rfl, rfl⟩
theorem lk_X7_213 : lkV RX7 213 4 yX4_faultOfLane cX4_faultOfLane 2 (some (FieldType.int)) 1 := ⟨ml_X7_213, im_X4_faultOfLane, se_X4_faultOfLane, ini_X4, co_X4_faultOfLane, ⟨by decide, by decide, by decide +kernel⟩, _, rfl, rfl⟩
theorem lk_X7_222 : lkV RX7 222 4 yX4_hasCells cX4_hasCells 3 (some (FieldType.boolean)) 2 := ⟨ml_X7_222, im_X4_hasCells, se_X4_hasCells, ini_X4, co_X4_hasCells, ⟨by decide, by decide, by decide +kernel⟩, _, rfl, rfl⟩
theorem lk_X7_231 : lkV RX7 231 7 yX7_tellTurned cX7_tellTurned 3 (some (FieldType.int)) 1 := ⟨ml_X7_231, im_X7_tellTurned, se_X7_tellTurned, ini_X7, co_X7_tellTurned, ⟨by decide, by decide, by decide +kernel⟩, _, rfl, rfl⟩
theorem lk_X7_234 : lkV RX7 234 7 yX7_tellBoth cX7_tellBoth 2 (some (FieldType.int)) 1 := ⟨ml_X7_234, im_X7_tellBoth, se_X7_tellBoth, ini_X7, co_X7_tellBoth, ⟨by decide, by decide, by decide +kernel⟩, _, rfl, rfl⟩
theorem lk_X7_237 : lkV RX7 237 7 yX7_tellPlain cX7_tellPlain 2 (some (FieldType.int)) 1 := ⟨ml_X7_237, im_X7_tellPlain, se_X7_tellPlain, ini_X7, co_X7_tellPlain, ⟨by decide, by decide, by decide +kernel⟩, _, rfl, rfl⟩
theorem lk_X7_240 : lkV RX7 240 7 yX7_leaveTrace cX7_leaveTrace 2 none 1 := ⟨ml_X7_240, im_X7_leaveTrace, se_X7_leaveTrace, ini_X7, co_X7_leaveTrace, ⟨by decide, by decide, by decide +kernel⟩, _, rfl, rfl⟩
theorem lk_X7_246 : lkV RX7 246 7 yX7_standIn cX7_standIn 5 (some (FieldType.int)) 2 := ⟨ml_X7_246, im_X7_standIn, se_X7_standIn, ini_X7, co_X7_standIn, ⟨by decide, by decide, by decide +kernel⟩, _, rfl, rfl⟩
theorem lk_X7_255 : lkV RX7 255 1 yX1_learn cX1_learn 6 none 2 := ⟨ml_X7_255, im_X1_learn, se_X1_learn, ini_X1, co_X1_learn, ⟨by decide, by decide, by decide +kernel⟩, _, rfl, rfl⟩
theorem lk_X7_259 : lkV RX7 259 2 yX2_lay cX2_lay 4 none 1 := ⟨ml_X7_259, im_X2_lay, se_X2_lay, ini_X2, co_X2_lay, ⟨by decide, by decide, by decide +kernel⟩, _, rfl, rfl⟩
theorem lk_X7_263 : lkV RX7 263 0 yX0_begin cX0_begin 2 none 1 := ⟨ml_X7_263, im_X0_begin, se_X0_begin, ini_X0, co_X0_begin, ⟨by decide, by decide, by decide +kernel⟩, _, rfl, rfl⟩
theorem lk_X7_266 : lkV RX7 266 6 yX6_endsAt cX6_endsAt 3 (some (FieldType.boolean)) 2 := ⟨ml_X7_266, im_X6_endsAt, se_X6_endsAt, ini_X6, co_X6_endsAt, ⟨by decide, by decide, by decide +kernel⟩, _, rfl, rfl⟩
theorem lk_X7_270 : lkS RX7 270 yJ6_bitCount_0f7a4 cJ6_bitCount_0f7a4 1 (some (FieldType.int)) 1 := ⟨ml_X7_270, st_J6_bitCount_0f7a4, ini_J6, co_J6_bitCount_0f7a4, ⟨by decide, by decide, by decide +kernel⟩⟩
theorem lk_X7_275 : lkV RX7 275 6 yX6_letterOf cX6_letterOf 3 (some (FieldType.int)) 2 := ⟨ml_X7_275, im_X6_letterOf, se_X6_letterOf, ini_X6, co_X6_letterOf, ⟨by decide, by decide, by decide +kernel⟩, _, rfl, rfl⟩
theorem lk_X7_278 : lkV RX7 278 6 yX6_standsIn cX6_standsIn 4 (some (FieldType.boolean)) 2 := ⟨ml_X7_278, im_X6_standsIn, se_X6_standsIn, ini_X6, co_X6_standsIn, ⟨by decide, by decide, by decide +kernel⟩, _, rfl, rfl⟩
theorem lk_X7_86 : lkS RX7 86 yX7_isSheet cX7_isSheet 1 (some (FieldType.boolean)) 1 := ⟨ml_X7_86, st_X7_isSheet, ini_X7, co_X7_isSheet, ⟨by decide, by decide, by decide +kernel⟩⟩
theorem lk_X7_90 : lkS RX7 90 yX7_isBelow cX7_isBelow 2 (some (FieldType.boolean)) 2 := ⟨ml_X7_90, st_X7_isBelow, ini_X7, co_X7_isBelow, ⟨by decide, by decide, by decide +kernel⟩⟩
theorem lk_X7_94 : lkV RX7 94 4 yX4_faultOfCells cX4_faultOfCells 5 (some (FieldType.int)) 3 := ⟨ml_X7_94, im_X4_faultOfCells, se_X4_faultOfCells, ini_X4, co_X4_faultOfCells, ⟨by decide, by decide, by decide +kernel⟩, _, rfl, rfl⟩
theorem lk_X7_98 : lkV RX7 98 7 yX7_failWith cX7_failWith 2 (some (FieldType.int)) 1 := ⟨ml_X7_98, im_X7_failWith, se_X7_failWith, ini_X7, co_X7_failWith, ⟨by decide, by decide, by decide +kernel⟩, _, rfl, rfl⟩
theorem lk_X8_100 : lkV RX8 100 8 yX8_against cX8_against 5 (some (FieldType.int)) 4 := ⟨ml_X8_100, im_X8_against, se_X8_against, ini_X8, co_X8_against, ⟨by decide, by decide, by decide +kernel⟩, _, rfl, rfl⟩
theorem lk_X8_104 : lkV RX8 104 8 yX8_fails cX8_fails 2 (some (FieldType.int)) 1 := ⟨ml_X8_104, im_X8_fails, se_X8_fails, ini_X8, co_X8_fails, ⟨by decide, by decide, by decide +kernel⟩, _, rfl, rfl⟩
theorem lk_X8_108 : lkV RX8 108 8 yX8_readAll cX8_readAll 2 (some (FieldType.boolean)) 1 := ⟨ml_X8_108, im_X8_readAll, se_X8_readAll, ini_X8, co_X8_readAll, ⟨by decide, by decide, by decide +kernel⟩, _, rfl, rfl⟩
theorem lk_X8_120 : lkV RX8 120 8 yX8_isSign cX8_isSign 3 (some (FieldType.boolean)) 2 := ⟨ml_X8_120, im_X8_isSign, se_X8_isSign, ini_X8, co_X8_isSign, ⟨by decide, by decide, by decide +kernel⟩, _, rfl, rfl⟩
theorem lk_X8_124 : lkV RX8 124 8 yX8_readWord cX8_readWord 4 (some (FieldType.boolean)) 2 := ⟨ml_X8_124, im_X8_readWord, se_X8_readWord, ini_X8, co_X8_readWord, ⟨by decide, by decide, by decide +kernel⟩, _, rfl, rfl⟩
theorem lk_X8_126 : lkV RX8 126 8 yX8_letterOf cX8_letterOf 6 (some (FieldType.int)) 3 := ⟨ml_X8_126, im_X8_letterOf, se_X8_letterOf, ini_X8, co_X8_letterOf, ⟨by decide, by decide, by decide +kernel⟩, _, rfl, rfl⟩
theorem lk_X8_130 : lkV RX8 130 8 yX8_isHeard cX8_isHeard 6 (some (FieldType.boolean)) 2 := ⟨ml_X8_130, im_X8_isHeard, se_X8_isHeard, ini_X8, co_X8_isHeard, ⟨by decide, by decide, by decide +kernel⟩, _, rfl, rfl⟩
theorem lk_X8_136 : lkV RX8 136 8 yX8_timesHeard cX8_timesHeard 4 (some (FieldType.int)) 1 := ⟨ml_X8_136, im_X8_timesHeard, se_X8_timesHeard, ini_X8, co_X8_timesHeard, ⟨by decide, by decide, by decide +kernel⟩, _, rfl, rfl⟩
theorem lk_X8_139 : lkV RX8 139 8 yX8_isWord cX8_isWord 2 (some (FieldType.boolean)) 1 := ⟨ml_X8_139, im_X8_isWord, se_X8_isWord, ini_X8, co_X8_isWord, ⟨by decide, by decide, by decide +kernel⟩, _, rfl, rfl⟩
theorem lk_X8_142 : lkV RX8 142 8 yX8_areForms cX8_areForms 3 (some (FieldType.boolean)) 1 := ⟨ml_X8_142, im_X8_areForms, se_X8_areForms, ini_X8, co_X8_areForms, ⟨by decide, by decide, by decide +kernel⟩, _, rfl, rfl⟩
theorem lk_X8_145 : lkV RX8 145 8 yX8_lookAtSaid cX8_lookAtSaid 2 none 0 := ⟨ml_X8_145, im_X8_lookAtSaid, se_X8_lookAtSaid, ini_X8, co_X8_lookAtSaid, ⟨by decide, by decide, by decide +kernel⟩, _, rfl, rfl⟩
theorem lk_X8_148 : lkV RX8 148 8 yX8_heardBehind cX8_heardBehind 4 (some (FieldType.int)) 1 := ⟨ml_X8_148, im_X8_heardBehind, se_X8_heardBehind, ini_X8, co_X8_heardBehind, ⟨by decide, by decide, by decide +kernel⟩, _, rfl, rfl⟩
theorem lk_X8_151 : lkV RX8 151 8 yX8_areLetters cX8_areLetters 4 (some (FieldType.boolean)) 2 := ⟨ml_X8_151, im_X8_areLetters, se_X8_areLetters, ini_X8, co_X8_areLetters, ⟨by decide, by decide, by decide +kernel⟩, _, rfl, rfl⟩
theorem lk_X8_154 : lkV RX8 154 8 yX8_lookAtCells cX8_lookAtCells 4 none 2 := ⟨ml_X8_154, im_X8_lookAtCells, se_X8_lookAtCells, ini_X8, co_X8_lookAtCells, ⟨by decide, by decide, by decide +kernel⟩, _, rfl, rfl⟩
theorem lk_X8_158 : lkV RX8 158 8 yX8_standing cX8_standing 3 (some (FieldType.int)) 0 := ⟨ml_X8_158, im_X8_standing, se_X8_standing, ini_X8, co_X8_standing, ⟨by decide, by decide, by decide +kernel⟩, _, rfl, rfl⟩
theorem lk_X8_162 : lkV RX8 162 8 yX8_allHeard cX8_allHeard 3 (some (FieldType.int)) 0 := ⟨ml_X8_162, im_X8_allHeard, se_X8_allHeard, ini_X8, co_X8_allHeard, ⟨by decide, by decide, by decide +kernel⟩, _, rfl, rfl⟩
theorem lk_X8_165 : lkV RX8 165 8 yX8_heardBy cX8_heardBy 4 (some (FieldType.int)) 1 := ⟨ml_X8_165, im_X8_heardBy, se_X8_heardBy, ini_X8, co_X8_heardBy, ⟨by decide, by decide, by decide +kernel⟩, _, rfl, rfl⟩
theorem lk_X8_169 : lkV RX8 169 8 yX8_endOf cX8_endOf 6 (some (FieldType.int)) 1 := ⟨ml_X8_169, im_X8_endOf, se_X8_endOf, ini_X8, co_X8_endOf, ⟨by decide, by decide, by decide +kernel⟩, _, rfl, rfl⟩
theorem lk_X8_172 : lkV RX8 172 8 yX8_findNext cX8_findNext 5 none 0 := ⟨ml_X8_172, im_X8_findNext, se_X8_findNext, ini_X8, co_X8_findNext, ⟨by decide, by decide, by decide +kernel⟩, _, rfl, rfl⟩
theorem lk_X8_175 : lkV RX8 175 8 yX8_allWords cX8_allWords 1 (some (FieldType.int)) 0 := ⟨ml_X8_175, im_X8_allWords, se_X8_allWords, ini_X8, co_X8_allWords, ⟨by decide, by decide, by decide +kernel⟩, _, rfl, rfl⟩
theorem lk_X8_178 : lkV RX8 178 8 yX8_behindLetter cX8_behindLetter 4 (some (FieldType.int)) 2 := ⟨ml_X8_178, im_X8_behindLetter, se_X8_behindLetter, ini_X8, co_X8_behindLetter, ⟨by decide, by decide, by decide +kernel⟩, _, rfl, rfl⟩
theorem lk_X8_182 : lkV RX8 182 8 yX8_findFar cX8_findFar 5 none 0 := ⟨ml_X8_182, im_X8_findFar, se_X8_findFar, ini_X8, co_X8_findFar, ⟨by decide, by decide, by decide +kernel⟩, _, rfl, rfl⟩
theorem lk_X8_185 : lkV RX8 185 8 yX8_findWays cX8_findWays 5 none 1 := ⟨ml_X8_185, im_X8_findWays, se_X8_findWays, ini_X8, co_X8_findWays, ⟨by decide, by decide, by decide +kernel⟩, _, rfl, rfl⟩
theorem lk_X8_189 : lkV RX8 189 8 yX8_waysWith cX8_waysWith 5 (some (FieldType.long)) 1 := ⟨ml_X8_189, im_X8_waysWith, se_X8_waysWith, ini_X8, co_X8_waysWith, ⟨by decide, by decide, by decide +kernel⟩, _, rfl, rfl⟩
theorem lk_X8_193 : lkV RX8 193 8 yX8_goesFree cX8_goesFree 3 (some (FieldType.boolean)) 0 := ⟨ml_X8_193, im_X8_goesFree, se_X8_goesFree, ini_X8, co_X8_goesFree, ⟨by decide, by decide, by decide +kernel⟩, _, rfl, rfl⟩
theorem lk_X8_197 : lkV RX8 197 8 yX8_isIn cX8_isIn 5 (some (FieldType.boolean)) 2 := ⟨ml_X8_197, im_X8_isIn, se_X8_isIn, ini_X8, co_X8_isIn, ⟨by decide, by decide, by decide +kernel⟩, _, rfl, rfl⟩
theorem lk_X8_200 : lkV RX8 200 8 yX8_areSo cX8_areSo 3 (some (FieldType.boolean)) 0 := ⟨ml_X8_200, im_X8_areSo, se_X8_areSo, ini_X8, co_X8_areSo, ⟨by decide, by decide, by decide +kernel⟩, _, rfl, rfl⟩
theorem lk_X8_205 : lkS RX8 205 yX8_inLeastTerms cX8_inLeastTerms 11 (some (FieldType.long)) 3 := ⟨ml_X8_205, st_X8_inLeastTerms, ini_X8, co_X8_inLeastTerms, ⟨by decide, by decide, by decide +kernel⟩⟩
theorem lk_X8_209 : lkV RX8 209 8 yX8_lost cX8_lost 2 (some (FieldType.long)) 1 := ⟨ml_X8_209, im_X8_lost, se_X8_lost, ini_X8, co_X8_lost, ⟨by decide, by decide, by decide +kernel⟩, _, rfl, rfl⟩
theorem lk_X8_215 : lkV RX8 215 8 yX8_begins cX8_begins 2 none 1 := ⟨ml_X8_215, im_X8_begins, se_X8_begins, ini_X8, co_X8_begins, ⟨by decide, by decide, by decide +kernel⟩, _, rfl, rfl⟩
theorem lk_X8_83 : lkS RX8 83 yX8_within cX8_within 3 (some (FieldType.boolean)) 3 := ⟨ml_X8_83, st_X8_within, ini_X8, co_X8_within, ⟨by decide, by decide, by decide +kernel⟩⟩
theorem lk_X8_93 : lkS RX8 93 yX8_isSheet cX8_isSheet 1 (some (FieldType.boolean)) 1 := ⟨ml_X8_93, st_X8_isSheet, ini_X8, co_X8_isSheet, ⟨by decide, by decide, by decide +kernel⟩⟩
theorem lk_X8_97 : lkS RX8 97 yX8_isSort cX8_isSort 1 (some (FieldType.boolean)) 1 := ⟨ml_X8_97, st_X8_isSort, ini_X8, co_X8_isSort, ⟨by decide, by decide, by decide +kernel⟩⟩
end
section
def x_J6_bitCount_0f7a4 (F : Nat) (h : pH) (l0 : Int32) : Option Int32 :=
  some ((((((((l0 - (((l0.toUInt32 >>> ((1 : Int32).toUInt32 &&& Int32.toUInt32 31)).toInt32) &&& (1431655765 : Int32))) &&& (858993459 : Int32)) + ((((l0 - (((l0.toUInt32 >>> ((1 : Int32).toUInt32 &&& Int32.toUInt32 31)).toInt32) &&& (1431655765 : Int32))).toUInt32 >>> ((2 : Int32).toUInt32 &&& Int32.toUInt32 31)).toInt32) &&& (858993459 : Int32))) + (((((l0 - (((l0.toUInt32 >>> ((1 : Int32).toUInt32 &&& Int32.toUInt32 31)).toInt32) &&& (1431655765 : Int32))) &&& (858993459 : Int32)) + ((((l0 - (((l0.toUInt32 >>> ((1 : Int32).toUInt32 &&& Int32.toUInt32 31)).toInt32) &&& (1431655765 : Int32))).toUInt32 >>> ((2 : Int32).toUInt32 &&& Int32.toUInt32 31)).toInt32) &&& (858993459 : Int32))).toUInt32 >>> ((4 : Int32).toUInt32 &&& Int32.toUInt32 31)).toInt32)) &&& (252645135 : Int32)) + (((((((l0 - (((l0.toUInt32 >>> ((1 : Int32).toUInt32 &&& Int32.toUInt32 31)).toInt32) &&& (1431655765 : Int32))) &&& (858993459 : Int32)) + ((((l0 - (((l0.toUInt32 >>> ((1 : Int32).toUInt32 &&& Int32.toUInt32 31)).toInt32) &&& (1431655765 : Int32))).toUInt32 >>> ((2 : Int32).toUInt32 &&& Int32.toUInt32 31)).toInt32) &&& (858993459 : Int32))) + (((((l0 - (((l0.toUInt32 >>> ((1 : Int32).toUInt32 &&& Int32.toUInt32 31)).toInt32) &&& (1431655765 : Int32))) &&& (858993459 : Int32)) + ((((l0 - (((l0.toUInt32 >>> ((1 : Int32).toUInt32 &&& Int32.toUInt32 31)).toInt32) &&& (1431655765 : Int32))).toUInt32 >>> ((2 : Int32).toUInt32 &&& Int32.toUInt32 31)).toInt32) &&& (858993459 : Int32))).toUInt32 >>> ((4 : Int32).toUInt32 &&& Int32.toUInt32 31)).toInt32)) &&& (252645135 : Int32)).toUInt32 >>> ((8 : Int32).toUInt32 &&& Int32.toUInt32 31)).toInt32)) + ((((((((l0 - (((l0.toUInt32 >>> ((1 : Int32).toUInt32 &&& Int32.toUInt32 31)).toInt32) &&& (1431655765 : Int32))) &&& (858993459 : Int32)) + ((((l0 - (((l0.toUInt32 >>> ((1 : Int32).toUInt32 &&& Int32.toUInt32 31)).toInt32) &&& (1431655765 : Int32))).toUInt32 >>> ((2 : Int32).toUInt32 &&& Int32.toUInt32 31)).toInt32) &&& (858993459 : Int32))) + (((((l0 - (((l0.toUInt32 >>> ((1 : Int32).toUInt32 &&& Int32.toUInt32 31)).toInt32) &&& (1431655765 : Int32))) &&& (858993459 : Int32)) + ((((l0 - (((l0.toUInt32 >>> ((1 : Int32).toUInt32 &&& Int32.toUInt32 31)).toInt32) &&& (1431655765 : Int32))).toUInt32 >>> ((2 : Int32).toUInt32 &&& Int32.toUInt32 31)).toInt32) &&& (858993459 : Int32))).toUInt32 >>> ((4 : Int32).toUInt32 &&& Int32.toUInt32 31)).toInt32)) &&& (252645135 : Int32)) + (((((((l0 - (((l0.toUInt32 >>> ((1 : Int32).toUInt32 &&& Int32.toUInt32 31)).toInt32) &&& (1431655765 : Int32))) &&& (858993459 : Int32)) + ((((l0 - (((l0.toUInt32 >>> ((1 : Int32).toUInt32 &&& Int32.toUInt32 31)).toInt32) &&& (1431655765 : Int32))).toUInt32 >>> ((2 : Int32).toUInt32 &&& Int32.toUInt32 31)).toInt32) &&& (858993459 : Int32))) + (((((l0 - (((l0.toUInt32 >>> ((1 : Int32).toUInt32 &&& Int32.toUInt32 31)).toInt32) &&& (1431655765 : Int32))) &&& (858993459 : Int32)) + ((((l0 - (((l0.toUInt32 >>> ((1 : Int32).toUInt32 &&& Int32.toUInt32 31)).toInt32) &&& (1431655765 : Int32))).toUInt32 >>> ((2 : Int32).toUInt32 &&& Int32.toUInt32 31)).toInt32) &&& (858993459 : Int32))).toUInt32 >>> ((4 : Int32).toUInt32 &&& Int32.toUInt32 31)).toInt32)) &&& (252645135 : Int32)).toUInt32 >>> ((8 : Int32).toUInt32 &&& Int32.toUInt32 31)).toInt32)).toUInt32 >>> ((16 : Int32).toUInt32 &&& Int32.toUInt32 31)).toInt32)) &&& (63 : Int32))
theorem mc_J6_bitCount_0f7a4 (l : Launch) (G : pG) (F n : Nat) {h : pH} {l0 : Int32} {res : Int32} (hx : x_J6_bitCount_0f7a4 F h l0 = some res) : MC l yJ6_bitCount_0f7a4 cJ6_bitCount_0f7a4 1 (some (FieldType.int)) (rmD 0 0 0) G [.int l0] n h (some (.int res)) n h := by
  unfold x_J6_bitCount_0f7a4 at hx
  refine jj_entry RJ6 rfl (by decide) (Nat.le_of_ble_eq_true rfl) (fun X _ _ C => ?_)
  show J X G (0, 0, some (.int res), n, h) (0, 0, n) h 0 [(0, .int l0)] []
  refine jj_iload_n C 0 0 dJ6_bitCount_0f7a4_0 rfl rfl ?_
  refine jj_iload_n C 0 0 dJ6_bitCount_0f7a4_1 rfl rfl ?_
  refine jj_iconst (v := 1) C dJ6_bitCount_0f7a4_2 (by decide) ?_
  refine jj_iushr C dJ6_bitCount_0f7a4_3 ?_
  refine jj_ldcw C dJ6_bitCount_0f7a4_4 ct_J6_265 ?_
  refine jj_iand C dJ6_bitCount_0f7a4_7 ?_
  refine jj_isub C dJ6_bitCount_0f7a4_8 ?_
  refine jj_istore_n C 0 dJ6_bitCount_0f7a4_9 rfl rfl (by decide) ?_
  refine jj_iload_n C 0 0 dJ6_bitCount_0f7a4_10 rfl rfl ?_
  refine jj_ldcw C dJ6_bitCount_0f7a4_11 ct_J6_266 ?_
  refine jj_iand C dJ6_bitCount_0f7a4_14 ?_
  refine jj_iload_n C 0 0 dJ6_bitCount_0f7a4_15 rfl rfl ?_
  refine jj_iconst (v := 2) C dJ6_bitCount_0f7a4_16 (by decide) ?_
  refine jj_iushr C dJ6_bitCount_0f7a4_17 ?_
  refine jj_ldcw C dJ6_bitCount_0f7a4_18 ct_J6_266 ?_
  refine jj_iand C dJ6_bitCount_0f7a4_21 ?_
  refine jj_iadd C dJ6_bitCount_0f7a4_22 ?_
  refine jj_istore_n C 0 dJ6_bitCount_0f7a4_23 rfl rfl (by decide) ?_
  refine jj_iload_n C 0 0 dJ6_bitCount_0f7a4_24 rfl rfl ?_
  refine jj_iload_n C 0 0 dJ6_bitCount_0f7a4_25 rfl rfl ?_
  refine jj_iconst (v := 4) C dJ6_bitCount_0f7a4_26 (by decide) ?_
  refine jj_iushr C dJ6_bitCount_0f7a4_27 ?_
  refine jj_iadd C dJ6_bitCount_0f7a4_28 ?_
  refine jj_ldcw C dJ6_bitCount_0f7a4_29 ct_J6_267 ?_
  refine jj_iand C dJ6_bitCount_0f7a4_32 ?_
  refine jj_istore_n C 0 dJ6_bitCount_0f7a4_33 rfl rfl (by decide) ?_
  refine jj_iload_n C 0 0 dJ6_bitCount_0f7a4_34 rfl rfl ?_
  refine jj_iload_n C 0 0 dJ6_bitCount_0f7a4_35 rfl rfl ?_
  refine jj_bipush (v := 8) C dJ6_bitCount_0f7a4_36 (by decide) ?_
  refine jj_iushr C dJ6_bitCount_0f7a4_38 ?_
  refine jj_iadd C dJ6_bitCount_0f7a4_39 ?_
  refine jj_istore_n C 0 dJ6_bitCount_0f7a4_40 rfl rfl (by decide) ?_
  refine jj_iload_n C 0 0 dJ6_bitCount_0f7a4_41 rfl rfl ?_
  refine jj_iload_n C 0 0 dJ6_bitCount_0f7a4_42 rfl rfl ?_
  refine jj_bipush (v := 16) C dJ6_bitCount_0f7a4_43 (by decide) ?_
  refine jj_iushr C dJ6_bitCount_0f7a4_45 ?_
  refine jj_iadd C dJ6_bitCount_0f7a4_46 ?_
  refine jj_istore_n C 0 dJ6_bitCount_0f7a4_47 rfl rfl (by decide) ?_
  refine jj_iload_n C 0 0 dJ6_bitCount_0f7a4_48 rfl rfl ?_
  refine jj_bipush (v := 63) C dJ6_bitCount_0f7a4_49 (by decide) ?_
  refine jj_iand C dJ6_bitCount_0f7a4_51 ?_
  cases hx
  exact jj_iret C dJ6_bitCount_0f7a4_52 rfl
def s_J7_fill_53178_5 (F : Nat)  (l0 : Nat) (l1 : Int32) (l3 : Int32) (k5 : pH → Int32 → Option pH) (h : pH) (l2 : Int32) : Option pH :=
  if l3 ≤ l2 then
    some h
  else
    (astI 0 h l0 l2 l1).bind fun v1 =>
    k5 v1 (l2 + 1)
def x_J7_fill_53178_5 (F : Nat)  (l0 : Nat) (l1 : Int32) (l3 : Int32) : Nat → pH → Int32 → Option pH
  | 0, _, _ => none
  | m + 1, h, l2 => s_J7_fill_53178_5 F l0 l1 l3 (x_J7_fill_53178_5 F l0 l1 l3 m) h l2
theorem ts_J7_fill_53178_5 {X : pX} {G : pG} {n : Nat} {res : pH} (C : Cx X G RJ7 cJ7_fill_53178 4 (rmD 0 0 0) n none) (F : Nat) {l0 : Nat} {l1 : Int32} {l3 : Int32} {k5 : pH → Int32 → Option pH} (hk5 : ∀ (h : pH) (l2 : Int32), k5 h l2 = some res → J X G (0, 0, none, n, res) (0, 0, n) h 5 [(0, .ref l0), (1, .int l1), (2, .int l2), (3, .int l3)] []) {h : pH} {l2 : Int32} (hx : s_J7_fill_53178_5 F l0 l1 l3 k5 h l2 = some res) : J X G (0, 0, none, n, res) (0, 0, n) h 5 [(0, .ref l0), (1, .int l1), (2, .int l2), (3, .int l3)] [] := by
  unfold s_J7_fill_53178_5 at hx
  refine jj_iload_n C 2 2 dJ7_fill_53178_5 rfl rfl ?_
  refine jj_iload_n C 3 3 dJ7_fill_53178_6 rfl rfl ?_
  refine jj_icmp_ge (tgt := 20) C dJ7_fill_53178_7 (by decide) (fun q7 => ?_) (fun q7 => ?_)
  · rw [if_pos q7] at hx
    cases hx
    exact jj_vret C dJ7_fill_53178_20 rfl
  · rw [if_neg q7] at hx
    refine jj_aload_n C 0 0 dJ7_fill_53178_10 rfl rfl ?_
    refine jj_iload_n C 2 2 dJ7_fill_53178_11 rfl rfl ?_
    refine jj_iload_n C 1 1 dJ7_fill_53178_12 rfl rfl ?_
    obtain ⟨v1, ev1, hx⟩ := ob hx
    refine jj_iast C dJ7_fill_53178_13 ev1 ?_
    refine jj_iinc (v := l2 + 1) C 2 2 dJ7_fill_53178_14 rfl rfl rfl (by decide) ?_
    refine jj_goto (tgt := 5) C dJ7_fill_53178_17 (by decide) ?_
    refine jj_sub [1, 2, 0, 3] rfl ?_
    exact hk5 _ _ hx
theorem t_J7_fill_53178_5 {X : pX} {G : pG} {n : Nat} {res : pH} (C : Cx X G RJ7 cJ7_fill_53178 4 (rmD 0 0 0) n none) (F : Nat) {l0 : Nat} {l1 : Int32} {l3 : Int32} : ∀ (m : Nat) (h : pH) (l2 : Int32), x_J7_fill_53178_5 F l0 l1 l3 m h l2 = some res → J X G (0, 0, none, n, res) (0, 0, n) h 5 [(0, .ref l0), (1, .int l1), (2, .int l2), (3, .int l3)] [] := by
  intro m
  induction m with
  | zero => intro h l2 hx; exact nomatch (show (none : Option pH) = some res from hx)
  | succ m ih => intro h l2 hx; exact ts_J7_fill_53178_5 C F  ih hx
def x_J7_fill_53178 (F : Nat) (h : pH) (l0 : Nat) (l1 : Int32) : Option pH :=
  (alen h l0).bind fun v1 =>
  x_J7_fill_53178_5 F l0 l1 v1 F h 0
theorem mc_J7_fill_53178 (l : Launch) (G : pG) (F n : Nat) {h : pH} {l0 : Nat} {l1 : Int32} {res : pH} (hx : x_J7_fill_53178 F h l0 l1 = some res) : MC l yJ7_fill_53178 cJ7_fill_53178 4 none (rmD 0 0 0) G [.ref l0, .int l1] n h (none) n res := by
  unfold x_J7_fill_53178 at hx
  refine jj_entry RJ7 rfl (by decide) (Nat.le_of_ble_eq_true rfl) (fun X _ _ C => ?_)
  show J X G (0, 0, none, n, res) (0, 0, n) h 0 [(0, .ref l0), (1, .int l1)] []
  refine jj_iconst (v := 0) C dJ7_fill_53178_0 (by decide) ?_
  refine jj_istore_n C 2 dJ7_fill_53178_1 rfl rfl (by decide) ?_
  refine jj_aload_n C 0 1 dJ7_fill_53178_2 rfl rfl ?_
  obtain ⟨v1, ev1, hx⟩ := ob hx
  refine jj_alen C dJ7_fill_53178_3 ev1 ?_
  refine jj_istore_n C 3 dJ7_fill_53178_4 rfl rfl (by decide) ?_
  refine jj_sub [2, 3, 1, 0] rfl ?_
  exact t_J7_fill_53178_5 C F F _ _ hx
def s_J7_fill_d0a16_6 (F : Nat)  (l0 : Nat) (l1 : Int64) (l4 : Int32) (k6 : pH → Int32 → Option pH) (h : pH) (l3 : Int32) : Option pH :=
  if l4 ≤ l3 then
    some h
  else
    (astL h l0 l3 l1).bind fun v1 =>
    k6 v1 (l3 + 1)
def x_J7_fill_d0a16_6 (F : Nat)  (l0 : Nat) (l1 : Int64) (l4 : Int32) : Nat → pH → Int32 → Option pH
  | 0, _, _ => none
  | m + 1, h, l3 => s_J7_fill_d0a16_6 F l0 l1 l4 (x_J7_fill_d0a16_6 F l0 l1 l4 m) h l3
theorem ts_J7_fill_d0a16_6 {X : pX} {G : pG} {n : Nat} {res : pH} (C : Cx X G RJ7 cJ7_fill_d0a16 5 (rmD 0 0 0) n none) (F : Nat) {l0 : Nat} {l1 : Int64} {l4 : Int32} {k6 : pH → Int32 → Option pH} (hk6 : ∀ (h : pH) (l3 : Int32), k6 h l3 = some res → J X G (0, 0, none, n, res) (0, 0, n) h 6 [(0, .ref l0), (1, .long l1), (3, .int l3), (4, .int l4)] []) {h : pH} {l3 : Int32} (hx : s_J7_fill_d0a16_6 F l0 l1 l4 k6 h l3 = some res) : J X G (0, 0, none, n, res) (0, 0, n) h 6 [(0, .ref l0), (1, .long l1), (3, .int l3), (4, .int l4)] [] := by
  unfold s_J7_fill_d0a16_6 at hx
  refine jj_iload_n C 3 2 dJ7_fill_d0a16_6 rfl rfl ?_
  refine jj_iload C 4 3 dJ7_fill_d0a16_7 rfl ?_
  refine jj_icmp_ge (tgt := 22) C dJ7_fill_d0a16_9 (by decide) (fun q9 => ?_) (fun q9 => ?_)
  · rw [if_pos q9] at hx
    cases hx
    exact jj_vret C dJ7_fill_d0a16_22 rfl
  · rw [if_neg q9] at hx
    refine jj_aload_n C 0 0 dJ7_fill_d0a16_12 rfl rfl ?_
    refine jj_iload_n C 3 2 dJ7_fill_d0a16_13 rfl rfl ?_
    refine jj_lload_n C 1 1 dJ7_fill_d0a16_14 rfl rfl ?_
    obtain ⟨v1, ev1, hx⟩ := ob hx
    refine jj_last C dJ7_fill_d0a16_15 ev1 ?_
    refine jj_iinc (v := l3 + 1) C 3 2 dJ7_fill_d0a16_16 rfl rfl rfl (by decide) ?_
    refine jj_goto (tgt := 6) C dJ7_fill_d0a16_19 (by decide) ?_
    refine jj_sub [1, 2, 0, 3] rfl ?_
    exact hk6 _ _ hx
theorem t_J7_fill_d0a16_6 {X : pX} {G : pG} {n : Nat} {res : pH} (C : Cx X G RJ7 cJ7_fill_d0a16 5 (rmD 0 0 0) n none) (F : Nat) {l0 : Nat} {l1 : Int64} {l4 : Int32} : ∀ (m : Nat) (h : pH) (l3 : Int32), x_J7_fill_d0a16_6 F l0 l1 l4 m h l3 = some res → J X G (0, 0, none, n, res) (0, 0, n) h 6 [(0, .ref l0), (1, .long l1), (3, .int l3), (4, .int l4)] [] := by
  intro m
  induction m with
  | zero => intro h l3 hx; exact nomatch (show (none : Option pH) = some res from hx)
  | succ m ih => intro h l3 hx; exact ts_J7_fill_d0a16_6 C F  ih hx
def x_J7_fill_d0a16 (F : Nat) (h : pH) (l0 : Nat) (l1 : Int64) : Option pH :=
  (alen h l0).bind fun v1 =>
  x_J7_fill_d0a16_6 F l0 l1 v1 F h 0
theorem mc_J7_fill_d0a16 (l : Launch) (G : pG) (F n : Nat) {h : pH} {l0 : Nat} {l1 : Int64} {res : pH} (hx : x_J7_fill_d0a16 F h l0 l1 = some res) : MC l yJ7_fill_d0a16 cJ7_fill_d0a16 5 none (rmD 0 0 0) G [.ref l0, .long l1] n h (none) n res := by
  unfold x_J7_fill_d0a16 at hx
  refine jj_entry RJ7 rfl (by decide) (Nat.le_of_ble_eq_true rfl) (fun X _ _ C => ?_)
  show J X G (0, 0, none, n, res) (0, 0, n) h 0 [(0, .ref l0), (1, .long l1)] []
  refine jj_iconst (v := 0) C dJ7_fill_d0a16_0 (by decide) ?_
  refine jj_istore_n C 3 dJ7_fill_d0a16_1 rfl rfl (by decide) ?_
  refine jj_aload_n C 0 1 dJ7_fill_d0a16_2 rfl rfl ?_
  obtain ⟨v1, ev1, hx⟩ := ob hx
  refine jj_alen C dJ7_fill_d0a16_3 ev1 ?_
  refine jj_istore C 4 dJ7_fill_d0a16_4 rfl (by decide) ?_
  refine jj_sub [2, 3, 1, 0] rfl ?_
  exact t_J7_fill_d0a16_6 C F F _ _ hx
def x_X6_letterOf_11 (F : Nat)  (h : pH) (l0 : Nat) (l2 : Int32) : Option Int32 :=
  (getR 6 h l0 0).bind fun v1 =>
  (aldI 0 h v1 l2).bind fun v2 =>
  some v2
theorem t_X6_letterOf_11 {X : pX} {G : pG} {n : Nat} {res : Int32} (C : Cx X G RX6 cX6_letterOf 3 (rmD 0 0 0) n (some (FieldType.int))) (F : Nat) {h : pH} {l0 : Nat} {l2 : Int32} (hx : x_X6_letterOf_11 F h l0 l2 = some res) : J X G (0, 0, some (.int res), n, h) (0, 0, n) h 11 [(0, .ref l0), (2, .int l2)] [] := by
  unfold x_X6_letterOf_11 at hx
  refine jj_aload_n C 0 0 dX6_letterOf_11 rfl rfl ?_
  obtain ⟨v1, ev1, hx⟩ := ob hx
  refine jj_getR C fd_X6_9 dX6_letterOf_12 ev1 ?_
  refine jj_iload_n C 2 1 dX6_letterOf_15 rfl rfl ?_
  obtain ⟨v2, ev2, hx⟩ := ob hx
  refine jj_iald C dX6_letterOf_16 ev2 ?_
  cases hx
  exact jj_iret C dX6_letterOf_17 rfl
def x_X6_letterOf_61 (F : Nat)  (h : pH) (s0 : Int32) (s1 : Nat) : Option Int32 :=
  (aldI 0 h s1 s0).bind fun v1 =>
  some v1
theorem t_X6_letterOf_61 {X : pX} {G : pG} {n : Nat} {res : Int32} (C : Cx X G RX6 cX6_letterOf 3 (rmD 0 0 0) n (some (FieldType.int))) (F : Nat) {h : pH} {s0 : Int32} {s1 : Nat} (hx : x_X6_letterOf_61 F h s0 s1 = some res) : J X G (0, 0, some (.int res), n, h) (0, 0, n) h 61 [] [.int s0, .ref s1] := by
  unfold x_X6_letterOf_61 at hx
  obtain ⟨v1, ev1, hx⟩ := ob hx
  refine jj_iald C dX6_letterOf_61 ev1 ?_
  cases hx
  exact jj_iret C dX6_letterOf_62 rfl
def x_X6_letterOf (F : Nat) (h : pH) (l0 : Nat) (l1 : Int32) (l2 : Int32) : Option Int32 :=
  (chk 6 h l0).bind fun _ =>
  if l1 = 0 then
    x_X6_letterOf_11 F h l0 l2
  else
    (getI 6 h l0 2).bind fun v1 =>
    if v1 = 0 then
      x_X6_letterOf_11 F h l0 l2
    else
      (getI 6 h l0 2).bind fun v2 =>
      if v2 = 1 then
        (getR 6 h l0 0).bind fun v5 =>
        (getI 6 h l0 1).bind fun v6 =>
        (aldI 0 h v5 ((v6 - (1 : Int32)) - l2)).bind fun v7 =>
        some v7
      else
        (getR 6 h l0 0).bind fun v3 =>
        (getI 6 h l0 1).bind fun v4 =>
        if v4 ≤ (l2 + (1 : Int32)) then
          x_X6_letterOf_61 F h 0 v3
        else
          x_X6_letterOf_61 F h (l2 + (1 : Int32)) v3
theorem o_X6_letterOf {F : Nat} {h : pH} {l0 : Nat} {l1 : Int32} {l2 : Int32} {res : Int32} (hx : x_X6_letterOf F h l0 l1 l2 = some res) : chk 6 h l0 = some () := by
  unfold x_X6_letterOf at hx
  obtain ⟨_, e, _⟩ := ob hx
  exact e
theorem mc_X6_letterOf (l : Launch) (G : pG) (F n : Nat) {h : pH} {l0 : Nat} {l1 : Int32} {l2 : Int32} {res : Int32} (hx : x_X6_letterOf F h l0 l1 l2 = some res) : MC l yX6_letterOf cX6_letterOf 3 (some (FieldType.int)) (rmD 0 0 0) G [.ref l0, .int l1, .int l2] n h (some (.int res)) n h := by
  unfold x_X6_letterOf at hx
  obtain ⟨_, _, hx⟩ := ob hx
  refine jj_entry RX6 rfl (by decide) (Nat.le_of_ble_eq_true rfl) (fun X _ _ C => ?_)
  show J X G (0, 0, some (.int res), n, h) (0, 0, n) h 0 [(0, .ref l0), (1, .int l1), (2, .int l2)] []
  refine jj_iload_n C 1 1 dX6_letterOf_0 rfl rfl ?_
  refine jj_if_eq (tgt := 11) C dX6_letterOf_1 (by decide) (fun q1 => ?_) (fun q1 => ?_)
  · rw [if_pos q1] at hx
    refine jj_sub [0, 2] rfl ?_
    exact t_X6_letterOf_11 C F hx
  · rw [if_neg q1] at hx
    refine jj_aload_n C 0 0 dX6_letterOf_4 rfl rfl ?_
    obtain ⟨v1, ev1, hx⟩ := ob hx
    refine jj_getI C fd_X6_15 dX6_letterOf_5 ev1 ?_
    refine jj_if_ne (tgt := 18) C dX6_letterOf_8 (by decide) (fun q8 => ?_) (fun q8 => ?_)
    · rw [if_neg q8] at hx
      refine jj_aload_n C 0 0 dX6_letterOf_18 rfl rfl ?_
      obtain ⟨v2, ev2, hx⟩ := ob hx
      refine jj_getI C fd_X6_15 dX6_letterOf_19 ev2 ?_
      refine jj_iconst (v := 1) C dX6_letterOf_22 (by decide) ?_
      refine jj_icmp_ne (tgt := 40) C dX6_letterOf_23 (by decide) (fun q23 => ?_) (fun q23 => ?_)
      · rw [if_neg q23] at hx
        refine jj_aload_n C 0 0 dX6_letterOf_40 rfl rfl ?_
        obtain ⟨v3, ev3, hx⟩ := ob hx
        refine jj_getR C fd_X6_9 dX6_letterOf_41 ev3 ?_
        refine jj_iload_n C 2 2 dX6_letterOf_44 rfl rfl ?_
        refine jj_iconst (v := 1) C dX6_letterOf_45 (by decide) ?_
        refine jj_iadd C dX6_letterOf_46 ?_
        refine jj_aload_n C 0 0 dX6_letterOf_47 rfl rfl ?_
        obtain ⟨v4, ev4, hx⟩ := ob hx
        refine jj_getI C fd_X6_19 dX6_letterOf_48 ev4 ?_
        refine jj_icmp_ge (tgt := 60) C dX6_letterOf_51 (by decide) (fun q51 => ?_) (fun q51 => ?_)
        · rw [if_pos q51] at hx
          refine jj_iconst (v := 0) C dX6_letterOf_60 (by decide) ?_
          refine jj_sub [] rfl ?_
          exact t_X6_letterOf_61 C F hx
        · rw [if_neg q51] at hx
          refine jj_iload_n C 2 2 dX6_letterOf_54 rfl rfl ?_
          refine jj_iconst (v := 1) C dX6_letterOf_55 (by decide) ?_
          refine jj_iadd C dX6_letterOf_56 ?_
          refine jj_goto (tgt := 61) C dX6_letterOf_57 (by decide) ?_
          refine jj_sub [] rfl ?_
          exact t_X6_letterOf_61 C F hx
      · rw [if_pos q23] at hx
        refine jj_aload_n C 0 0 dX6_letterOf_26 rfl rfl ?_
        obtain ⟨v5, ev5, hx⟩ := ob hx
        refine jj_getR C fd_X6_9 dX6_letterOf_27 ev5 ?_
        refine jj_aload_n C 0 0 dX6_letterOf_30 rfl rfl ?_
        obtain ⟨v6, ev6, hx⟩ := ob hx
        refine jj_getI C fd_X6_19 dX6_letterOf_31 ev6 ?_
        refine jj_iconst (v := 1) C dX6_letterOf_34 (by decide) ?_
        refine jj_isub C dX6_letterOf_35 ?_
        refine jj_iload_n C 2 2 dX6_letterOf_36 rfl rfl ?_
        refine jj_isub C dX6_letterOf_37 ?_
        obtain ⟨v7, ev7, hx⟩ := ob hx
        refine jj_iald C dX6_letterOf_38 ev7 ?_
        cases hx
        exact jj_iret C dX6_letterOf_39 rfl
    · rw [if_pos q8] at hx
      refine jj_sub [0, 2] rfl ?_
      exact t_X6_letterOf_11 C F hx
def s_X6_formEndsAt_24 (F : Nat)  (h : pH) (l0 : Nat) (l1 : Int32) (l2 : Nat) (l4 : Int32) (k24 : Int32 → Option Int32) (l5 : Int32) : Option Int32 :=
  (getI 6 h l0 1).bind fun v1 =>
  if v1 ≤ l5 then
    some (1 : Int32)
  else
    (aldI 0 h l2 (l4 + l5)).bind fun v2 =>
    (x_X6_letterOf F h l0 l1 l5).bind fun v3 =>
    if v2 = v3 then
      k24 (l5 + 1)
    else
      some (0 : Int32)
def x_X6_formEndsAt_24 (F : Nat)  (h : pH) (l0 : Nat) (l1 : Int32) (l2 : Nat) (l4 : Int32) : Nat → Int32 → Option Int32
  | 0, _ => none
  | m + 1, l5 => s_X6_formEndsAt_24 F h l0 l1 l2 l4 (x_X6_formEndsAt_24 F h l0 l1 l2 l4 m) l5
theorem ts_X6_formEndsAt_24 {X : pX} {G : pG} {n : Nat} {res : Int32} (C : Cx X G RX6 cX6_formEndsAt 6 (rmD 1 0 0) n (some (FieldType.boolean))) (F : Nat) {h : pH} {l0 : Nat} {l1 : Int32} {l2 : Nat} {l4 : Int32} {k24 : Int32 → Option Int32} (hk24 : ∀ (l5 : Int32), k24 l5 = some res → J X G (0, 0, some (.int res), n, h) (0, 0, n) h 24 [(0, .ref l0), (1, .int l1), (2, .ref l2), (4, .int l4), (5, .int l5)] []) {l5 : Int32} (hx : s_X6_formEndsAt_24 F h l0 l1 l2 l4 k24 l5 = some res) : J X G (0, 0, some (.int res), n, h) (0, 0, n) h 24 [(0, .ref l0), (1, .int l1), (2, .ref l2), (4, .int l4), (5, .int l5)] [] := by
  unfold s_X6_formEndsAt_24 at hx
  refine jj_iload C 5 4 dX6_formEndsAt_24 rfl ?_
  refine jj_aload_n C 0 0 dX6_formEndsAt_26 rfl rfl ?_
  obtain ⟨v1, ev1, hx⟩ := ob hx
  refine jj_getI C fd_X6_19 dX6_formEndsAt_27 ev1 ?_
  refine jj_icmp_ge (tgt := 58) C dX6_formEndsAt_30 (by decide) (fun q30 => ?_) (fun q30 => ?_)
  · rw [if_pos q30] at hx
    refine jj_iconst (v := 1) C dX6_formEndsAt_58 (by decide) ?_
    cases hx
    exact jj_zret C (Or.inr rfl) dX6_formEndsAt_59 rfl
  · rw [if_neg q30] at hx
    refine jj_aload_n C 2 2 dX6_formEndsAt_33 rfl rfl ?_
    refine jj_iload C 4 3 dX6_formEndsAt_34 rfl ?_
    refine jj_iload C 5 4 dX6_formEndsAt_36 rfl ?_
    refine jj_iadd C dX6_formEndsAt_38 ?_
    obtain ⟨v2, ev2, hx⟩ := ob hx
    refine jj_iald C dX6_formEndsAt_39 ev2 ?_
    refine jj_aload_n C 0 0 dX6_formEndsAt_40 rfl rfl ?_
    refine jj_iload_n C 1 1 dX6_formEndsAt_41 rfl rfl ?_
    refine jj_iload C 5 4 dX6_formEndsAt_42 rfl ?_
    obtain ⟨v3, ev3, hx⟩ := ob hx
    refine jj_callV C [.int l1, .int l5] lk_X6_28 (mc_X6_letterOf X.2.1 G F n ev3) (o_X6_letterOf ev3) rfl rfl (Nat.le_of_ble_eq_true rfl) ⟨Nat.le_of_ble_eq_true rfl, Nat.le_of_ble_eq_true rfl⟩ ⟨Nat.zero_le _, Nat.zero_le _⟩ rfl dX6_formEndsAt_44 rfl rfl ?_
    refine jj_icmp_eq (tgt := 52) C dX6_formEndsAt_47 (by decide) (fun q47 => ?_) (fun q47 => ?_)
    · rw [if_pos q47] at hx
      refine jj_iinc (v := l5 + 1) C 5 4 dX6_formEndsAt_52 rfl rfl rfl (by decide) ?_
      refine jj_goto (tgt := 24) C dX6_formEndsAt_55 (by decide) ?_
      refine jj_sub [1, 2, 3, 4, 0] rfl ?_
      exact hk24 _ hx
    · rw [if_neg q47] at hx
      refine jj_iconst (v := 0) C dX6_formEndsAt_50 (by decide) ?_
      cases hx
      exact jj_zret C (Or.inl rfl) dX6_formEndsAt_51 rfl
theorem t_X6_formEndsAt_24 {X : pX} {G : pG} {n : Nat} {res : Int32} (C : Cx X G RX6 cX6_formEndsAt 6 (rmD 1 0 0) n (some (FieldType.boolean))) (F : Nat) {h : pH} {l0 : Nat} {l1 : Int32} {l2 : Nat} {l4 : Int32} : ∀ (m : Nat) (l5 : Int32), x_X6_formEndsAt_24 F h l0 l1 l2 l4 m l5 = some res → J X G (0, 0, some (.int res), n, h) (0, 0, n) h 24 [(0, .ref l0), (1, .int l1), (2, .ref l2), (4, .int l4), (5, .int l5)] [] := by
  intro m
  induction m with
  | zero => intro l5 hx; exact nomatch (show (none : Option Int32) = some res from hx)
  | succ m ih => intro l5 hx; exact ts_X6_formEndsAt_24 C F  ih hx
def x_X6_formEndsAt (F : Nat) (h : pH) (l0 : Nat) (l1 : Int32) (l2 : Nat) (l3 : Int32) : Option Int32 :=
  (chk 6 h l0).bind fun _ =>
  (getI 6 h l0 1).bind fun v1 =>
  if (l3 - v1) < 0 then
    some (0 : Int32)
  else
    (alen h l2).bind fun v2 =>
    if l3 ≤ v2 then
      x_X6_formEndsAt_24 F h l0 l1 l2 (l3 - v1) F 0
    else
      some (0 : Int32)
theorem o_X6_formEndsAt {F : Nat} {h : pH} {l0 : Nat} {l1 : Int32} {l2 : Nat} {l3 : Int32} {res : Int32} (hx : x_X6_formEndsAt F h l0 l1 l2 l3 = some res) : chk 6 h l0 = some () := by
  unfold x_X6_formEndsAt at hx
  obtain ⟨_, e, _⟩ := ob hx
  exact e
theorem mc_X6_formEndsAt (l : Launch) (G : pG) (F n : Nat) {h : pH} {l0 : Nat} {l1 : Int32} {l2 : Nat} {l3 : Int32} {res : Int32} (hx : x_X6_formEndsAt F h l0 l1 l2 l3 = some res) : MC l yX6_formEndsAt cX6_formEndsAt 6 (some (FieldType.boolean)) (rmD 1 0 0) G [.ref l0, .int l1, .ref l2, .int l3] n h (some (.int res)) n h := by
  unfold x_X6_formEndsAt at hx
  obtain ⟨_, _, hx⟩ := ob hx
  refine jj_entry RX6 rfl (by decide) (Nat.le_of_ble_eq_true rfl) (fun X _ _ C => ?_)
  show J X G (0, 0, some (.int res), n, h) (0, 0, n) h 0 [(0, .ref l0), (1, .int l1), (2, .ref l2), (3, .int l3)] []
  refine jj_iload_n C 3 3 dX6_formEndsAt_0 rfl rfl ?_
  refine jj_aload_n C 0 0 dX6_formEndsAt_1 rfl rfl ?_
  obtain ⟨v1, ev1, hx⟩ := ob hx
  refine jj_getI C fd_X6_19 dX6_formEndsAt_2 ev1 ?_
  refine jj_isub C dX6_formEndsAt_5 ?_
  refine jj_istore C 4 dX6_formEndsAt_6 rfl (by decide) ?_
  refine jj_iload C 4 0 dX6_formEndsAt_8 rfl ?_
  refine jj_if_lt (tgt := 19) C dX6_formEndsAt_10 (by decide) (fun q10 => ?_) (fun q10 => ?_)
  · rw [if_pos q10] at hx
    refine jj_iconst (v := 0) C dX6_formEndsAt_19 (by decide) ?_
    cases hx
    exact jj_zret C (Or.inl rfl) dX6_formEndsAt_20 rfl
  · rw [if_neg q10] at hx
    refine jj_iload_n C 3 4 dX6_formEndsAt_13 rfl rfl ?_
    refine jj_aload_n C 2 3 dX6_formEndsAt_14 rfl rfl ?_
    obtain ⟨v2, ev2, hx⟩ := ob hx
    refine jj_alen C dX6_formEndsAt_15 ev2 ?_
    refine jj_icmp_le (tgt := 21) C dX6_formEndsAt_16 (by decide) (fun q16 => ?_) (fun q16 => ?_)
    · rw [if_pos q16] at hx
      refine jj_iconst (v := 0) C dX6_formEndsAt_21 (by decide) ?_
      refine jj_istore C 5 dX6_formEndsAt_22 rfl (by decide) ?_
      refine jj_sub [2, 3, 4, 1, 0] rfl ?_
      exact t_X6_formEndsAt_24 C F F _ hx
    · rw [if_neg q16] at hx
      refine jj_iconst (v := 0) C dX6_formEndsAt_19 (by decide) ?_
      cases hx
      exact jj_zret C (Or.inl rfl) dX6_formEndsAt_20 rfl
def x_X6_endsAt_27 (F : Nat)  (h : pH) : Option Int32 :=
  some (1 : Int32)
theorem t_X6_endsAt_27 {X : pX} {G : pG} {n : Nat} {res : Int32} (C : Cx X G RX6 cX6_endsAt 3 (rmD 2 0 0) n (some (FieldType.boolean))) (F : Nat) {h : pH} (hx : x_X6_endsAt_27 F h = some res) : J X G (0, 0, some (.int res), n, h) (0, 0, n) h 27 [] [] := by
  unfold x_X6_endsAt_27 at hx
  refine jj_iconst (v := 1) C dX6_endsAt_27 (by decide) ?_
  refine jj_goto (tgt := 32) C dX6_endsAt_28 (by decide) ?_
  cases hx
  exact jj_zret C (Or.inr rfl) dX6_endsAt_32 rfl
def x_X6_endsAt (F : Nat) (h : pH) (l0 : Nat) (l1 : Nat) (l2 : Int32) : Option Int32 :=
  (chk 6 h l0).bind fun _ =>
  (x_X6_formEndsAt F h l0 0 l1 l2).bind fun v1 =>
  if v1 = 0 then
    (getI 6 h l0 2).bind fun v2 =>
    if v2 = 0 then
      some (0 : Int32)
    else
      (x_X6_formEndsAt F h l0 1 l1 l2).bind fun v3 =>
      if v3 = 0 then
        some (0 : Int32)
      else
        x_X6_endsAt_27 F h
  else
    x_X6_endsAt_27 F h
theorem o_X6_endsAt {F : Nat} {h : pH} {l0 : Nat} {l1 : Nat} {l2 : Int32} {res : Int32} (hx : x_X6_endsAt F h l0 l1 l2 = some res) : chk 6 h l0 = some () := by
  unfold x_X6_endsAt at hx
  obtain ⟨_, e, _⟩ := ob hx
  exact e
theorem mc_X6_endsAt (l : Launch) (G : pG) (F n : Nat) {h : pH} {l0 : Nat} {l1 : Nat} {l2 : Int32} {res : Int32} (hx : x_X6_endsAt F h l0 l1 l2 = some res) : MC l yX6_endsAt cX6_endsAt 3 (some (FieldType.boolean)) (rmD 2 0 0) G [.ref l0, .ref l1, .int l2] n h (some (.int res)) n h := by
  unfold x_X6_endsAt at hx
  obtain ⟨_, _, hx⟩ := ob hx
  refine jj_entry RX6 rfl (by decide) (Nat.le_of_ble_eq_true rfl) (fun X _ _ C => ?_)
  show J X G (0, 0, some (.int res), n, h) (0, 0, n) h 0 [(0, .ref l0), (1, .ref l1), (2, .int l2)] []
  refine jj_aload_n C 0 0 dX6_endsAt_0 rfl rfl ?_
  refine jj_iconst (v := 0) C dX6_endsAt_1 (by decide) ?_
  refine jj_aload_n C 1 1 dX6_endsAt_2 rfl rfl ?_
  refine jj_iload_n C 2 2 dX6_endsAt_3 rfl rfl ?_
  obtain ⟨v1, ev1, hx⟩ := ob hx
  refine jj_callV C [.int 0, .ref l1, .int l2] lk_X6_32 (mc_X6_formEndsAt X.2.1 G F n ev1) (o_X6_formEndsAt ev1) rfl rfl (Nat.le_of_ble_eq_true rfl) ⟨Nat.le_of_ble_eq_true rfl, Nat.le_of_ble_eq_true rfl⟩ ⟨Nat.zero_le _, Nat.zero_le _⟩ rfl dX6_endsAt_4 rfl rfl ?_
  refine jj_if_ne (tgt := 27) C dX6_endsAt_7 (by decide) (fun q7 => ?_) (fun q7 => ?_)
  · rw [if_neg q7] at hx
    refine jj_sub [] rfl ?_
    exact t_X6_endsAt_27 C F hx
  · rw [if_pos q7] at hx
    refine jj_aload_n C 0 0 dX6_endsAt_10 rfl rfl ?_
    obtain ⟨v2, ev2, hx⟩ := ob hx
    refine jj_getI C fd_X6_15 dX6_endsAt_11 ev2 ?_
    refine jj_if_eq (tgt := 31) C dX6_endsAt_14 (by decide) (fun q14 => ?_) (fun q14 => ?_)
    · rw [if_pos q14] at hx
      refine jj_iconst (v := 0) C dX6_endsAt_31 (by decide) ?_
      cases hx
      exact jj_zret C (Or.inl rfl) dX6_endsAt_32 rfl
    · rw [if_neg q14] at hx
      refine jj_aload_n C 0 0 dX6_endsAt_17 rfl rfl ?_
      refine jj_iconst (v := 1) C dX6_endsAt_18 (by decide) ?_
      refine jj_aload_n C 1 1 dX6_endsAt_19 rfl rfl ?_
      refine jj_iload_n C 2 2 dX6_endsAt_20 rfl rfl ?_
      obtain ⟨v3, ev3, hx⟩ := ob hx
      refine jj_callV C [.int 1, .ref l1, .int l2] lk_X6_32 (mc_X6_formEndsAt X.2.1 G F n ev3) (o_X6_formEndsAt ev3) rfl rfl (Nat.le_of_ble_eq_true rfl) ⟨Nat.le_of_ble_eq_true rfl, Nat.le_of_ble_eq_true rfl⟩ ⟨Nat.zero_le _, Nat.zero_le _⟩ rfl dX6_endsAt_21 rfl rfl ?_
      refine jj_if_eq (tgt := 31) C dX6_endsAt_24 (by decide) (fun q24 => ?_) (fun q24 => ?_)
      · rw [if_pos q24] at hx
        refine jj_iconst (v := 0) C dX6_endsAt_31 (by decide) ?_
        cases hx
        exact jj_zret C (Or.inl rfl) dX6_endsAt_32 rfl
      · rw [if_neg q24] at hx
        refine jj_sub [] rfl ?_
        exact t_X6_endsAt_27 C F hx
def x_X7_isBelow (F : Nat) (h : pH) (l0 : Int32) (l1 : Int32) : Option Int32 :=
  if l0 < 0 then
    some (0 : Int32)
  else
    if l1 ≤ l0 then
      some (0 : Int32)
    else
      some (1 : Int32)
theorem mc_X7_isBelow (l : Launch) (G : pG) (F n : Nat) {h : pH} {l0 : Int32} {l1 : Int32} {res : Int32} (hx : x_X7_isBelow F h l0 l1 = some res) : MC l yX7_isBelow cX7_isBelow 2 (some (FieldType.boolean)) (rmD 0 0 0) G [.int l0, .int l1] n h (some (.int res)) n h := by
  unfold x_X7_isBelow at hx
  refine jj_entry RX7 rfl (by decide) (Nat.le_of_ble_eq_true rfl) (fun X _ _ C => ?_)
  show J X G (0, 0, some (.int res), n, h) (0, 0, n) h 0 [(0, .int l0), (1, .int l1)] []
  refine jj_iload_n C 0 0 dX7_isBelow_0 rfl rfl ?_
  refine jj_if_lt (tgt := 13) C dX7_isBelow_1 (by decide) (fun q1 => ?_) (fun q1 => ?_)
  · rw [if_pos q1] at hx
    refine jj_iconst (v := 0) C dX7_isBelow_13 (by decide) ?_
    cases hx
    exact jj_zret C (Or.inl rfl) dX7_isBelow_14 rfl
  · rw [if_neg q1] at hx
    refine jj_iload_n C 0 0 dX7_isBelow_4 rfl rfl ?_
    refine jj_iload_n C 1 1 dX7_isBelow_5 rfl rfl ?_
    refine jj_icmp_ge (tgt := 13) C dX7_isBelow_6 (by decide) (fun q6 => ?_) (fun q6 => ?_)
    · rw [if_pos q6] at hx
      refine jj_iconst (v := 0) C dX7_isBelow_13 (by decide) ?_
      cases hx
      exact jj_zret C (Or.inl rfl) dX7_isBelow_14 rfl
    · rw [if_neg q6] at hx
      refine jj_iconst (v := 1) C dX7_isBelow_9 (by decide) ?_
      refine jj_goto (tgt := 14) C dX7_isBelow_10 (by decide) ?_
      cases hx
      exact jj_zret C (Or.inr rfl) dX7_isBelow_14 rfl
def x_X6_become (F : Nat) (h : pH) (l0 : Nat) (l1 : Nat) : Option pH :=
  (chk 6 h l0).bind fun _ =>
  (getI 6 h l1 2).bind fun v1 =>
  (putV 6 h l0 2 (.int v1)).bind fun v2 =>
  (getI 6 v2 l1 1).bind fun v3 =>
  (putV 6 v2 l0 1 (.int v3)).bind fun v4 =>
  (getR 6 v4 l1 0).bind fun v5 =>
  (getR 6 v4 l0 0).bind fun v6 =>
  (acpI v4 v5 0 v6 0 4).bind fun v7 =>
  some v7
theorem o_X6_become {F : Nat} {h : pH} {l0 : Nat} {l1 : Nat} {res : pH} (hx : x_X6_become F h l0 l1 = some res) : chk 6 h l0 = some () := by
  unfold x_X6_become at hx
  obtain ⟨_, e, _⟩ := ob hx
  exact e
theorem mc_X6_become (l : Launch) (G : pG) (F n : Nat) {h : pH} {l0 : Nat} {l1 : Nat} {res : pH} (hx : x_X6_become F h l0 l1 = some res) : MC l yX6_become cX6_become 2 none (rmD 1 0 0) G [.ref l0, .ref l1] n h (none) n res := by
  unfold x_X6_become at hx
  obtain ⟨_, _, hx⟩ := ob hx
  refine jj_entry RX6 rfl (by decide) (Nat.le_of_ble_eq_true rfl) (fun X _ _ C => ?_)
  show J X G (0, 0, none, n, res) (0, 0, n) h 0 [(0, .ref l0), (1, .ref l1)] []
  refine jj_aload_n C 0 0 dX6_become_0 rfl rfl ?_
  refine jj_aload_n C 1 1 dX6_become_1 rfl rfl ?_
  obtain ⟨v1, ev1, hx⟩ := ob hx
  refine jj_getI C fd_X6_15 dX6_become_2 ev1 ?_
  obtain ⟨v2, ev2, hx⟩ := ob hx
  refine jj_put C fd_X6_15 rfl rfl dX6_become_5 ev2 ?_
  refine jj_aload_n C 0 0 dX6_become_8 rfl rfl ?_
  refine jj_aload_n C 1 1 dX6_become_9 rfl rfl ?_
  obtain ⟨v3, ev3, hx⟩ := ob hx
  refine jj_getI C fd_X6_19 dX6_become_10 ev3 ?_
  obtain ⟨v4, ev4, hx⟩ := ob hx
  refine jj_put C fd_X6_19 rfl rfl dX6_become_13 ev4 ?_
  refine jj_aload_n C 1 1 dX6_become_16 rfl rfl ?_
  obtain ⟨v5, ev5, hx⟩ := ob hx
  refine jj_getR C fd_X6_9 dX6_become_17 ev5 ?_
  refine jj_iconst (v := 0) C dX6_become_20 (by decide) ?_
  refine jj_aload_n C 0 0 dX6_become_21 rfl rfl ?_
  obtain ⟨v6, ev6, hx⟩ := ob hx
  refine jj_getR C fd_X6_9 dX6_become_22 ev6 ?_
  refine jj_iconst (v := 0) C dX6_become_25 (by decide) ?_
  refine jj_iconst (v := 4) C dX6_become_26 (by decide) ?_
  obtain ⟨v7, ev7, hx⟩ := ob hx
  refine jj_acp C ml_X6_22 (Nat.le_of_ble_eq_true rfl) (Nat.le_of_ble_eq_true rfl) dX6_become_27 ev7 ?_
  cases hx
  exact jj_vret C dX6_become_30 rfl
def x_X6_changeLast (F : Nat) (h : pH) (l0 : Nat) (l1 : Int32) : Option pH :=
  (chk 6 h l0).bind fun _ =>
  (getI 6 h l0 1).bind fun v1 =>
  if v1 ≤ 0 then
    some h
  else
    (getR 6 h l0 0).bind fun v2 =>
    (getI 6 h l0 1).bind fun v3 =>
    (astI 0 h v2 (v3 - (1 : Int32)) l1).bind fun v4 =>
    some v4
theorem o_X6_changeLast {F : Nat} {h : pH} {l0 : Nat} {l1 : Int32} {res : pH} (hx : x_X6_changeLast F h l0 l1 = some res) : chk 6 h l0 = some () := by
  unfold x_X6_changeLast at hx
  obtain ⟨_, e, _⟩ := ob hx
  exact e
theorem mc_X6_changeLast (l : Launch) (G : pG) (F n : Nat) {h : pH} {l0 : Nat} {l1 : Int32} {res : pH} (hx : x_X6_changeLast F h l0 l1 = some res) : MC l yX6_changeLast cX6_changeLast 2 none (rmD 0 0 0) G [.ref l0, .int l1] n h (none) n res := by
  unfold x_X6_changeLast at hx
  obtain ⟨_, _, hx⟩ := ob hx
  refine jj_entry RX6 rfl (by decide) (Nat.le_of_ble_eq_true rfl) (fun X _ _ C => ?_)
  show J X G (0, 0, none, n, res) (0, 0, n) h 0 [(0, .ref l0), (1, .int l1)] []
  refine jj_aload_n C 0 0 dX6_changeLast_0 rfl rfl ?_
  obtain ⟨v1, ev1, hx⟩ := ob hx
  refine jj_getI C fd_X6_19 dX6_changeLast_1 ev1 ?_
  refine jj_if_le (tgt := 19) C dX6_changeLast_4 (by decide) (fun q4 => ?_) (fun q4 => ?_)
  · rw [if_pos q4] at hx
    cases hx
    exact jj_vret C dX6_changeLast_19 rfl
  · rw [if_neg q4] at hx
    refine jj_aload_n C 0 0 dX6_changeLast_7 rfl rfl ?_
    obtain ⟨v2, ev2, hx⟩ := ob hx
    refine jj_getR C fd_X6_9 dX6_changeLast_8 ev2 ?_
    refine jj_aload_n C 0 0 dX6_changeLast_11 rfl rfl ?_
    obtain ⟨v3, ev3, hx⟩ := ob hx
    refine jj_getI C fd_X6_19 dX6_changeLast_12 ev3 ?_
    refine jj_iconst (v := 1) C dX6_changeLast_15 (by decide) ?_
    refine jj_isub C dX6_changeLast_16 ?_
    refine jj_iload_n C 1 1 dX6_changeLast_17 rfl rfl ?_
    obtain ⟨v4, ev4, hx⟩ := ob hx
    refine jj_iast C dX6_changeLast_18 ev4 ?_
    cases hx
    exact jj_vret C dX6_changeLast_19 rfl
def s_X6_liesOver_2 (F : Nat)  (h : pH) (l0 : Nat) (l1 : Nat) (l2 : Int32) (k2 : Int32 → Option Int32) (l3 : Int32) : Option Int32 :=
  if l2 ≤ l3 then
    some (1 : Int32)
  else
    (getR 6 h l0 0).bind fun v1 =>
    (getI 6 h l0 1).bind fun v2 =>
    (aldI 0 h v1 ((v2 - l2) + l3)).bind fun v3 =>
    (getR 6 h l1 0).bind fun v4 =>
    (aldI 0 h v4 l3).bind fun v5 =>
    if v3 = v5 then
      k2 (l3 + 1)
    else
      some (0 : Int32)
def x_X6_liesOver_2 (F : Nat)  (h : pH) (l0 : Nat) (l1 : Nat) (l2 : Int32) : Nat → Int32 → Option Int32
  | 0, _ => none
  | m + 1, l3 => s_X6_liesOver_2 F h l0 l1 l2 (x_X6_liesOver_2 F h l0 l1 l2 m) l3
theorem ts_X6_liesOver_2 {X : pX} {G : pG} {n : Nat} {res : Int32} (C : Cx X G RX6 cX6_liesOver 4 (rmD 0 0 0) n (some (FieldType.boolean))) (F : Nat) {h : pH} {l0 : Nat} {l1 : Nat} {l2 : Int32} {k2 : Int32 → Option Int32} (hk2 : ∀ (l3 : Int32), k2 l3 = some res → J X G (0, 0, some (.int res), n, h) (0, 0, n) h 2 [(0, .ref l0), (1, .ref l1), (2, .int l2), (3, .int l3)] []) {l3 : Int32} (hx : s_X6_liesOver_2 F h l0 l1 l2 k2 l3 = some res) : J X G (0, 0, some (.int res), n, h) (0, 0, n) h 2 [(0, .ref l0), (1, .ref l1), (2, .int l2), (3, .int l3)] [] := by
  unfold s_X6_liesOver_2 at hx
  refine jj_iload_n C 3 3 dX6_liesOver_2 rfl rfl ?_
  refine jj_iload_n C 2 2 dX6_liesOver_3 rfl rfl ?_
  refine jj_icmp_ge (tgt := 37) C dX6_liesOver_4 (by decide) (fun q4 => ?_) (fun q4 => ?_)
  · rw [if_pos q4] at hx
    refine jj_iconst (v := 1) C dX6_liesOver_37 (by decide) ?_
    cases hx
    exact jj_zret C (Or.inr rfl) dX6_liesOver_38 rfl
  · rw [if_neg q4] at hx
    refine jj_aload_n C 0 0 dX6_liesOver_7 rfl rfl ?_
    obtain ⟨v1, ev1, hx⟩ := ob hx
    refine jj_getR C fd_X6_9 dX6_liesOver_8 ev1 ?_
    refine jj_aload_n C 0 0 dX6_liesOver_11 rfl rfl ?_
    obtain ⟨v2, ev2, hx⟩ := ob hx
    refine jj_getI C fd_X6_19 dX6_liesOver_12 ev2 ?_
    refine jj_iload_n C 2 2 dX6_liesOver_15 rfl rfl ?_
    refine jj_isub C dX6_liesOver_16 ?_
    refine jj_iload_n C 3 3 dX6_liesOver_17 rfl rfl ?_
    refine jj_iadd C dX6_liesOver_18 ?_
    obtain ⟨v3, ev3, hx⟩ := ob hx
    refine jj_iald C dX6_liesOver_19 ev3 ?_
    refine jj_aload_n C 1 1 dX6_liesOver_20 rfl rfl ?_
    obtain ⟨v4, ev4, hx⟩ := ob hx
    refine jj_getR C fd_X6_9 dX6_liesOver_21 ev4 ?_
    refine jj_iload_n C 3 3 dX6_liesOver_24 rfl rfl ?_
    obtain ⟨v5, ev5, hx⟩ := ob hx
    refine jj_iald C dX6_liesOver_25 ev5 ?_
    refine jj_icmp_eq (tgt := 31) C dX6_liesOver_26 (by decide) (fun q26 => ?_) (fun q26 => ?_)
    · rw [if_pos q26] at hx
      refine jj_iinc (v := l3 + 1) C 3 3 dX6_liesOver_31 rfl rfl rfl (by decide) ?_
      refine jj_goto (tgt := 2) C dX6_liesOver_34 (by decide) ?_
      refine jj_sub [1, 2, 3, 0] rfl ?_
      exact hk2 _ hx
    · rw [if_neg q26] at hx
      refine jj_iconst (v := 0) C dX6_liesOver_29 (by decide) ?_
      cases hx
      exact jj_zret C (Or.inl rfl) dX6_liesOver_30 rfl
theorem t_X6_liesOver_2 {X : pX} {G : pG} {n : Nat} {res : Int32} (C : Cx X G RX6 cX6_liesOver 4 (rmD 0 0 0) n (some (FieldType.boolean))) (F : Nat) {h : pH} {l0 : Nat} {l1 : Nat} {l2 : Int32} : ∀ (m : Nat) (l3 : Int32), x_X6_liesOver_2 F h l0 l1 l2 m l3 = some res → J X G (0, 0, some (.int res), n, h) (0, 0, n) h 2 [(0, .ref l0), (1, .ref l1), (2, .int l2), (3, .int l3)] [] := by
  intro m
  induction m with
  | zero => intro l3 hx; exact nomatch (show (none : Option Int32) = some res from hx)
  | succ m ih => intro l3 hx; exact ts_X6_liesOver_2 C F  ih hx
def x_X6_liesOver (F : Nat) (h : pH) (l0 : Nat) (l1 : Nat) (l2 : Int32) : Option Int32 :=
  (chk 6 h l0).bind fun _ =>
  x_X6_liesOver_2 F h l0 l1 l2 F 0
theorem o_X6_liesOver {F : Nat} {h : pH} {l0 : Nat} {l1 : Nat} {l2 : Int32} {res : Int32} (hx : x_X6_liesOver F h l0 l1 l2 = some res) : chk 6 h l0 = some () := by
  unfold x_X6_liesOver at hx
  obtain ⟨_, e, _⟩ := ob hx
  exact e
theorem mc_X6_liesOver (l : Launch) (G : pG) (F n : Nat) {h : pH} {l0 : Nat} {l1 : Nat} {l2 : Int32} {res : Int32} (hx : x_X6_liesOver F h l0 l1 l2 = some res) : MC l yX6_liesOver cX6_liesOver 4 (some (FieldType.boolean)) (rmD 0 0 0) G [.ref l0, .ref l1, .int l2] n h (some (.int res)) n h := by
  unfold x_X6_liesOver at hx
  obtain ⟨_, _, hx⟩ := ob hx
  refine jj_entry RX6 rfl (by decide) (Nat.le_of_ble_eq_true rfl) (fun X _ _ C => ?_)
  show J X G (0, 0, some (.int res), n, h) (0, 0, n) h 0 [(0, .ref l0), (1, .ref l1), (2, .int l2)] []
  refine jj_iconst (v := 0) C dX6_liesOver_0 (by decide) ?_
  refine jj_istore_n C 3 dX6_liesOver_1 rfl rfl (by decide) ?_
  refine jj_sub [1, 2, 3, 0] rfl ?_
  exact t_X6_liesOver_2 C F F _ hx
def s_X6_lettersOver_12 (F : Nat)  (h : pH) (l0 : Nat) (l1 : Nat) (k12 : Int32 → Option Int32) (l2 : Int32) : Option Int32 :=
  if l2 ≤ 0 then
    some (0 : Int32)
  else
    (x_X6_liesOver F h l0 l1 l2).bind fun v1 =>
    if v1 = 0 then
      k12 (l2 + (-1))
    else
      some l2
def x_X6_lettersOver_12 (F : Nat)  (h : pH) (l0 : Nat) (l1 : Nat) : Nat → Int32 → Option Int32
  | 0, _ => none
  | m + 1, l2 => s_X6_lettersOver_12 F h l0 l1 (x_X6_lettersOver_12 F h l0 l1 m) l2
theorem ts_X6_lettersOver_12 {X : pX} {G : pG} {n : Nat} {res : Int32} (C : Cx X G RX6 cX6_lettersOver 3 (rmD 1 0 0) n (some (FieldType.int))) (F : Nat) {h : pH} {l0 : Nat} {l1 : Nat} {k12 : Int32 → Option Int32} (hk12 : ∀ (l2 : Int32), k12 l2 = some res → J X G (0, 0, some (.int res), n, h) (0, 0, n) h 12 [(0, .ref l0), (1, .ref l1), (2, .int l2)] []) {l2 : Int32} (hx : s_X6_lettersOver_12 F h l0 l1 k12 l2 = some res) : J X G (0, 0, some (.int res), n, h) (0, 0, n) h 12 [(0, .ref l0), (1, .ref l1), (2, .int l2)] [] := by
  unfold s_X6_lettersOver_12 at hx
  refine jj_iload_n C 2 2 dX6_lettersOver_12 rfl rfl ?_
  refine jj_if_le (tgt := 33) C dX6_lettersOver_13 (by decide) (fun q13 => ?_) (fun q13 => ?_)
  · rw [if_pos q13] at hx
    refine jj_iconst (v := 0) C dX6_lettersOver_33 (by decide) ?_
    cases hx
    exact jj_iret C dX6_lettersOver_34 rfl
  · rw [if_neg q13] at hx
    refine jj_aload_n C 0 0 dX6_lettersOver_16 rfl rfl ?_
    refine jj_aload_n C 1 1 dX6_lettersOver_17 rfl rfl ?_
    refine jj_iload_n C 2 2 dX6_lettersOver_18 rfl rfl ?_
    obtain ⟨v1, ev1, hx⟩ := ob hx
    refine jj_callV C [.ref l1, .int l2] lk_X6_45 (mc_X6_liesOver X.2.1 G F n ev1) (o_X6_liesOver ev1) rfl rfl (Nat.le_of_ble_eq_true rfl) ⟨Nat.le_of_ble_eq_true rfl, Nat.le_of_ble_eq_true rfl⟩ ⟨Nat.zero_le _, Nat.zero_le _⟩ rfl dX6_lettersOver_19 rfl rfl ?_
    refine jj_if_eq (tgt := 27) C dX6_lettersOver_22 (by decide) (fun q22 => ?_) (fun q22 => ?_)
    · rw [if_pos q22] at hx
      refine jj_iinc (v := l2 + (-1)) C 2 2 dX6_lettersOver_27 rfl rfl rfl (by decide) ?_
      refine jj_goto (tgt := 12) C dX6_lettersOver_30 (by decide) ?_
      refine jj_sub [1, 2, 0] rfl ?_
      exact hk12 _ hx
    · rw [if_neg q22] at hx
      refine jj_iload_n C 2 2 dX6_lettersOver_25 rfl rfl ?_
      cases hx
      exact jj_iret C dX6_lettersOver_26 rfl
theorem t_X6_lettersOver_12 {X : pX} {G : pG} {n : Nat} {res : Int32} (C : Cx X G RX6 cX6_lettersOver 3 (rmD 1 0 0) n (some (FieldType.int))) (F : Nat) {h : pH} {l0 : Nat} {l1 : Nat} : ∀ (m : Nat) (l2 : Int32), x_X6_lettersOver_12 F h l0 l1 m l2 = some res → J X G (0, 0, some (.int res), n, h) (0, 0, n) h 12 [(0, .ref l0), (1, .ref l1), (2, .int l2)] [] := by
  intro m
  induction m with
  | zero => intro l2 hx; exact nomatch (show (none : Option Int32) = some res from hx)
  | succ m ih => intro l2 hx; exact ts_X6_lettersOver_12 C F  ih hx
def x_X6_lettersOver (F : Nat) (h : pH) (l0 : Nat) (l1 : Nat) : Option Int32 :=
  (chk 6 h l0).bind fun _ =>
  (getI 6 h l0 1).bind fun v1 =>
  (getI 6 h l1 1).bind fun v2 =>
  x_X6_lettersOver_12 F h l0 l1 F (if v2 < v1 then v2 else v1)
theorem o_X6_lettersOver {F : Nat} {h : pH} {l0 : Nat} {l1 : Nat} {res : Int32} (hx : x_X6_lettersOver F h l0 l1 = some res) : chk 6 h l0 = some () := by
  unfold x_X6_lettersOver at hx
  obtain ⟨_, e, _⟩ := ob hx
  exact e
theorem mc_X6_lettersOver (l : Launch) (G : pG) (F n : Nat) {h : pH} {l0 : Nat} {l1 : Nat} {res : Int32} (hx : x_X6_lettersOver F h l0 l1 = some res) : MC l yX6_lettersOver cX6_lettersOver 3 (some (FieldType.int)) (rmD 1 0 0) G [.ref l0, .ref l1] n h (some (.int res)) n h := by
  unfold x_X6_lettersOver at hx
  obtain ⟨_, _, hx⟩ := ob hx
  refine jj_entry RX6 rfl (by decide) (Nat.le_of_ble_eq_true rfl) (fun X _ _ C => ?_)
  show J X G (0, 0, some (.int res), n, h) (0, 0, n) h 0 [(0, .ref l0), (1, .ref l1)] []
  refine jj_aload_n C 0 0 dX6_lettersOver_0 rfl rfl ?_
  obtain ⟨v1, ev1, hx⟩ := ob hx
  refine jj_getI C fd_X6_19 dX6_lettersOver_1 ev1 ?_
  refine jj_aload_n C 1 1 dX6_lettersOver_4 rfl rfl ?_
  obtain ⟨v2, ev2, hx⟩ := ob hx
  refine jj_getI C fd_X6_19 dX6_lettersOver_5 ev2 ?_
  refine jj_min C ml_X6_40 (Nat.le_of_ble_eq_true rfl) (Nat.le_of_ble_eq_true rfl) (Nat.zero_le _) (Nat.zero_le _) dX6_lettersOver_8 ?_
  refine jj_istore_n C 2 dX6_lettersOver_11 rfl rfl (by decide) ?_
  refine jj_sub [1, 2, 0] rfl ?_
  exact t_X6_lettersOver_12 C F F _ hx
def s_X6_standsIn_5 (F : Nat)  (h : pH) (l0 : Nat) (l1 : Nat) (l2 : Int32) (k5 : Int32 → Option Int32) (l3 : Int32) : Option Int32 :=
  if l2 < l3 then
    some (0 : Int32)
  else
    (x_X6_endsAt F h l0 l1 l3).bind fun v1 =>
    if v1 = 0 then
      k5 (l3 + 1)
    else
      some (1 : Int32)
def x_X6_standsIn_5 (F : Nat)  (h : pH) (l0 : Nat) (l1 : Nat) (l2 : Int32) : Nat → Int32 → Option Int32
  | 0, _ => none
  | m + 1, l3 => s_X6_standsIn_5 F h l0 l1 l2 (x_X6_standsIn_5 F h l0 l1 l2 m) l3
theorem ts_X6_standsIn_5 {X : pX} {G : pG} {n : Nat} {res : Int32} (C : Cx X G RX6 cX6_standsIn 4 (rmD 3 0 0) n (some (FieldType.boolean))) (F : Nat) {h : pH} {l0 : Nat} {l1 : Nat} {l2 : Int32} {k5 : Int32 → Option Int32} (hk5 : ∀ (l3 : Int32), k5 l3 = some res → J X G (0, 0, some (.int res), n, h) (0, 0, n) h 5 [(0, .ref l0), (1, .ref l1), (2, .int l2), (3, .int l3)] []) {l3 : Int32} (hx : s_X6_standsIn_5 F h l0 l1 l2 k5 l3 = some res) : J X G (0, 0, some (.int res), n, h) (0, 0, n) h 5 [(0, .ref l0), (1, .ref l1), (2, .int l2), (3, .int l3)] [] := by
  unfold s_X6_standsIn_5 at hx
  refine jj_iload_n C 3 3 dX6_standsIn_5 rfl rfl ?_
  refine jj_iload_n C 2 2 dX6_standsIn_6 rfl rfl ?_
  refine jj_icmp_gt (tgt := 27) C dX6_standsIn_7 (by decide) (fun q7 => ?_) (fun q7 => ?_)
  · rw [if_pos q7] at hx
    refine jj_iconst (v := 0) C dX6_standsIn_27 (by decide) ?_
    cases hx
    exact jj_zret C (Or.inl rfl) dX6_standsIn_28 rfl
  · rw [if_neg q7] at hx
    refine jj_aload_n C 0 0 dX6_standsIn_10 rfl rfl ?_
    refine jj_aload_n C 1 1 dX6_standsIn_11 rfl rfl ?_
    refine jj_iload_n C 3 3 dX6_standsIn_12 rfl rfl ?_
    obtain ⟨v1, ev1, hx⟩ := ob hx
    refine jj_callV C [.ref l1, .int l3] lk_X6_36 (mc_X6_endsAt X.2.1 G F n ev1) (o_X6_endsAt ev1) rfl rfl (Nat.le_of_ble_eq_true rfl) ⟨Nat.le_of_ble_eq_true rfl, Nat.le_of_ble_eq_true rfl⟩ ⟨Nat.zero_le _, Nat.zero_le _⟩ rfl dX6_standsIn_13 rfl rfl ?_
    refine jj_if_eq (tgt := 21) C dX6_standsIn_16 (by decide) (fun q16 => ?_) (fun q16 => ?_)
    · rw [if_pos q16] at hx
      refine jj_iinc (v := l3 + 1) C 3 3 dX6_standsIn_21 rfl rfl rfl (by decide) ?_
      refine jj_goto (tgt := 5) C dX6_standsIn_24 (by decide) ?_
      refine jj_sub [1, 2, 3, 0] rfl ?_
      exact hk5 _ hx
    · rw [if_neg q16] at hx
      refine jj_iconst (v := 1) C dX6_standsIn_19 (by decide) ?_
      cases hx
      exact jj_zret C (Or.inr rfl) dX6_standsIn_20 rfl
theorem t_X6_standsIn_5 {X : pX} {G : pG} {n : Nat} {res : Int32} (C : Cx X G RX6 cX6_standsIn 4 (rmD 3 0 0) n (some (FieldType.boolean))) (F : Nat) {h : pH} {l0 : Nat} {l1 : Nat} {l2 : Int32} : ∀ (m : Nat) (l3 : Int32), x_X6_standsIn_5 F h l0 l1 l2 m l3 = some res → J X G (0, 0, some (.int res), n, h) (0, 0, n) h 5 [(0, .ref l0), (1, .ref l1), (2, .int l2), (3, .int l3)] [] := by
  intro m
  induction m with
  | zero => intro l3 hx; exact nomatch (show (none : Option Int32) = some res from hx)
  | succ m ih => intro l3 hx; exact ts_X6_standsIn_5 C F  ih hx
def x_X6_standsIn (F : Nat) (h : pH) (l0 : Nat) (l1 : Nat) (l2 : Int32) : Option Int32 :=
  (chk 6 h l0).bind fun _ =>
  (getI 6 h l0 1).bind fun v1 =>
  x_X6_standsIn_5 F h l0 l1 l2 F v1
theorem o_X6_standsIn {F : Nat} {h : pH} {l0 : Nat} {l1 : Nat} {l2 : Int32} {res : Int32} (hx : x_X6_standsIn F h l0 l1 l2 = some res) : chk 6 h l0 = some () := by
  unfold x_X6_standsIn at hx
  obtain ⟨_, e, _⟩ := ob hx
  exact e
theorem mc_X6_standsIn (l : Launch) (G : pG) (F n : Nat) {h : pH} {l0 : Nat} {l1 : Nat} {l2 : Int32} {res : Int32} (hx : x_X6_standsIn F h l0 l1 l2 = some res) : MC l yX6_standsIn cX6_standsIn 4 (some (FieldType.boolean)) (rmD 3 0 0) G [.ref l0, .ref l1, .int l2] n h (some (.int res)) n h := by
  unfold x_X6_standsIn at hx
  obtain ⟨_, _, hx⟩ := ob hx
  refine jj_entry RX6 rfl (by decide) (Nat.le_of_ble_eq_true rfl) (fun X _ _ C => ?_)
  show J X G (0, 0, some (.int res), n, h) (0, 0, n) h 0 [(0, .ref l0), (1, .ref l1), (2, .int l2)] []
  refine jj_aload_n C 0 0 dX6_standsIn_0 rfl rfl ?_
  obtain ⟨v1, ev1, hx⟩ := ob hx
  refine jj_getI C fd_X6_19 dX6_standsIn_1 ev1 ?_
  refine jj_istore_n C 3 dX6_standsIn_4 rfl rfl (by decide) ?_
  refine jj_sub [1, 2, 3, 0] rfl ?_
  exact t_X6_standsIn_5 C F F _ hx
def x_X6_timesIn_27 (F : Nat) (k8 : Int32 → Int32 → Option Int32) (h : pH) (l0 : Nat) (l1 : Nat) (l2 : Int32) (l3 : Int32) (l4 : Int32) : Option Int32 :=
  k8 l3 (l4 + 1)
theorem t_X6_timesIn_27 {X : pX} {G : pG} {n : Nat} {res : Int32} (C : Cx X G RX6 cX6_timesIn 5 (rmD 3 0 0) n (some (FieldType.int))) (F : Nat) {h : pH} {l0 : Nat} {l1 : Nat} {l2 : Int32} {l3 : Int32} {l4 : Int32} {k8 : Int32 → Int32 → Option Int32} (hk8 : ∀ (l3 : Int32) (l4 : Int32), k8 l3 l4 = some res → J X G (0, 0, some (.int res), n, h) (0, 0, n) h 8 [(0, .ref l0), (1, .ref l1), (2, .int l2), (3, .int l3), (4, .int l4)] []) (hx : x_X6_timesIn_27 F k8 h l0 l1 l2 l3 l4 = some res) : J X G (0, 0, some (.int res), n, h) (0, 0, n) h 27 [(0, .ref l0), (1, .ref l1), (2, .int l2), (3, .int l3), (4, .int l4)] [] := by
  unfold x_X6_timesIn_27 at hx
  refine jj_iinc (v := l4 + 1) C 4 4 dX6_timesIn_27 rfl rfl rfl (by decide) ?_
  refine jj_goto (tgt := 8) C dX6_timesIn_30 (by decide) ?_
  refine jj_sub [1, 2, 3, 4, 0] rfl ?_
  exact hk8 _ _ hx
def s_X6_timesIn_8 (F : Nat)  (h : pH) (l0 : Nat) (l1 : Nat) (l2 : Int32) (k8 : Int32 → Int32 → Option Int32) (l3 : Int32) (l4 : Int32) : Option Int32 :=
  if l2 < l4 then
    some l3
  else
    (x_X6_endsAt F h l0 l1 l4).bind fun v1 =>
    if v1 = 0 then
      x_X6_timesIn_27 F k8 h l0 l1 l2 l3 l4
    else
      x_X6_timesIn_27 F k8 h l0 l1 l2 (l3 + 1) l4
def x_X6_timesIn_8 (F : Nat)  (h : pH) (l0 : Nat) (l1 : Nat) (l2 : Int32) : Nat → Int32 → Int32 → Option Int32
  | 0, _, _ => none
  | m + 1, l3, l4 => s_X6_timesIn_8 F h l0 l1 l2 (x_X6_timesIn_8 F h l0 l1 l2 m) l3 l4
theorem ts_X6_timesIn_8 {X : pX} {G : pG} {n : Nat} {res : Int32} (C : Cx X G RX6 cX6_timesIn 5 (rmD 3 0 0) n (some (FieldType.int))) (F : Nat) {h : pH} {l0 : Nat} {l1 : Nat} {l2 : Int32} {k8 : Int32 → Int32 → Option Int32} (hk8 : ∀ (l3 : Int32) (l4 : Int32), k8 l3 l4 = some res → J X G (0, 0, some (.int res), n, h) (0, 0, n) h 8 [(0, .ref l0), (1, .ref l1), (2, .int l2), (3, .int l3), (4, .int l4)] []) {l3 : Int32} {l4 : Int32} (hx : s_X6_timesIn_8 F h l0 l1 l2 k8 l3 l4 = some res) : J X G (0, 0, some (.int res), n, h) (0, 0, n) h 8 [(0, .ref l0), (1, .ref l1), (2, .int l2), (3, .int l3), (4, .int l4)] [] := by
  unfold s_X6_timesIn_8 at hx
  refine jj_iload C 4 4 dX6_timesIn_8 rfl ?_
  refine jj_iload_n C 2 2 dX6_timesIn_10 rfl rfl ?_
  refine jj_icmp_gt (tgt := 33) C dX6_timesIn_11 (by decide) (fun q11 => ?_) (fun q11 => ?_)
  · rw [if_pos q11] at hx
    refine jj_iload_n C 3 3 dX6_timesIn_33 rfl rfl ?_
    cases hx
    exact jj_iret C dX6_timesIn_34 rfl
  · rw [if_neg q11] at hx
    refine jj_aload_n C 0 0 dX6_timesIn_14 rfl rfl ?_
    refine jj_aload_n C 1 1 dX6_timesIn_15 rfl rfl ?_
    refine jj_iload C 4 4 dX6_timesIn_16 rfl ?_
    obtain ⟨v1, ev1, hx⟩ := ob hx
    refine jj_callV C [.ref l1, .int l4] lk_X6_36 (mc_X6_endsAt X.2.1 G F n ev1) (o_X6_endsAt ev1) rfl rfl (Nat.le_of_ble_eq_true rfl) ⟨Nat.le_of_ble_eq_true rfl, Nat.le_of_ble_eq_true rfl⟩ ⟨Nat.zero_le _, Nat.zero_le _⟩ rfl dX6_timesIn_18 rfl rfl ?_
    refine jj_if_eq (tgt := 27) C dX6_timesIn_21 (by decide) (fun q21 => ?_) (fun q21 => ?_)
    · rw [if_pos q21] at hx
      exact t_X6_timesIn_27 C F hk8 hx
    · rw [if_neg q21] at hx
      refine jj_iinc (v := l3 + 1) C 3 3 dX6_timesIn_24 rfl rfl rfl (by decide) ?_
      refine jj_sub [1, 2, 3, 0, 4] rfl ?_
      exact t_X6_timesIn_27 C F hk8 hx
theorem t_X6_timesIn_8 {X : pX} {G : pG} {n : Nat} {res : Int32} (C : Cx X G RX6 cX6_timesIn 5 (rmD 3 0 0) n (some (FieldType.int))) (F : Nat) {h : pH} {l0 : Nat} {l1 : Nat} {l2 : Int32} : ∀ (m : Nat) (l3 : Int32) (l4 : Int32), x_X6_timesIn_8 F h l0 l1 l2 m l3 l4 = some res → J X G (0, 0, some (.int res), n, h) (0, 0, n) h 8 [(0, .ref l0), (1, .ref l1), (2, .int l2), (3, .int l3), (4, .int l4)] [] := by
  intro m
  induction m with
  | zero => intro l3 l4 hx; exact nomatch (show (none : Option Int32) = some res from hx)
  | succ m ih => intro l3 l4 hx; exact ts_X6_timesIn_8 C F  ih hx
def x_X6_timesIn (F : Nat) (h : pH) (l0 : Nat) (l1 : Nat) (l2 : Int32) : Option Int32 :=
  (chk 6 h l0).bind fun _ =>
  (getI 6 h l0 1).bind fun v1 =>
  x_X6_timesIn_8 F h l0 l1 l2 F 0 v1
theorem o_X6_timesIn {F : Nat} {h : pH} {l0 : Nat} {l1 : Nat} {l2 : Int32} {res : Int32} (hx : x_X6_timesIn F h l0 l1 l2 = some res) : chk 6 h l0 = some () := by
  unfold x_X6_timesIn at hx
  obtain ⟨_, e, _⟩ := ob hx
  exact e
theorem mc_X6_timesIn (l : Launch) (G : pG) (F n : Nat) {h : pH} {l0 : Nat} {l1 : Nat} {l2 : Int32} {res : Int32} (hx : x_X6_timesIn F h l0 l1 l2 = some res) : MC l yX6_timesIn cX6_timesIn 5 (some (FieldType.int)) (rmD 3 0 0) G [.ref l0, .ref l1, .int l2] n h (some (.int res)) n h := by
  unfold x_X6_timesIn at hx
  obtain ⟨_, _, hx⟩ := ob hx
  refine jj_entry RX6 rfl (by decide) (Nat.le_of_ble_eq_true rfl) (fun X _ _ C => ?_)
  show J X G (0, 0, some (.int res), n, h) (0, 0, n) h 0 [(0, .ref l0), (1, .ref l1), (2, .int l2)] []
  refine jj_iconst (v := 0) C dX6_timesIn_0 (by decide) ?_
  refine jj_istore_n C 3 dX6_timesIn_1 rfl rfl (by decide) ?_
  refine jj_aload_n C 0 1 dX6_timesIn_2 rfl rfl ?_
  obtain ⟨v1, ev1, hx⟩ := ob hx
  refine jj_getI C fd_X6_19 dX6_timesIn_3 ev1 ?_
  refine jj_istore C 4 dX6_timesIn_6 rfl (by decide) ?_
  refine jj_sub [2, 3, 4, 1, 0] rfl ?_
  exact t_X6_timesIn_8 C F F _ _ hx
def s_X6_unlikeForms_2 (F : Nat)  (h : pH) (l0 : Nat) (k2 : Int32 → Option Int32) (l1 : Int32) : Option Int32 :=
  (getI 6 h l0 1).bind fun v1 =>
  if v1 ≤ l1 then
    some (1 : Int32)
  else
    (x_X6_letterOf F h l0 0 l1).bind fun v2 =>
    (x_X6_letterOf F h l0 1 l1).bind fun v3 =>
    if v2 = v3 then
      k2 (l1 + 1)
    else
      some (2 : Int32)
def x_X6_unlikeForms_2 (F : Nat)  (h : pH) (l0 : Nat) : Nat → Int32 → Option Int32
  | 0, _ => none
  | m + 1, l1 => s_X6_unlikeForms_2 F h l0 (x_X6_unlikeForms_2 F h l0 m) l1
theorem ts_X6_unlikeForms_2 {X : pX} {G : pG} {n : Nat} {res : Int32} (C : Cx X G RX6 cX6_unlikeForms 2 (rmD 1 0 0) n (some (FieldType.int))) (F : Nat) {h : pH} {l0 : Nat} {k2 : Int32 → Option Int32} (hk2 : ∀ (l1 : Int32), k2 l1 = some res → J X G (0, 0, some (.int res), n, h) (0, 0, n) h 2 [(0, .ref l0), (1, .int l1)] []) {l1 : Int32} (hx : s_X6_unlikeForms_2 F h l0 k2 l1 = some res) : J X G (0, 0, some (.int res), n, h) (0, 0, n) h 2 [(0, .ref l0), (1, .int l1)] [] := by
  unfold s_X6_unlikeForms_2 at hx
  refine jj_iload_n C 1 1 dX6_unlikeForms_2 rfl rfl ?_
  refine jj_aload_n C 0 0 dX6_unlikeForms_3 rfl rfl ?_
  obtain ⟨v1, ev1, hx⟩ := ob hx
  refine jj_getI C fd_X6_19 dX6_unlikeForms_4 ev1 ?_
  refine jj_icmp_ge (tgt := 33) C dX6_unlikeForms_7 (by decide) (fun q7 => ?_) (fun q7 => ?_)
  · rw [if_pos q7] at hx
    refine jj_iconst (v := 1) C dX6_unlikeForms_33 (by decide) ?_
    cases hx
    exact jj_iret C dX6_unlikeForms_34 rfl
  · rw [if_neg q7] at hx
    refine jj_aload_n C 0 0 dX6_unlikeForms_10 rfl rfl ?_
    refine jj_iconst (v := 0) C dX6_unlikeForms_11 (by decide) ?_
    refine jj_iload_n C 1 1 dX6_unlikeForms_12 rfl rfl ?_
    obtain ⟨v2, ev2, hx⟩ := ob hx
    refine jj_callV C [.int 0, .int l1] lk_X6_28 (mc_X6_letterOf X.2.1 G F n ev2) (o_X6_letterOf ev2) rfl rfl (Nat.le_of_ble_eq_true rfl) ⟨Nat.le_of_ble_eq_true rfl, Nat.le_of_ble_eq_true rfl⟩ ⟨Nat.zero_le _, Nat.zero_le _⟩ rfl dX6_unlikeForms_13 rfl rfl ?_
    refine jj_aload_n C 0 0 dX6_unlikeForms_16 rfl rfl ?_
    refine jj_iconst (v := 1) C dX6_unlikeForms_17 (by decide) ?_
    refine jj_iload_n C 1 1 dX6_unlikeForms_18 rfl rfl ?_
    obtain ⟨v3, ev3, hx⟩ := ob hx
    refine jj_callV C [.int 1, .int l1] lk_X6_28 (mc_X6_letterOf X.2.1 G F n ev3) (o_X6_letterOf ev3) rfl rfl (Nat.le_of_ble_eq_true rfl) ⟨Nat.le_of_ble_eq_true rfl, Nat.le_of_ble_eq_true rfl⟩ ⟨Nat.zero_le _, Nat.zero_le _⟩ rfl dX6_unlikeForms_19 rfl rfl ?_
    refine jj_icmp_eq (tgt := 27) C dX6_unlikeForms_22 (by decide) (fun q22 => ?_) (fun q22 => ?_)
    · rw [if_pos q22] at hx
      refine jj_iinc (v := l1 + 1) C 1 1 dX6_unlikeForms_27 rfl rfl rfl (by decide) ?_
      refine jj_goto (tgt := 2) C dX6_unlikeForms_30 (by decide) ?_
      refine jj_sub [1, 0] rfl ?_
      exact hk2 _ hx
    · rw [if_neg q22] at hx
      refine jj_iconst (v := 2) C dX6_unlikeForms_25 (by decide) ?_
      cases hx
      exact jj_iret C dX6_unlikeForms_26 rfl
theorem t_X6_unlikeForms_2 {X : pX} {G : pG} {n : Nat} {res : Int32} (C : Cx X G RX6 cX6_unlikeForms 2 (rmD 1 0 0) n (some (FieldType.int))) (F : Nat) {h : pH} {l0 : Nat} : ∀ (m : Nat) (l1 : Int32), x_X6_unlikeForms_2 F h l0 m l1 = some res → J X G (0, 0, some (.int res), n, h) (0, 0, n) h 2 [(0, .ref l0), (1, .int l1)] [] := by
  intro m
  induction m with
  | zero => intro l1 hx; exact nomatch (show (none : Option Int32) = some res from hx)
  | succ m ih => intro l1 hx; exact ts_X6_unlikeForms_2 C F  ih hx
def x_X6_unlikeForms (F : Nat) (h : pH) (l0 : Nat) : Option Int32 :=
  (chk 6 h l0).bind fun _ =>
  x_X6_unlikeForms_2 F h l0 F 0
theorem o_X6_unlikeForms {F : Nat} {h : pH} {l0 : Nat} {res : Int32} (hx : x_X6_unlikeForms F h l0 = some res) : chk 6 h l0 = some () := by
  unfold x_X6_unlikeForms at hx
  obtain ⟨_, e, _⟩ := ob hx
  exact e
theorem mc_X6_unlikeForms (l : Launch) (G : pG) (F n : Nat) {h : pH} {l0 : Nat} {res : Int32} (hx : x_X6_unlikeForms F h l0 = some res) : MC l yX6_unlikeForms cX6_unlikeForms 2 (some (FieldType.int)) (rmD 1 0 0) G [.ref l0] n h (some (.int res)) n h := by
  unfold x_X6_unlikeForms at hx
  obtain ⟨_, _, hx⟩ := ob hx
  refine jj_entry RX6 rfl (by decide) (Nat.le_of_ble_eq_true rfl) (fun X _ _ C => ?_)
  show J X G (0, 0, some (.int res), n, h) (0, 0, n) h 0 [(0, .ref l0)] []
  refine jj_iconst (v := 0) C dX6_unlikeForms_0 (by decide) ?_
  refine jj_istore_n C 1 dX6_unlikeForms_1 rfl rfl (by decide) ?_
  refine jj_sub [1, 0] rfl ?_
  exact t_X6_unlikeForms_2 C F F _ hx
end
