section
-- ===== PART A: goes FIRST, ahead of the names: the tables' words, and 'selects' of the private methods out of them =====
/-- a private method of a class that the tables say can be made, by its rows of tables_1 -/
def lw_okq (q : MethodName × Nat) : Prop := (q.1.cls ≠ "java/lang/invoke/MethodHandle" ∧ q.1.cls ≠ "java/lang/invoke/VarHandle") ∧ Cond.instantiable q.1.cls q.2 ∈ tables_1 ∧ Cond.privateMethod q.1 ∈ tables_1 ∧ Cond.instanceMethod q.1 ∈ tables_1
theorem lw_p0 : lw_okq (⟨"BellTrees$Forest", "slots", "(I)I"⟩, 7) := ⟨⟨by decide +kernel, by decide +kernel⟩, List.mem_of_getElem? (i := 24) (by decide +kernel), List.mem_of_getElem? (i := 286) (by decide +kernel), List.mem_of_getElem? (i := 287) (by decide +kernel)⟩
theorem lw_p1 : lw_okq (⟨"BellTrees", "shelfAt", "(I)LBellTrees$Shelf;"⟩, 9) := ⟨⟨by decide +kernel, by decide +kernel⟩, List.mem_of_getElem? (i := 16) (by decide +kernel), List.mem_of_getElem? (i := 294) (by decide +kernel), List.mem_of_getElem? (i := 295) (by decide +kernel)⟩
theorem lw_p2 : lw_okq (⟨"BellTrees", "plantFrom", "(LBellTrees$Shelf;II)Z"⟩, 9) := ⟨⟨by decide +kernel, by decide +kernel⟩, List.mem_of_getElem? (i := 16) (by decide +kernel), List.mem_of_getElem? (i := 306) (by decide +kernel), List.mem_of_getElem? (i := 307) (by decide +kernel)⟩
theorem lw_p3 : lw_okq (⟨"BellTrees$Changes", "dropOldest", "()V"⟩, 6) := ⟨⟨by decide +kernel, by decide +kernel⟩, List.mem_of_getElem? (i := 146) (by decide +kernel), List.mem_of_getElem? (i := 353) (by decide +kernel), List.mem_of_getElem? (i := 354) (by decide +kernel)⟩
theorem lw_p4 : lw_okq (⟨"BellTrees$Law", "readLines", "()Z"⟩, 15) := ⟨⟨by decide +kernel, by decide +kernel⟩, List.mem_of_getElem? (i := 60) (by decide +kernel), List.mem_of_getElem? (i := 402) (by decide +kernel), List.mem_of_getElem? (i := 403) (by decide +kernel)⟩
theorem lw_p5 : lw_okq (⟨"BellTrees$Law", "readLine", "()Z"⟩, 15) := ⟨⟨by decide +kernel, by decide +kernel⟩, List.mem_of_getElem? (i := 60) (by decide +kernel), List.mem_of_getElem? (i := 406) (by decide +kernel), List.mem_of_getElem? (i := 407) (by decide +kernel)⟩
theorem lw_p6 : lw_okq (⟨"BellTrees$Law", "readLevel", "(II)Z"⟩, 15) := ⟨⟨by decide +kernel, by decide +kernel⟩, List.mem_of_getElem? (i := 60) (by decide +kernel), List.mem_of_getElem? (i := 410) (by decide +kernel), List.mem_of_getElem? (i := 411) (by decide +kernel)⟩
theorem lw_p7 : lw_okq (⟨"BellTrees$Law", "readOperand", "(I)Z"⟩, 15) := ⟨⟨by decide +kernel, by decide +kernel⟩, List.mem_of_getElem? (i := 60) (by decide +kernel), List.mem_of_getElem? (i := 414) (by decide +kernel), List.mem_of_getElem? (i := 415) (by decide +kernel)⟩
theorem lw_p8 : lw_okq (⟨"BellTrees$Law", "next", "()I"⟩, 15) := ⟨⟨by decide +kernel, by decide +kernel⟩, List.mem_of_getElem? (i := 60) (by decide +kernel), List.mem_of_getElem? (i := 418) (by decide +kernel), List.mem_of_getElem? (i := 419) (by decide +kernel)⟩
theorem lw_p9 : lw_okq (⟨"BellTrees$Law", "readNumber", "()V"⟩, 15) := ⟨⟨by decide +kernel, by decide +kernel⟩, List.mem_of_getElem? (i := 60) (by decide +kernel), List.mem_of_getElem? (i := 422) (by decide +kernel), List.mem_of_getElem? (i := 423) (by decide +kernel)⟩
theorem lw_p10 : lw_okq (⟨"BellTrees$Law", "note", "(I)V"⟩, 15) := ⟨⟨by decide +kernel, by decide +kernel⟩, List.mem_of_getElem? (i := 60) (by decide +kernel), List.mem_of_getElem? (i := 426) (by decide +kernel), List.mem_of_getElem? (i := 427) (by decide +kernel)⟩
theorem lw_p11 : lw_okq (⟨"BellTrees$Law", "readClosing", "()Z"⟩, 15) := ⟨⟨by decide +kernel, by decide +kernel⟩, List.mem_of_getElem? (i := 60) (by decide +kernel), List.mem_of_getElem? (i := 433) (by decide +kernel), List.mem_of_getElem? (i := 434) (by decide +kernel)⟩
theorem lw_p12 : lw_okq (⟨"BellTrees$Sounds", "isHeard", "(I)Z"⟩, 4) := ⟨⟨by decide +kernel, by decide +kernel⟩, List.mem_of_getElem? (i := 112) (by decide +kernel), List.mem_of_getElem? (i := 469) (by decide +kernel), List.mem_of_getElem? (i := 470) (by decide +kernel)⟩
theorem lw_p13 : lw_okq (⟨"BellTrees$Law", "workOut", "()I"⟩, 15) := ⟨⟨by decide +kernel, by decide +kernel⟩, List.mem_of_getElem? (i := 60) (by decide +kernel), List.mem_of_getElem? (i := 477) (by decide +kernel), List.mem_of_getElem? (i := 478) (by decide +kernel)⟩
theorem lw_p14 : lw_okq (⟨"BellTrees$Law", "pop", "()I"⟩, 15) := ⟨⟨by decide +kernel, by decide +kernel⟩, List.mem_of_getElem? (i := 60) (by decide +kernel), List.mem_of_getElem? (i := 481) (by decide +kernel), List.mem_of_getElem? (i := 482) (by decide +kernel)⟩
theorem lw_p15 : lw_okq (⟨"BellTrees$Law", "valueBy", "(I)I"⟩, 15) := ⟨⟨by decide +kernel, by decide +kernel⟩, List.mem_of_getElem? (i := 60) (by decide +kernel), List.mem_of_getElem? (i := 485) (by decide +kernel), List.mem_of_getElem? (i := 486) (by decide +kernel)⟩
def lw_privs_1 : List (MethodName × Nat) := [(⟨"BellTrees$Forest", "slots", "(I)I"⟩, 7), (⟨"BellTrees", "shelfAt", "(I)LBellTrees$Shelf;"⟩, 9), (⟨"BellTrees", "plantFrom", "(LBellTrees$Shelf;II)Z"⟩, 9), (⟨"BellTrees$Changes", "dropOldest", "()V"⟩, 6), (⟨"BellTrees$Law", "readLines", "()Z"⟩, 15), (⟨"BellTrees$Law", "readLine", "()Z"⟩, 15), (⟨"BellTrees$Law", "readLevel", "(II)Z"⟩, 15), (⟨"BellTrees$Law", "readOperand", "(I)Z"⟩, 15), (⟨"BellTrees$Law", "next", "()I"⟩, 15), (⟨"BellTrees$Law", "readNumber", "()V"⟩, 15), (⟨"BellTrees$Law", "note", "(I)V"⟩, 15), (⟨"BellTrees$Law", "readClosing", "()Z"⟩, 15), (⟨"BellTrees$Sounds", "isHeard", "(I)Z"⟩, 4), (⟨"BellTrees$Law", "workOut", "()I"⟩, 15), (⟨"BellTrees$Law", "pop", "()I"⟩, 15), (⟨"BellTrees$Law", "valueBy", "(I)I"⟩, 15)]
theorem lw_r1 : ∀ q ∈ lw_privs_1, lw_okq q := List.forall_mem_cons.mpr ⟨lw_p0, List.forall_mem_cons.mpr ⟨lw_p1, List.forall_mem_cons.mpr ⟨lw_p2, List.forall_mem_cons.mpr ⟨lw_p3, List.forall_mem_cons.mpr ⟨lw_p4, List.forall_mem_cons.mpr ⟨lw_p5, List.forall_mem_cons.mpr ⟨lw_p6, List.forall_mem_cons.mpr ⟨lw_p7, List.forall_mem_cons.mpr ⟨lw_p8, List.forall_mem_cons.mpr ⟨lw_p9, List.forall_mem_cons.mpr ⟨lw_p10, List.forall_mem_cons.mpr ⟨lw_p11, List.forall_mem_cons.mpr ⟨lw_p12, List.forall_mem_cons.mpr ⟨lw_p13, List.forall_mem_cons.mpr ⟨lw_p14, List.forall_mem_cons.mpr ⟨lw_p15, fun _ h => absurd h List.not_mem_nil⟩⟩⟩⟩⟩⟩⟩⟩⟩⟩⟩⟩⟩⟩⟩⟩
theorem lw_p16 : lw_okq (⟨"BellTrees$Law", "named", "(I)I"⟩, 15) := ⟨⟨by decide +kernel, by decide +kernel⟩, List.mem_of_getElem? (i := 60) (by decide +kernel), List.mem_of_getElem? (i := 489) (by decide +kernel), List.mem_of_getElem? (i := 490) (by decide +kernel)⟩
theorem lw_p17 : lw_okq (⟨"BellTrees$Law", "push", "(I)V"⟩, 15) := ⟨⟨by decide +kernel, by decide +kernel⟩, List.mem_of_getElem? (i := 60) (by decide +kernel), List.mem_of_getElem? (i := 496) (by decide +kernel), List.mem_of_getElem? (i := 497) (by decide +kernel)⟩
theorem lw_p18 : lw_okq (⟨"BellTrees", "bookRefusal", "(LBellTrees$Shelf;IZ)I"⟩, 9) := ⟨⟨by decide +kernel, by decide +kernel⟩, List.mem_of_getElem? (i := 16) (by decide +kernel), List.mem_of_getElem? (i := 509) (by decide +kernel), List.mem_of_getElem? (i := 510) (by decide +kernel)⟩
theorem lw_p19 : lw_okq (⟨"BellTrees$Walks", "ways", "(II)I"⟩, 2) := ⟨⟨by decide +kernel, by decide +kernel⟩, List.mem_of_getElem? (i := 132) (by decide +kernel), List.mem_of_getElem? (i := 535) (by decide +kernel), List.mem_of_getElem? (i := 536) (by decide +kernel)⟩
theorem lw_p20 : lw_okq (⟨"BellTrees$Walks", "onwardAt", "(II)I"⟩, 2) := ⟨⟨by decide +kernel, by decide +kernel⟩, List.mem_of_getElem? (i := 132) (by decide +kernel), List.mem_of_getElem? (i := 540) (by decide +kernel), List.mem_of_getElem? (i := 541) (by decide +kernel)⟩
theorem lw_p21 : lw_okq (⟨"BellTrees$Walks", "fittingOf", "(II)I"⟩, 2) := ⟨⟨by decide +kernel, by decide +kernel⟩, List.mem_of_getElem? (i := 132) (by decide +kernel), List.mem_of_getElem? (i := 555) (by decide +kernel), List.mem_of_getElem? (i := 556) (by decide +kernel)⟩
theorem lw_p22 : lw_okq (⟨"BellTrees", "rowsRefusal", "(I)I"⟩, 9) := ⟨⟨by decide +kernel, by decide +kernel⟩, List.mem_of_getElem? (i := 16) (by decide +kernel), List.mem_of_getElem? (i := 577) (by decide +kernel), List.mem_of_getElem? (i := 578) (by decide +kernel)⟩
theorem lw_p23 : lw_okq (⟨"BellTrees$Walks", "quietest", "(II)I"⟩, 2) := ⟨⟨by decide +kernel, by decide +kernel⟩, List.mem_of_getElem? (i := 132) (by decide +kernel), List.mem_of_getElem? (i := 595) (by decide +kernel), List.mem_of_getElem? (i := 596) (by decide +kernel)⟩
theorem lw_p24 : lw_okq (⟨"BellTrees", "walkAndBookRefusal", "(II)I"⟩, 9) := ⟨⟨by decide +kernel, by decide +kernel⟩, List.mem_of_getElem? (i := 16) (by decide +kernel), List.mem_of_getElem? (i := 611) (by decide +kernel), List.mem_of_getElem? (i := 612) (by decide +kernel)⟩
theorem lw_p25 : lw_okq (⟨"BellTrees", "walksRefusal", "(I)I"⟩, 9) := ⟨⟨by decide +kernel, by decide +kernel⟩, List.mem_of_getElem? (i := 16) (by decide +kernel), List.mem_of_getElem? (i := 615) (by decide +kernel), List.mem_of_getElem? (i := 616) (by decide +kernel)⟩
theorem lw_p26 : lw_okq (⟨"BellTrees", "isWalk", "(LBellTrees$Shelf;)Z"⟩, 9) := ⟨⟨by decide +kernel, by decide +kernel⟩, List.mem_of_getElem? (i := 16) (by decide +kernel), List.mem_of_getElem? (i := 619) (by decide +kernel), List.mem_of_getElem? (i := 620) (by decide +kernel)⟩
theorem lw_p27 : lw_okq (⟨"BellTrees", "bellsGone", "(LBellTrees$Shelf;LBellTrees$Shelf;)I"⟩, 9) := ⟨⟨by decide +kernel, by decide +kernel⟩, List.mem_of_getElem? (i := 16) (by decide +kernel), List.mem_of_getElem? (i := 625) (by decide +kernel), List.mem_of_getElem? (i := 626) (by decide +kernel)⟩
theorem lw_p28 : lw_okq (⟨"BellTrees", "firstNotSo", "(LBellTrees$Shelf;LBellTrees$Shelf;I)I"⟩, 9) := ⟨⟨by decide +kernel, by decide +kernel⟩, List.mem_of_getElem? (i := 16) (by decide +kernel), List.mem_of_getElem? (i := 630) (by decide +kernel), List.mem_of_getElem? (i := 631) (by decide +kernel)⟩
theorem lw_p29 : lw_okq (⟨"BellTrees", "firstUnlike", "(LBellTrees$Shelf;LBellTrees$Shelf;LBellTrees$Sounds;I)I"⟩, 9) := ⟨⟨by decide +kernel, by decide +kernel⟩, List.mem_of_getElem? (i := 16) (by decide +kernel), List.mem_of_getElem? (i := 642) (by decide +kernel), List.mem_of_getElem? (i := 643) (by decide +kernel)⟩
theorem lw_p30 : lw_okq (⟨"BellTrees", "areTold", "(II)Z"⟩, 9) := ⟨⟨by decide +kernel, by decide +kernel⟩, List.mem_of_getElem? (i := 16) (by decide +kernel), List.mem_of_getElem? (i := 660) (by decide +kernel), List.mem_of_getElem? (i := 661) (by decide +kernel)⟩
theorem lw_p31 : lw_okq (⟨"BellTrees", "hasSound", "(LBellTrees$Shelf;I)Z"⟩, 9) := ⟨⟨by decide +kernel, by decide +kernel⟩, List.mem_of_getElem? (i := 16) (by decide +kernel), List.mem_of_getElem? (i := 664) (by decide +kernel), List.mem_of_getElem? (i := 665) (by decide +kernel)⟩
def lw_privs_2 : List (MethodName × Nat) := [(⟨"BellTrees$Law", "named", "(I)I"⟩, 15), (⟨"BellTrees$Law", "push", "(I)V"⟩, 15), (⟨"BellTrees", "bookRefusal", "(LBellTrees$Shelf;IZ)I"⟩, 9), (⟨"BellTrees$Walks", "ways", "(II)I"⟩, 2), (⟨"BellTrees$Walks", "onwardAt", "(II)I"⟩, 2), (⟨"BellTrees$Walks", "fittingOf", "(II)I"⟩, 2), (⟨"BellTrees", "rowsRefusal", "(I)I"⟩, 9), (⟨"BellTrees$Walks", "quietest", "(II)I"⟩, 2), (⟨"BellTrees", "walkAndBookRefusal", "(II)I"⟩, 9), (⟨"BellTrees", "walksRefusal", "(I)I"⟩, 9), (⟨"BellTrees", "isWalk", "(LBellTrees$Shelf;)Z"⟩, 9), (⟨"BellTrees", "bellsGone", "(LBellTrees$Shelf;LBellTrees$Shelf;)I"⟩, 9), (⟨"BellTrees", "firstNotSo", "(LBellTrees$Shelf;LBellTrees$Shelf;I)I"⟩, 9), (⟨"BellTrees", "firstUnlike", "(LBellTrees$Shelf;LBellTrees$Shelf;LBellTrees$Sounds;I)I"⟩, 9), (⟨"BellTrees", "areTold", "(II)Z"⟩, 9), (⟨"BellTrees", "hasSound", "(LBellTrees$Shelf;I)Z"⟩, 9)]
theorem lw_r2 : ∀ q ∈ lw_privs_2, lw_okq q := List.forall_mem_cons.mpr ⟨lw_p16, List.forall_mem_cons.mpr ⟨lw_p17, List.forall_mem_cons.mpr ⟨lw_p18, List.forall_mem_cons.mpr ⟨lw_p19, List.forall_mem_cons.mpr ⟨lw_p20, List.forall_mem_cons.mpr ⟨lw_p21, List.forall_mem_cons.mpr ⟨lw_p22, List.forall_mem_cons.mpr ⟨lw_p23, List.forall_mem_cons.mpr ⟨lw_p24, List.forall_mem_cons.mpr ⟨lw_p25, List.forall_mem_cons.mpr ⟨lw_p26, List.forall_mem_cons.mpr ⟨lw_p27, List.forall_mem_cons.mpr ⟨lw_p28, List.forall_mem_cons.mpr ⟨lw_p29, List.forall_mem_cons.mpr ⟨lw_p30, List.forall_mem_cons.mpr ⟨lw_p31, fun _ h => absurd h List.not_mem_nil⟩⟩⟩⟩⟩⟩⟩⟩⟩⟩⟩⟩⟩⟩⟩⟩
theorem lw_p32 : lw_okq (⟨"BellTrees$Forest", "isUnlikeWithout", "(I)Z"⟩, 7) := ⟨⟨by decide +kernel, by decide +kernel⟩, List.mem_of_getElem? (i := 24) (by decide +kernel), List.mem_of_getElem? (i := 678) (by decide +kernel), List.mem_of_getElem? (i := 679) (by decide +kernel)⟩
theorem lw_p33 : lw_okq (⟨"BellTrees", "drawWalkers", "(III)I"⟩, 9) := ⟨⟨by decide +kernel, by decide +kernel⟩, List.mem_of_getElem? (i := 16) (by decide +kernel), List.mem_of_getElem? (i := 687) (by decide +kernel), List.mem_of_getElem? (i := 688) (by decide +kernel)⟩
theorem lw_p34 : lw_okq (⟨"BellTrees$Bodies", "runOwn", "(III)I"⟩, 5) := ⟨⟨by decide +kernel, by decide +kernel⟩, List.mem_of_getElem? (i := 199) (by decide +kernel), List.mem_of_getElem? (i := 804) (by decide +kernel), List.mem_of_getElem? (i := 805) (by decide +kernel)⟩
theorem lw_p35 : lw_okq (⟨"BellTrees$Bodies", "runFrom", "(IIII)I"⟩, 5) := ⟨⟨by decide +kernel, by decide +kernel⟩, List.mem_of_getElem? (i := 199) (by decide +kernel), List.mem_of_getElem? (i := 808) (by decide +kernel), List.mem_of_getElem? (i := 809) (by decide +kernel)⟩
theorem lw_p36 : lw_okq (⟨"BellTrees$Bodies", "runBody", "(IIII)I"⟩, 5) := ⟨⟨by decide +kernel, by decide +kernel⟩, List.mem_of_getElem? (i := 199) (by decide +kernel), List.mem_of_getElem? (i := 814) (by decide +kernel), List.mem_of_getElem? (i := 815) (by decide +kernel)⟩
theorem lw_p37 : lw_okq (⟨"BellTrees$Bodies", "note", "(I)V"⟩, 5) := ⟨⟨by decide +kernel, by decide +kernel⟩, List.mem_of_getElem? (i := 199) (by decide +kernel), List.mem_of_getElem? (i := 818) (by decide +kernel), List.mem_of_getElem? (i := 819) (by decide +kernel)⟩
theorem lw_p38 : lw_okq (⟨"BellTrees$Bodies", "runAbove", "(IIII)I"⟩, 5) := ⟨⟨by decide +kernel, by decide +kernel⟩, List.mem_of_getElem? (i := 199) (by decide +kernel), List.mem_of_getElem? (i := 822) (by decide +kernel), List.mem_of_getElem? (i := 823) (by decide +kernel)⟩
theorem lw_p39 : lw_okq (⟨"BellTrees", "placeRefusal", "(LBellTrees$Shelf;I)I"⟩, 9) := ⟨⟨by decide +kernel, by decide +kernel⟩, List.mem_of_getElem? (i := 16) (by decide +kernel), List.mem_of_getElem? (i := 864) (by decide +kernel), List.mem_of_getElem? (i := 865) (by decide +kernel)⟩
theorem lw_p40 : lw_okq (⟨"BellTrees$Shelf", "lowest", "(J)J"⟩, 4) := ⟨⟨by decide +kernel, by decide +kernel⟩, List.mem_of_getElem? (i := 222) (by decide +kernel), List.mem_of_getElem? (i := 876) (by decide +kernel), List.mem_of_getElem? (i := 877) (by decide +kernel)⟩
theorem lw_p41 : lw_okq (⟨"BellTreesModel", "addTree", "(III)I"⟩, 53) := ⟨⟨by decide +kernel, by decide +kernel⟩, List.mem_of_getElem? (i := 933) (by decide +kernel), List.mem_of_getElem? (i := 1107) (by decide +kernel), List.mem_of_getElem? (i := 1108) (by decide +kernel)⟩
theorem lw_p42 : lw_okq (⟨"BellTreesModel", "isTree", "(I)Z"⟩, 53) := ⟨⟨by decide +kernel, by decide +kernel⟩, List.mem_of_getElem? (i := 933) (by decide +kernel), List.mem_of_getElem? (i := 1123) (by decide +kernel), List.mem_of_getElem? (i := 1124) (by decide +kernel)⟩
theorem lw_p43 : lw_okq (⟨"BellTreesModel", "areBeside", "(II)Z"⟩, 53) := ⟨⟨by decide +kernel, by decide +kernel⟩, List.mem_of_getElem? (i := 933) (by decide +kernel), List.mem_of_getElem? (i := 1127) (by decide +kernel), List.mem_of_getElem? (i := 1128) (by decide +kernel)⟩
theorem lw_p44 : lw_okq (⟨"BellTreesModel", "lays", "(III)V"⟩, 53) := ⟨⟨by decide +kernel, by decide +kernel⟩, List.mem_of_getElem? (i := 933) (by decide +kernel), List.mem_of_getElem? (i := 1135) (by decide +kernel), List.mem_of_getElem? (i := 1136) (by decide +kernel)⟩
theorem lw_p45 : lw_okq (⟨"BellTreesModel", "isThing", "(II)Z"⟩, 53) := ⟨⟨by decide +kernel, by decide +kernel⟩, List.mem_of_getElem? (i := 933) (by decide +kernel), List.mem_of_getElem? (i := 1147) (by decide +kernel), List.mem_of_getElem? (i := 1148) (by decide +kernel)⟩
theorem lw_p46 : lw_okq (⟨"BellTreesModel", "changes", "(III)I"⟩, 53) := ⟨⟨by decide +kernel, by decide +kernel⟩, List.mem_of_getElem? (i := 933) (by decide +kernel), List.mem_of_getElem? (i := 1157) (by decide +kernel), List.mem_of_getElem? (i := 1158) (by decide +kernel)⟩
theorem lw_p47 : lw_okq (⟨"BellTreesModel", "valueAt", "(II)I"⟩, 53) := ⟨⟨by decide +kernel, by decide +kernel⟩, List.mem_of_getElem? (i := 933) (by decide +kernel), List.mem_of_getElem? (i := 1161) (by decide +kernel), List.mem_of_getElem? (i := 1162) (by decide +kernel)⟩
def lw_privs_3 : List (MethodName × Nat) := [(⟨"BellTrees$Forest", "isUnlikeWithout", "(I)Z"⟩, 7), (⟨"BellTrees", "drawWalkers", "(III)I"⟩, 9), (⟨"BellTrees$Bodies", "runOwn", "(III)I"⟩, 5), (⟨"BellTrees$Bodies", "runFrom", "(IIII)I"⟩, 5), (⟨"BellTrees$Bodies", "runBody", "(IIII)I"⟩, 5), (⟨"BellTrees$Bodies", "note", "(I)V"⟩, 5), (⟨"BellTrees$Bodies", "runAbove", "(IIII)I"⟩, 5), (⟨"BellTrees", "placeRefusal", "(LBellTrees$Shelf;I)I"⟩, 9), (⟨"BellTrees$Shelf", "lowest", "(J)J"⟩, 4), (⟨"BellTreesModel", "addTree", "(III)I"⟩, 53), (⟨"BellTreesModel", "isTree", "(I)Z"⟩, 53), (⟨"BellTreesModel", "areBeside", "(II)Z"⟩, 53), (⟨"BellTreesModel", "lays", "(III)V"⟩, 53), (⟨"BellTreesModel", "isThing", "(II)Z"⟩, 53), (⟨"BellTreesModel", "changes", "(III)I"⟩, 53), (⟨"BellTreesModel", "valueAt", "(II)I"⟩, 53)]
theorem lw_r3 : ∀ q ∈ lw_privs_3, lw_okq q := List.forall_mem_cons.mpr ⟨lw_p32, List.forall_mem_cons.mpr ⟨lw_p33, List.forall_mem_cons.mpr ⟨lw_p34, List.forall_mem_cons.mpr ⟨lw_p35, List.forall_mem_cons.mpr ⟨lw_p36, List.forall_mem_cons.mpr ⟨lw_p37, List.forall_mem_cons.mpr ⟨lw_p38, List.forall_mem_cons.mpr ⟨lw_p39, List.forall_mem_cons.mpr ⟨lw_p40, List.forall_mem_cons.mpr ⟨lw_p41, List.forall_mem_cons.mpr ⟨lw_p42, List.forall_mem_cons.mpr ⟨lw_p43, List.forall_mem_cons.mpr ⟨lw_p44, List.forall_mem_cons.mpr ⟨lw_p45, List.forall_mem_cons.mpr ⟨lw_p46, List.forall_mem_cons.mpr ⟨lw_p47, fun _ h => absurd h List.not_mem_nil⟩⟩⟩⟩⟩⟩⟩⟩⟩⟩⟩⟩⟩⟩⟩⟩
theorem lw_p48 : lw_okq (⟨"BellTreesModel", "findFar", "()V"⟩, 53) := ⟨⟨by decide +kernel, by decide +kernel⟩, List.mem_of_getElem? (i := 933) (by decide +kernel), List.mem_of_getElem? (i := 1169) (by decide +kernel), List.mem_of_getElem? (i := 1170) (by decide +kernel)⟩
theorem lw_p49 : lw_okq (⟨"BellTreesModel", "readText", "(I)I"⟩, 53) := ⟨⟨by decide +kernel, by decide +kernel⟩, List.mem_of_getElem? (i := 933) (by decide +kernel), List.mem_of_getElem? (i := 1181) (by decide +kernel), List.mem_of_getElem? (i := 1182) (by decide +kernel)⟩
theorem lw_p50 : lw_okq (⟨"BellTreesModel", "line", "()V"⟩, 53) := ⟨⟨by decide +kernel, by decide +kernel⟩, List.mem_of_getElem? (i := 933) (by decide +kernel), List.mem_of_getElem? (i := 1185) (by decide +kernel), List.mem_of_getElem? (i := 1186) (by decide +kernel)⟩
theorem lw_p51 : lw_okq (⟨"BellTreesModel", "either", "()V"⟩, 53) := ⟨⟨by decide +kernel, by decide +kernel⟩, List.mem_of_getElem? (i := 933) (by decide +kernel), List.mem_of_getElem? (i := 1189) (by decide +kernel), List.mem_of_getElem? (i := 1190) (by decide +kernel)⟩
theorem lw_p52 : lw_okq (⟨"BellTreesModel", "both", "()V"⟩, 53) := ⟨⟨by decide +kernel, by decide +kernel⟩, List.mem_of_getElem? (i := 933) (by decide +kernel), List.mem_of_getElem? (i := 1193) (by decide +kernel), List.mem_of_getElem? (i := 1194) (by decide +kernel)⟩
theorem lw_p53 : lw_okq (⟨"BellTreesModel", "compared", "()V"⟩, 53) := ⟨⟨by decide +kernel, by decide +kernel⟩, List.mem_of_getElem? (i := 933) (by decide +kernel), List.mem_of_getElem? (i := 1197) (by decide +kernel), List.mem_of_getElem? (i := 1198) (by decide +kernel)⟩
theorem lw_p54 : lw_okq (⟨"BellTreesModel", "sum", "()V"⟩, 53) := ⟨⟨by decide +kernel, by decide +kernel⟩, List.mem_of_getElem? (i := 933) (by decide +kernel), List.mem_of_getElem? (i := 1201) (by decide +kernel), List.mem_of_getElem? (i := 1202) (by decide +kernel)⟩
theorem lw_p55 : lw_okq (⟨"BellTreesModel", "product", "()V"⟩, 53) := ⟨⟨by decide +kernel, by decide +kernel⟩, List.mem_of_getElem? (i := 933) (by decide +kernel), List.mem_of_getElem? (i := 1205) (by decide +kernel), List.mem_of_getElem? (i := 1206) (by decide +kernel)⟩
theorem lw_p56 : lw_okq (⟨"BellTreesModel", "operand", "()V"⟩, 53) := ⟨⟨by decide +kernel, by decide +kernel⟩, List.mem_of_getElem? (i := 933) (by decide +kernel), List.mem_of_getElem? (i := 1209) (by decide +kernel), List.mem_of_getElem? (i := 1210) (by decide +kernel)⟩
theorem lw_p57 : lw_okq (⟨"BellTreesModel", "look", "()I"⟩, 53) := ⟨⟨by decide +kernel, by decide +kernel⟩, List.mem_of_getElem? (i := 933) (by decide +kernel), List.mem_of_getElem? (i := 1213) (by decide +kernel), List.mem_of_getElem? (i := 1214) (by decide +kernel)⟩
theorem lw_p58 : lw_okq (⟨"BellTreesModel", "addStep", "(II)V"⟩, 53) := ⟨⟨by decide +kernel, by decide +kernel⟩, List.mem_of_getElem? (i := 933) (by decide +kernel), List.mem_of_getElem? (i := 1220) (by decide +kernel), List.mem_of_getElem? (i := 1221) (by decide +kernel)⟩
theorem lw_p59 : lw_okq (⟨"BellTreesModel", "opens", "()Z"⟩, 53) := ⟨⟨by decide +kernel, by decide +kernel⟩, List.mem_of_getElem? (i := 933) (by decide +kernel), List.mem_of_getElem? (i := 1224) (by decide +kernel), List.mem_of_getElem? (i := 1225) (by decide +kernel)⟩
theorem lw_p60 : lw_okq (⟨"BellTreesModel", "faulty", "()V"⟩, 53) := ⟨⟨by decide +kernel, by decide +kernel⟩, List.mem_of_getElem? (i := 933) (by decide +kernel), List.mem_of_getElem? (i := 1228) (by decide +kernel), List.mem_of_getElem? (i := 1229) (by decide +kernel)⟩
theorem lw_p61 : lw_okq (⟨"BellTreesModel", "figure", "()V"⟩, 53) := ⟨⟨by decide +kernel, by decide +kernel⟩, List.mem_of_getElem? (i := 933) (by decide +kernel), List.mem_of_getElem? (i := 1232) (by decide +kernel), List.mem_of_getElem? (i := 1233) (by decide +kernel)⟩
theorem lw_p62 : lw_okq (⟨"BellTreesModel", "soundOf", "(IIII)I"⟩, 53) := ⟨⟨by decide +kernel, by decide +kernel⟩, List.mem_of_getElem? (i := 933) (by decide +kernel), List.mem_of_getElem? (i := 1244) (by decide +kernel), List.mem_of_getElem? (i := 1245) (by decide +kernel)⟩
theorem lw_p63 : lw_okq (⟨"BellTreesModel", "isHeard", "(III)Z"⟩, 53) := ⟨⟨by decide +kernel, by decide +kernel⟩, List.mem_of_getElem? (i := 933) (by decide +kernel), List.mem_of_getElem? (i := 1248) (by decide +kernel), List.mem_of_getElem? (i := 1249) (by decide +kernel)⟩
def lw_privs_4 : List (MethodName × Nat) := [(⟨"BellTreesModel", "findFar", "()V"⟩, 53), (⟨"BellTreesModel", "readText", "(I)I"⟩, 53), (⟨"BellTreesModel", "line", "()V"⟩, 53), (⟨"BellTreesModel", "either", "()V"⟩, 53), (⟨"BellTreesModel", "both", "()V"⟩, 53), (⟨"BellTreesModel", "compared", "()V"⟩, 53), (⟨"BellTreesModel", "sum", "()V"⟩, 53), (⟨"BellTreesModel", "product", "()V"⟩, 53), (⟨"BellTreesModel", "operand", "()V"⟩, 53), (⟨"BellTreesModel", "look", "()I"⟩, 53), (⟨"BellTreesModel", "addStep", "(II)V"⟩, 53), (⟨"BellTreesModel", "opens", "()Z"⟩, 53), (⟨"BellTreesModel", "faulty", "()V"⟩, 53), (⟨"BellTreesModel", "figure", "()V"⟩, 53), (⟨"BellTreesModel", "soundOf", "(IIII)I"⟩, 53), (⟨"BellTreesModel", "isHeard", "(III)Z"⟩, 53)]
theorem lw_r4 : ∀ q ∈ lw_privs_4, lw_okq q := List.forall_mem_cons.mpr ⟨lw_p48, List.forall_mem_cons.mpr ⟨lw_p49, List.forall_mem_cons.mpr ⟨lw_p50, List.forall_mem_cons.mpr ⟨lw_p51, List.forall_mem_cons.mpr ⟨lw_p52, List.forall_mem_cons.mpr ⟨lw_p53, List.forall_mem_cons.mpr ⟨lw_p54, List.forall_mem_cons.mpr ⟨lw_p55, List.forall_mem_cons.mpr ⟨lw_p56, List.forall_mem_cons.mpr ⟨lw_p57, List.forall_mem_cons.mpr ⟨lw_p58, List.forall_mem_cons.mpr ⟨lw_p59, List.forall_mem_cons.mpr ⟨lw_p60, List.forall_mem_cons.mpr ⟨lw_p61, List.forall_mem_cons.mpr ⟨lw_p62, List.forall_mem_cons.mpr ⟨lw_p63, fun _ h => absurd h List.not_mem_nil⟩⟩⟩⟩⟩⟩⟩⟩⟩⟩⟩⟩⟩⟩⟩⟩
theorem lw_p64 : lw_okq (⟨"BellTreesModel", "gives", "(I)I"⟩, 53) := ⟨⟨by decide +kernel, by decide +kernel⟩, List.mem_of_getElem? (i := 933) (by decide +kernel), List.mem_of_getElem? (i := 1252) (by decide +kernel), List.mem_of_getElem? (i := 1253) (by decide +kernel)⟩
theorem lw_p65 : lw_okq (⟨"BellTreesModel", "worked", "(III)I"⟩, 53) := ⟨⟨by decide +kernel, by decide +kernel⟩, List.mem_of_getElem? (i := 933) (by decide +kernel), List.mem_of_getElem? (i := 1256) (by decide +kernel), List.mem_of_getElem? (i := 1257) (by decide +kernel)⟩
theorem lw_p66 : lw_okq (⟨"BellTreesModel", "rowFault", "(I)I"⟩, 53) := ⟨⟨by decide +kernel, by decide +kernel⟩, List.mem_of_getElem? (i := 933) (by decide +kernel), List.mem_of_getElem? (i := 1267) (by decide +kernel), List.mem_of_getElem? (i := 1268) (by decide +kernel)⟩
theorem lw_p67 : lw_okq (⟨"BellTreesModel", "minutesOf", "(I)I"⟩, 53) := ⟨⟨by decide +kernel, by decide +kernel⟩, List.mem_of_getElem? (i := 933) (by decide +kernel), List.mem_of_getElem? (i := 1271) (by decide +kernel), List.mem_of_getElem? (i := 1272) (by decide +kernel)⟩
theorem lw_p68 : lw_okq (⟨"BellTreesModel", "findWalks", "(II)V"⟩, 53) := ⟨⟨by decide +kernel, by decide +kernel⟩, List.mem_of_getElem? (i := 933) (by decide +kernel), List.mem_of_getElem? (i := 1275) (by decide +kernel), List.mem_of_getElem? (i := 1276) (by decide +kernel)⟩
theorem lw_p69 : lw_okq (⟨"BellTreesModel", "mayGo", "(II)Z"⟩, 53) := ⟨⟨by decide +kernel, by decide +kernel⟩, List.mem_of_getElem? (i := 933) (by decide +kernel), List.mem_of_getElem? (i := 1279) (by decide +kernel), List.mem_of_getElem? (i := 1280) (by decide +kernel)⟩
theorem lw_p70 : lw_okq (⟨"BellTreesModel", "told", "(II)J"⟩, 53) := ⟨⟨by decide +kernel, by decide +kernel⟩, List.mem_of_getElem? (i := 933) (by decide +kernel), List.mem_of_getElem? (i := 1287) (by decide +kernel), List.mem_of_getElem? (i := 1288) (by decide +kernel)⟩
theorem lw_p71 : lw_okq (⟨"BellTreesModel", "walksMany", "(I)I"⟩, 53) := ⟨⟨by decide +kernel, by decide +kernel⟩, List.mem_of_getElem? (i := 933) (by decide +kernel), List.mem_of_getElem? (i := 1291) (by decide +kernel), List.mem_of_getElem? (i := 1292) (by decide +kernel)⟩
theorem lw_p72 : lw_okq (⟨"BellTreesModel", "canBeOf", "(IIJ)Z"⟩, 53) := ⟨⟨by decide +kernel, by decide +kernel⟩, List.mem_of_getElem? (i := 933) (by decide +kernel), List.mem_of_getElem? (i := 1306) (by decide +kernel), List.mem_of_getElem? (i := 1307) (by decide +kernel)⟩
theorem lw_p73 : lw_okq (⟨"BellTreesModel", "findLeast", "(IIII)V"⟩, 53) := ⟨⟨by decide +kernel, by decide +kernel⟩, List.mem_of_getElem? (i := 933) (by decide +kernel), List.mem_of_getElem? (i := 1314) (by decide +kernel), List.mem_of_getElem? (i := 1315) (by decide +kernel)⟩
theorem lw_p74 : lw_okq (⟨"BellTreesModel", "soundIn", "(III)I"⟩, 53) := ⟨⟨by decide +kernel, by decide +kernel⟩, List.mem_of_getElem? (i := 933) (by decide +kernel), List.mem_of_getElem? (i := 1318) (by decide +kernel), List.mem_of_getElem? (i := 1319) (by decide +kernel)⟩
theorem lw_p75 : lw_okq (⟨"BellTreesModel", "rowsFault", "(I)I"⟩, 53) := ⟨⟨by decide +kernel, by decide +kernel⟩, List.mem_of_getElem? (i := 933) (by decide +kernel), List.mem_of_getElem? (i := 1330) (by decide +kernel), List.mem_of_getElem? (i := 1331) (by decide +kernel)⟩
theorem lw_p76 : lw_okq (⟨"BellTreesModel", "isWalk", "(I)Z"⟩, 53) := ⟨⟨by decide +kernel, by decide +kernel⟩, List.mem_of_getElem? (i := 933) (by decide +kernel), List.mem_of_getElem? (i := 1334) (by decide +kernel), List.mem_of_getElem? (i := 1335) (by decide +kernel)⟩
theorem lw_p77 : lw_okq (⟨"BellTreesModel", "bothHave", "(I)I"⟩, 53) := ⟨⟨by decide +kernel, by decide +kernel⟩, List.mem_of_getElem? (i := 933) (by decide +kernel), List.mem_of_getElem? (i := 1338) (by decide +kernel), List.mem_of_getElem? (i := 1339) (by decide +kernel)⟩
theorem lw_p78 : lw_okq (⟨"BellTreesModel", "walkedSound", "(IIII)I"⟩, 53) := ⟨⟨by decide +kernel, by decide +kernel⟩, List.mem_of_getElem? (i := 933) (by decide +kernel), List.mem_of_getElem? (i := 1342) (by decide +kernel), List.mem_of_getElem? (i := 1343) (by decide +kernel)⟩
theorem lw_p79 : lw_okq (⟨"BellTreesModel", "unlikeIn", "(IIIII)I"⟩, 53) := ⟨⟨by decide +kernel, by decide +kernel⟩, List.mem_of_getElem? (i := 933) (by decide +kernel), List.mem_of_getElem? (i := 1351) (by decide +kernel), List.mem_of_getElem? (i := 1352) (by decide +kernel)⟩
def lw_privs_5 : List (MethodName × Nat) := [(⟨"BellTreesModel", "gives", "(I)I"⟩, 53), (⟨"BellTreesModel", "worked", "(III)I"⟩, 53), (⟨"BellTreesModel", "rowFault", "(I)I"⟩, 53), (⟨"BellTreesModel", "minutesOf", "(I)I"⟩, 53), (⟨"BellTreesModel", "findWalks", "(II)V"⟩, 53), (⟨"BellTreesModel", "mayGo", "(II)Z"⟩, 53), (⟨"BellTreesModel", "told", "(II)J"⟩, 53), (⟨"BellTreesModel", "walksMany", "(I)I"⟩, 53), (⟨"BellTreesModel", "canBeOf", "(IIJ)Z"⟩, 53), (⟨"BellTreesModel", "findLeast", "(IIII)V"⟩, 53), (⟨"BellTreesModel", "soundIn", "(III)I"⟩, 53), (⟨"BellTreesModel", "rowsFault", "(I)I"⟩, 53), (⟨"BellTreesModel", "isWalk", "(I)Z"⟩, 53), (⟨"BellTreesModel", "bothHave", "(I)I"⟩, 53), (⟨"BellTreesModel", "walkedSound", "(IIII)I"⟩, 53), (⟨"BellTreesModel", "unlikeIn", "(IIIII)I"⟩, 53)]
theorem lw_r5 : ∀ q ∈ lw_privs_5, lw_okq q := List.forall_mem_cons.mpr ⟨lw_p64, List.forall_mem_cons.mpr ⟨lw_p65, List.forall_mem_cons.mpr ⟨lw_p66, List.forall_mem_cons.mpr ⟨lw_p67, List.forall_mem_cons.mpr ⟨lw_p68, List.forall_mem_cons.mpr ⟨lw_p69, List.forall_mem_cons.mpr ⟨lw_p70, List.forall_mem_cons.mpr ⟨lw_p71, List.forall_mem_cons.mpr ⟨lw_p72, List.forall_mem_cons.mpr ⟨lw_p73, List.forall_mem_cons.mpr ⟨lw_p74, List.forall_mem_cons.mpr ⟨lw_p75, List.forall_mem_cons.mpr ⟨lw_p76, List.forall_mem_cons.mpr ⟨lw_p77, List.forall_mem_cons.mpr ⟨lw_p78, List.forall_mem_cons.mpr ⟨lw_p79, fun _ h => absurd h List.not_mem_nil⟩⟩⟩⟩⟩⟩⟩⟩⟩⟩⟩⟩⟩⟩⟩⟩
theorem lw_p80 : lw_okq (⟨"BellTreesModel", "walksFault", "(I)I"⟩, 53) := ⟨⟨by decide +kernel, by decide +kernel⟩, List.mem_of_getElem? (i := 933) (by decide +kernel), List.mem_of_getElem? (i := 1359) (by decide +kernel), List.mem_of_getElem? (i := 1360) (by decide +kernel)⟩
theorem lw_p81 : lw_okq (⟨"BellTreesModel", "areEnough", "(III)Z"⟩, 53) := ⟨⟨by decide +kernel, by decide +kernel⟩, List.mem_of_getElem? (i := 933) (by decide +kernel), List.mem_of_getElem? (i := 1366) (by decide +kernel), List.mem_of_getElem? (i := 1367) (by decide +kernel)⟩
theorem lw_p82 : lw_okq (⟨"BellTreesModel", "hasSound", "(III)Z"⟩, 53) := ⟨⟨by decide +kernel, by decide +kernel⟩, List.mem_of_getElem? (i := 933) (by decide +kernel), List.mem_of_getElem? (i := 1370) (by decide +kernel), List.mem_of_getElem? (i := 1371) (by decide +kernel)⟩
theorem lw_p83 : lw_okq (⟨"BellTreesModel", "isTuned", "(I)Z"⟩, 53) := ⟨⟨by decide +kernel, by decide +kernel⟩, List.mem_of_getElem? (i := 933) (by decide +kernel), List.mem_of_getElem? (i := 1378) (by decide +kernel), List.mem_of_getElem? (i := 1379) (by decide +kernel)⟩
theorem lw_p84 : lw_okq (⟨"BellTreesModel", "draw", "(I)I"⟩, 53) := ⟨⟨by decide +kernel, by decide +kernel⟩, List.mem_of_getElem? (i := 933) (by decide +kernel), List.mem_of_getElem? (i := 1386) (by decide +kernel), List.mem_of_getElem? (i := 1387) (by decide +kernel)⟩
theorem lw_p85 : lw_okq (⟨"BellTreesModel", "neighbour", "(II)I"⟩, 53) := ⟨⟨by decide +kernel, by decide +kernel⟩, List.mem_of_getElem? (i := 933) (by decide +kernel), List.mem_of_getElem? (i := 1391) (by decide +kernel), List.mem_of_getElem? (i := 1392) (by decide +kernel)⟩
theorem lw_p86 : lw_okq (⟨"BellTreesModel", "isBody", "(I)Z"⟩, 53) := ⟨⟨by decide +kernel, by decide +kernel⟩, List.mem_of_getElem? (i := 933) (by decide +kernel), List.mem_of_getElem? (i := 1427) (by decide +kernel), List.mem_of_getElem? (i := 1428) (by decide +kernel)⟩
theorem lw_p87 : lw_okq (⟨"BellTreesModel", "ringing", "(II)I"⟩, 53) := ⟨⟨by decide +kernel, by decide +kernel⟩, List.mem_of_getElem? (i := 933) (by decide +kernel), List.mem_of_getElem? (i := 1431) (by decide +kernel), List.mem_of_getElem? (i := 1432) (by decide +kernel)⟩
theorem lw_p88 : lw_okq (⟨"BellTreesModel", "ran", "(I)V"⟩, 53) := ⟨⟨by decide +kernel, by decide +kernel⟩, List.mem_of_getElem? (i := 933) (by decide +kernel), List.mem_of_getElem? (i := 1438) (by decide +kernel), List.mem_of_getElem? (i := 1439) (by decide +kernel)⟩
theorem lw_p89 : lw_okq (⟨"BellTreesModel", "plainRings", "(II)I"⟩, 53) := ⟨⟨by decide +kernel, by decide +kernel⟩, List.mem_of_getElem? (i := 933) (by decide +kernel), List.mem_of_getElem? (i := 1442) (by decide +kernel), List.mem_of_getElem? (i := 1443) (by decide +kernel)⟩
theorem lw_p90 : lw_okq (⟨"BellTreesModel", "stolenRings", "(II)I"⟩, 53) := ⟨⟨by decide +kernel, by decide +kernel⟩, List.mem_of_getElem? (i := 933) (by decide +kernel), List.mem_of_getElem? (i := 1446) (by decide +kernel), List.mem_of_getElem? (i := 1447) (by decide +kernel)⟩
theorem lw_p91 : lw_okq (⟨"BellTreesModel", "brushing", "(II)I"⟩, 53) := ⟨⟨by decide +kernel, by decide +kernel⟩, List.mem_of_getElem? (i := 933) (by decide +kernel), List.mem_of_getElem? (i := 1450) (by decide +kernel), List.mem_of_getElem? (i := 1451) (by decide +kernel)⟩
theorem lw_p92 : lw_okq (⟨"BellTreesModel", "gustBrushes", "(II)I"⟩, 53) := ⟨⟨by decide +kernel, by decide +kernel⟩, List.mem_of_getElem? (i := 933) (by decide +kernel), List.mem_of_getElem? (i := 1454) (by decide +kernel), List.mem_of_getElem? (i := 1455) (by decide +kernel)⟩
theorem lw_p93 : lw_okq (⟨"BellTreesModel", "plainBrushes", "(II)I"⟩, 53) := ⟨⟨by decide +kernel, by decide +kernel⟩, List.mem_of_getElem? (i := 933) (by decide +kernel), List.mem_of_getElem? (i := 1458) (by decide +kernel), List.mem_of_getElem? (i := 1459) (by decide +kernel)⟩
theorem lw_p94 : lw_okq (⟨"BellTreesModel", "hearing", "(II)I"⟩, 53) := ⟨⟨by decide +kernel, by decide +kernel⟩, List.mem_of_getElem? (i := 933) (by decide +kernel), List.mem_of_getElem? (i := 1462) (by decide +kernel), List.mem_of_getElem? (i := 1463) (by decide +kernel)⟩
theorem lw_p95 : lw_okq (⟨"BellTreesModel", "owlHears", "(II)I"⟩, 53) := ⟨⟨by decide +kernel, by decide +kernel⟩, List.mem_of_getElem? (i := 933) (by decide +kernel), List.mem_of_getElem? (i := 1466) (by decide +kernel), List.mem_of_getElem? (i := 1467) (by decide +kernel)⟩
def lw_privs_6 : List (MethodName × Nat) := [(⟨"BellTreesModel", "walksFault", "(I)I"⟩, 53), (⟨"BellTreesModel", "areEnough", "(III)Z"⟩, 53), (⟨"BellTreesModel", "hasSound", "(III)Z"⟩, 53), (⟨"BellTreesModel", "isTuned", "(I)Z"⟩, 53), (⟨"BellTreesModel", "draw", "(I)I"⟩, 53), (⟨"BellTreesModel", "neighbour", "(II)I"⟩, 53), (⟨"BellTreesModel", "isBody", "(I)Z"⟩, 53), (⟨"BellTreesModel", "ringing", "(II)I"⟩, 53), (⟨"BellTreesModel", "ran", "(I)V"⟩, 53), (⟨"BellTreesModel", "plainRings", "(II)I"⟩, 53), (⟨"BellTreesModel", "stolenRings", "(II)I"⟩, 53), (⟨"BellTreesModel", "brushing", "(II)I"⟩, 53), (⟨"BellTreesModel", "gustBrushes", "(II)I"⟩, 53), (⟨"BellTreesModel", "plainBrushes", "(II)I"⟩, 53), (⟨"BellTreesModel", "hearing", "(II)I"⟩, 53), (⟨"BellTreesModel", "owlHears", "(II)I"⟩, 53)]
theorem lw_r6 : ∀ q ∈ lw_privs_6, lw_okq q := List.forall_mem_cons.mpr ⟨lw_p80, List.forall_mem_cons.mpr ⟨lw_p81, List.forall_mem_cons.mpr ⟨lw_p82, List.forall_mem_cons.mpr ⟨lw_p83, List.forall_mem_cons.mpr ⟨lw_p84, List.forall_mem_cons.mpr ⟨lw_p85, List.forall_mem_cons.mpr ⟨lw_p86, List.forall_mem_cons.mpr ⟨lw_p87, List.forall_mem_cons.mpr ⟨lw_p88, List.forall_mem_cons.mpr ⟨lw_p89, List.forall_mem_cons.mpr ⟨lw_p90, List.forall_mem_cons.mpr ⟨lw_p91, List.forall_mem_cons.mpr ⟨lw_p92, List.forall_mem_cons.mpr ⟨lw_p93, List.forall_mem_cons.mpr ⟨lw_p94, List.forall_mem_cons.mpr ⟨lw_p95, fun _ h => absurd h List.not_mem_nil⟩⟩⟩⟩⟩⟩⟩⟩⟩⟩⟩⟩⟩⟩⟩⟩
theorem lw_p96 : lw_okq (⟨"BellTreesModel", "plainHears", "(II)I"⟩, 53) := ⟨⟨by decide +kernel, by decide +kernel⟩, List.mem_of_getElem? (i := 933) (by decide +kernel), List.mem_of_getElem? (i := 1470) (by decide +kernel), List.mem_of_getElem? (i := 1471) (by decide +kernel)⟩
theorem lw_p97 : lw_okq (⟨"BellTreesModel", "writing", "(II)I"⟩, 53) := ⟨⟨by decide +kernel, by decide +kernel⟩, List.mem_of_getElem? (i := 933) (by decide +kernel), List.mem_of_getElem? (i := 1474) (by decide +kernel), List.mem_of_getElem? (i := 1475) (by decide +kernel)⟩
theorem lw_p98 : lw_okq (⟨"BellTreesModel", "plainWrites", "(II)I"⟩, 53) := ⟨⟨by decide +kernel, by decide +kernel⟩, List.mem_of_getElem? (i := 933) (by decide +kernel), List.mem_of_getElem? (i := 1478) (by decide +kernel), List.mem_of_getElem? (i := 1479) (by decide +kernel)⟩
theorem lw_p99 : lw_okq (⟨"BellTreesModel", "whyNoPlace", "(II)I"⟩, 53) := ⟨⟨by decide +kernel, by decide +kernel⟩, List.mem_of_getElem? (i := 933) (by decide +kernel), List.mem_of_getElem? (i := 1498) (by decide +kernel), List.mem_of_getElem? (i := 1499) (by decide +kernel)⟩
def lw_privs_7 : List (MethodName × Nat) := [(⟨"BellTreesModel", "plainHears", "(II)I"⟩, 53), (⟨"BellTreesModel", "writing", "(II)I"⟩, 53), (⟨"BellTreesModel", "plainWrites", "(II)I"⟩, 53), (⟨"BellTreesModel", "whyNoPlace", "(II)I"⟩, 53)]
theorem lw_r7 : ∀ q ∈ lw_privs_7, lw_okq q := List.forall_mem_cons.mpr ⟨lw_p96, List.forall_mem_cons.mpr ⟨lw_p97, List.forall_mem_cons.mpr ⟨lw_p98, List.forall_mem_cons.mpr ⟨lw_p99, fun _ h => absurd h List.not_mem_nil⟩⟩⟩⟩
def lw_privs : List (MethodName × Nat) := lw_privs_1 ++ (lw_privs_2 ++ (lw_privs_3 ++ (lw_privs_4 ++ (lw_privs_5 ++ (lw_privs_6 ++ (lw_privs_7))))))
def lw_tbl : List Cond := k2_sels lw_privs ++ tables_1
theorem lw_privs_ok : ∀ q ∈ lw_privs, lw_okq q := by
  show ∀ q ∈ lw_privs_1 ++ (lw_privs_2 ++ (lw_privs_3 ++ (lw_privs_4 ++ (lw_privs_5 ++ (lw_privs_6 ++ (lw_privs_7)))))), lw_okq q
  exact List.forall_mem_append.mpr ⟨lw_r1, List.forall_mem_append.mpr ⟨lw_r2, List.forall_mem_append.mpr ⟨lw_r3, List.forall_mem_append.mpr ⟨lw_r4, List.forall_mem_append.mpr ⟨lw_r5, List.forall_mem_append.mpr ⟨lw_r6, lw_r7⟩⟩⟩⟩⟩⟩
end
section
/-! printed by wip/whole/gen.py: the classes, their fields, the kinds of cells, the references, the static arrays -/
def bt_nth {α : Type} (d : α) : List α → Nat → α
  | [], _ => d
  | a :: _, 0 => a
  | _ :: r, n + 1 => bt_nth d r n
def bt_R0 : String := "BellTrees"
def bt_T0 : u_T := fun k => bt_nth ("", "", "", false) [("BellTrees", "forest", "LBellTrees$Forest;", true), ("BellTrees", "law", "LBellTrees$Law;", true), ("BellTrees", "sounds", "LBellTrees$Sounds;", true), ("BellTrees", "otherSounds", "LBellTrees$Sounds;", true), ("BellTrees", "walks", "LBellTrees$Walks;", true), ("BellTrees", "changes", "LBellTrees$Changes;", true), ("BellTrees", "image", "LBellTrees$Image;", true), ("BellTrees", "bodies", "LBellTrees$Bodies;", true), ("BellTrees", "shelves", "[LBellTrees$Shelf;", true)] k
def bt_ty0 : Nat → FieldType := fun k => bt_nth .int [(.object "BellTrees$Forest"), (.object "BellTrees$Law"), (.object "BellTrees$Sounds"), (.object "BellTrees$Sounds"), (.object "BellTrees$Walks"), (.object "BellTrees$Changes"), (.object "BellTrees$Image"), (.object "BellTrees$Bodies"), (.array (.object "BellTrees$Shelf"))] k
theorem bt_nm0 : ∀ a, a < 9 → ∀ b, b < 9 → a ≠ b → (bt_T0 a).2.1 ≠ (bt_T0 b).2.1 := by decide +kernel
theorem bt_tyok0 : ∀ k, k < 9 → parseFieldDescriptor (bt_T0 k).2.2.1 = some (bt_ty0 k) := by decide +kernel
theorem bt_in0 : ∀ w ∈ u_ws bt_R0 bt_T0 9, w ∈ lw_tbl := by
  intro w hw
  obtain ⟨k, hk, rfl⟩ := List.mem_map.mp hw
  have hk := List.mem_range.mp hk
  have h : ∀ k, k < 9 → lw_tbl[bt_nth 0 [350, 352, 354, 356, 358, 360, 362, 364, 366] k]? = some (u_lay bt_R0 bt_T0 k) := by decide +kernel
  exact List.mem_of_getElem? (h k hk)
theorem bt_inst0 : Cond.instantiable bt_R0 9 ∈ lw_tbl := List.mem_of_getElem? (i := 116) (by decide +kernel)
def bt_R1 : String := "BellTrees$Forest"
def bt_T1 : u_T := fun k => bt_nth ("", "", "", false) [("BellTrees$Forest", "value", "[[I", true), ("BellTrees$Forest", "near", "[I", true), ("BellTrees$Forest", "far", "[I", true), ("BellTrees$Forest", "heard", "[I", true), ("BellTrees$Forest", "treesThere", "I", false), ("BellTrees$Forest", "pathsThere", "I", false), ("BellTrees$Forest", "walksMade", "I", false)] k
def bt_ty1 : Nat → FieldType := fun k => bt_nth .int [(.array (.array .int)), (.array .int), (.array .int), (.array .int), .int, .int, .int] k
theorem bt_nm1 : ∀ a, a < 7 → ∀ b, b < 7 → a ≠ b → (bt_T1 a).2.1 ≠ (bt_T1 b).2.1 := by decide +kernel
theorem bt_tyok1 : ∀ k, k < 7 → parseFieldDescriptor (bt_T1 k).2.2.1 = some (bt_ty1 k) := by decide +kernel
theorem bt_in1 : ∀ w ∈ u_ws bt_R1 bt_T1 7, w ∈ lw_tbl := by
  intro w hw
  obtain ⟨k, hk, rfl⟩ := List.mem_map.mp hw
  have hk := List.mem_range.mp hk
  have h : ∀ k, k < 7 → lw_tbl[bt_nth 0 [143, 145, 147, 149, 151, 153, 155] k]? = some (u_lay bt_R1 bt_T1 k) := by decide +kernel
  exact List.mem_of_getElem? (h k hk)
theorem bt_inst1 : Cond.instantiable bt_R1 7 ∈ lw_tbl := List.mem_of_getElem? (i := 124) (by decide +kernel)
def bt_R2 : String := "BellTrees$Law"
def bt_T2 : u_T := fun k => bt_nth ("", "", "", false) [("BellTrees$Law", "tape", "[I", true), ("BellTrees$Law", "draft", "[I", true), ("BellTrees$Law", "signs", "[I", true), ("BellTrees$Law", "stack", "[I", true), ("BellTrees$Law", "fed", "I", false), ("BellTrees$Law", "at", "I", false), ("BellTrees$Law", "drafted", "I", false), ("BellTrees$Law", "length", "I", false), ("BellTrees$Law", "top", "I", false), ("BellTrees$Law", "loud", "I", false), ("BellTrees$Law", "far", "I", false), ("BellTrees$Law", "wind", "I", false), ("BellTrees$Law", "pitch", "I", false), ("BellTrees$Law", "snow", "I", false), ("BellTrees$Law", "sort", "I", false)] k
def bt_ty2 : Nat → FieldType := fun k => bt_nth .int [(.array .int), (.array .int), (.array .int), (.array .int), .int, .int, .int, .int, .int, .int, .int, .int, .int, .int, .int] k
theorem bt_nm2 : ∀ a, a < 15 → ∀ b, b < 15 → a ≠ b → (bt_T2 a).2.1 ≠ (bt_T2 b).2.1 := by decide +kernel
theorem bt_tyok2 : ∀ k, k < 15 → parseFieldDescriptor (bt_T2 k).2.2.1 = some (bt_ty2 k) := by decide +kernel
theorem bt_in2 : ∀ w ∈ u_ws bt_R2 bt_T2 15, w ∈ lw_tbl := by
  intro w hw
  obtain ⟨k, hk, rfl⟩ := List.mem_map.mp hw
  have hk := List.mem_range.mp hk
  have h : ∀ k, k < 15 → lw_tbl[bt_nth 0 [180, 182, 184, 186, 188, 190, 192, 194, 196, 198, 200, 202, 204, 206, 208] k]? = some (u_lay bt_R2 bt_T2 k) := by decide +kernel
  exact List.mem_of_getElem? (h k hk)
theorem bt_inst2 : Cond.instantiable bt_R2 15 ∈ lw_tbl := List.mem_of_getElem? (i := 160) (by decide +kernel)
def bt_R3 : String := "BellTrees$Sounds"
def bt_T3 : u_T := fun k => bt_nth ("", "", "", false) [("BellTrees$Sounds", "forest", "LBellTrees$Forest;", true), ("BellTrees$Sounds", "law", "LBellTrees$Law;", true), ("BellTrees$Sounds", "sound", "[[I", true), ("BellTrees$Sounds", "heardIn", "[I", true)] k
def bt_ty3 : Nat → FieldType := fun k => bt_nth .int [(.object "BellTrees$Forest"), (.object "BellTrees$Law"), (.array (.array .int)), (.array .int)] k
theorem bt_nm3 : ∀ a, a < 4 → ∀ b, b < 4 → a ≠ b → (bt_T3 a).2.1 ≠ (bt_T3 b).2.1 := by decide +kernel
theorem bt_tyok3 : ∀ k, k < 4 → parseFieldDescriptor (bt_T3 k).2.2.1 = some (bt_ty3 k) := by decide +kernel
theorem bt_in3 : ∀ w ∈ u_ws bt_R3 bt_T3 4, w ∈ lw_tbl := by
  intro w hw
  obtain ⟨k, hk, rfl⟩ := List.mem_map.mp hw
  have hk := List.mem_range.mp hk
  have h : ∀ k, k < 4 → lw_tbl[bt_nth 0 [222, 224, 226, 228] k]? = some (u_lay bt_R3 bt_T3 k) := by decide +kernel
  exact List.mem_of_getElem? (h k hk)
theorem bt_inst3 : Cond.instantiable bt_R3 4 ∈ lw_tbl := List.mem_of_getElem? (i := 212) (by decide +kernel)
def bt_R4 : String := "BellTrees$Walks"
def bt_T4 : u_T := fun k => bt_nth ("", "", "", false) [("BellTrees$Walks", "forest", "LBellTrees$Forest;", true), ("BellTrees$Walks", "onward", "[[I", true)] k
def bt_ty4 : Nat → FieldType := fun k => bt_nth .int [(.object "BellTrees$Forest"), (.array (.array .int))] k
theorem bt_nm4 : ∀ a, a < 2 → ∀ b, b < 2 → a ≠ b → (bt_T4 a).2.1 ≠ (bt_T4 b).2.1 := by decide +kernel
theorem bt_tyok4 : ∀ k, k < 2 → parseFieldDescriptor (bt_T4 k).2.2.1 = some (bt_ty4 k) := by decide +kernel
theorem bt_in4 : ∀ w ∈ u_ws bt_R4 bt_T4 2, w ∈ lw_tbl := by
  intro w hw
  obtain ⟨k, hk, rfl⟩ := List.mem_map.mp hw
  have hk := List.mem_range.mp hk
  have h : ∀ k, k < 2 → lw_tbl[bt_nth 0 [240, 242] k]? = some (u_lay bt_R4 bt_T4 k) := by decide +kernel
  exact List.mem_of_getElem? (h k hk)
theorem bt_inst4 : Cond.instantiable bt_R4 2 ∈ lw_tbl := List.mem_of_getElem? (i := 232) (by decide +kernel)
def bt_R5 : String := "BellTrees$Changes"
def bt_T5 : u_T := fun k => bt_nth ("", "", "", false) [("BellTrees$Changes", "what", "[I", true), ("BellTrees$Changes", "number", "[I", true), ("BellTrees$Changes", "was", "[I", true), ("BellTrees$Changes", "became", "[I", true), ("BellTrees$Changes", "done", "I", false), ("BellTrees$Changes", "kept", "I", false)] k
def bt_ty5 : Nat → FieldType := fun k => bt_nth .int [(.array .int), (.array .int), (.array .int), (.array .int), .int, .int] k
theorem bt_nm5 : ∀ a, a < 6 → ∀ b, b < 6 → a ≠ b → (bt_T5 a).2.1 ≠ (bt_T5 b).2.1 := by decide +kernel
theorem bt_tyok5 : ∀ k, k < 6 → parseFieldDescriptor (bt_T5 k).2.2.1 = some (bt_ty5 k) := by decide +kernel
theorem bt_in5 : ∀ w ∈ u_ws bt_R5 bt_T5 6, w ∈ lw_tbl := by
  intro w hw
  obtain ⟨k, hk, rfl⟩ := List.mem_map.mp hw
  have hk := List.mem_range.mp hk
  have h : ∀ k, k < 6 → lw_tbl[bt_nth 0 [257, 259, 261, 263, 265, 267] k]? = some (u_lay bt_R5 bt_T5 k) := by decide +kernel
  exact List.mem_of_getElem? (h k hk)
theorem bt_inst5 : Cond.instantiable bt_R5 6 ∈ lw_tbl := List.mem_of_getElem? (i := 246) (by decide +kernel)
def bt_R6 : String := "BellTrees$Image"
def bt_T6 : u_T := fun k => bt_nth ("", "", "", false) [("BellTrees$Image", "pitch", "[I", true), ("BellTrees$Image", "hangs", "[I", true), ("BellTrees$Image", "there", "[I", true), ("BellTrees$Image", "heard", "[I", true), ("BellTrees$Image", "stands", "Z", false), ("BellTrees$Image", "treesKnown", "I", false), ("BellTrees$Image", "walksKnown", "I", false)] k
def bt_ty6 : Nat → FieldType := fun k => bt_nth .int [(.array .int), (.array .int), (.array .int), (.array .int), .boolean, .int, .int] k
theorem bt_nm6 : ∀ a, a < 7 → ∀ b, b < 7 → a ≠ b → (bt_T6 a).2.1 ≠ (bt_T6 b).2.1 := by decide +kernel
theorem bt_tyok6 : ∀ k, k < 7 → parseFieldDescriptor (bt_T6 k).2.2.1 = some (bt_ty6 k) := by decide +kernel
theorem bt_in6 : ∀ w ∈ u_ws bt_R6 bt_T6 7, w ∈ lw_tbl := by
  intro w hw
  obtain ⟨k, hk, rfl⟩ := List.mem_map.mp hw
  have hk := List.mem_range.mp hk
  have h : ∀ k, k < 7 → lw_tbl[bt_nth 0 [283, 285, 287, 289, 291, 293, 295] k]? = some (u_lay bt_R6 bt_T6 k) := by decide +kernel
  exact List.mem_of_getElem? (h k hk)
theorem bt_inst6 : Cond.instantiable bt_R6 7 ∈ lw_tbl := List.mem_of_getElem? (i := 271) (by decide +kernel)
def bt_R7 : String := "BellTrees$Bodies"
def bt_T7 : u_T := fun k => bt_nth ("", "", "", false) [("BellTrees$Bodies", "kinds", "[I", true), ("BellTrees$Bodies", "ranFirst", "[I", true), ("BellTrees$Bodies", "bodiesKept", "I", false), ("BellTrees$Bodies", "ran", "I", false), ("BellTrees$Bodies", "actor", "I", false)] k
def bt_ty7 : Nat → FieldType := fun k => bt_nth .int [(.array .int), (.array .int), .int, .int, .int] k
theorem bt_nm7 : ∀ a, a < 5 → ∀ b, b < 5 → a ≠ b → (bt_T7 a).2.1 ≠ (bt_T7 b).2.1 := by decide +kernel
theorem bt_tyok7 : ∀ k, k < 5 → parseFieldDescriptor (bt_T7 k).2.2.1 = some (bt_ty7 k) := by decide +kernel
theorem bt_in7 : ∀ w ∈ u_ws bt_R7 bt_T7 5, w ∈ lw_tbl := by
  intro w hw
  obtain ⟨k, hk, rfl⟩ := List.mem_map.mp hw
  have hk := List.mem_range.mp hk
  have h : ∀ k, k < 5 → lw_tbl[bt_nth 0 [309, 311, 313, 315, 317] k]? = some (u_lay bt_R7 bt_T7 k) := by decide +kernel
  exact List.mem_of_getElem? (h k hk)
theorem bt_inst7 : Cond.instantiable bt_R7 5 ∈ lw_tbl := List.mem_of_getElem? (i := 299) (by decide +kernel)
def bt_R8 : String := "BellTrees$Shelf"
def bt_T8 : u_T := fun k => bt_nth ("", "", "", false) [("BellTrees$Shelf", "elements", "[J", true), ("BellTrees$Shelf", "heldBody", "I", false), ("BellTrees$Shelf", "rowSort", "I", false), ("BellTrees$Shelf", "size", "I", false)] k
def bt_ty8 : Nat → FieldType := fun k => bt_nth .int [(.array .long), .int, .int, .int] k
theorem bt_nm8 : ∀ a, a < 4 → ∀ b, b < 4 → a ≠ b → (bt_T8 a).2.1 ≠ (bt_T8 b).2.1 := by decide +kernel
theorem bt_tyok8 : ∀ k, k < 4 → parseFieldDescriptor (bt_T8 k).2.2.1 = some (bt_ty8 k) := by decide +kernel
theorem bt_in8 : ∀ w ∈ u_ws bt_R8 bt_T8 4, w ∈ lw_tbl := by
  intro w hw
  obtain ⟨k, hk, rfl⟩ := List.mem_map.mp hw
  have hk := List.mem_range.mp hk
  have h : ∀ k, k < 4 → lw_tbl[bt_nth 0 [331, 333, 335, 337] k]? = some (u_lay bt_R8 bt_T8 k) := by decide +kernel
  exact List.mem_of_getElem? (h k hk)
theorem bt_inst8 : Cond.instantiable bt_R8 4 ∈ lw_tbl := List.mem_of_getElem? (i := 322) (by decide +kernel)
def bt_R9 : String := "BellTreesModel"
def bt_T9 : u_T := fun k => bt_nth ("", "", "", false) [("BellTreesModel", "code", "I", false), ("BellTreesModel", "trees", "I", false), ("BellTreesModel", "pitch", "[I", true), ("BellTreesModel", "loud", "[I", true), ("BellTreesModel", "hangs", "[I", true), ("BellTreesModel", "there", "[I", true), ("BellTreesModel", "beside", "[I", true), ("BellTreesModel", "heard", "[I", true), ("BellTreesModel", "paths", "I", false), ("BellTreesModel", "walks", "I", false), ("BellTreesModel", "wind", "[I", true), ("BellTreesModel", "height", "[I", true), ("BellTreesModel", "snow", "I", false), ("BellTreesModel", "hut", "I", false), ("BellTreesModel", "doneMany", "I", false), ("BellTreesModel", "undoneMany", "I", false), ("BellTreesModel", "changeOf", "[I", true), ("BellTreesModel", "changeAt", "[I", true), ("BellTreesModel", "before", "[I", true), ("BellTreesModel", "behind", "[I", true), ("BellTreesModel", "far", "[I", true), ("BellTreesModel", "tape", "[B", true), ("BellTreesModel", "taped", "I", false), ("BellTreesModel", "here", "I", false), ("BellTreesModel", "fault", "I", false), ("BellTreesModel", "open", "I", false), ("BellTreesModel", "laid", "I", false), ("BellTreesModel", "act", "[B", true), ("BellTreesModel", "with", "[I", true), ("BellTreesModel", "lineMany", "[I", true), ("BellTreesModel", "testEnd", "[S", true), ("BellTreesModel", "lineEnd", "[S", true), ("BellTreesModel", "facts", "[I", true), ("BellTreesModel", "pile", "[I", true), ("BellTreesModel", "hasLaw", "Z", false), ("BellTreesModel", "onward", "[J", true), ("BellTreesModel", "upTo", "[J", true), ("BellTreesModel", "least1", "[I", true), ("BellTreesModel", "drawn", "I", false), ("BellTreesModel", "keptTrees", "I", false), ("BellTreesModel", "keptWalks", "I", false), ("BellTreesModel", "keptPitch", "[I", true), ("BellTreesModel", "keptHangs", "[I", true), ("BellTreesModel", "keptThere", "[I", true), ("BellTreesModel", "keptHeard", "[I", true), ("BellTreesModel", "bodies", "I", false), ("BellTreesModel", "kind", "[I", true), ("BellTreesModel", "traces", "I", false), ("BellTreesModel", "traced", "[I", true), ("BellTreesModel", "holds", "[I", true), ("BellTreesModel", "size", "[I", true), ("BellTreesModel", "elements", "[J", true), ("BellTreesModel", "shifted", "[J", true)] k
def bt_ty9 : Nat → FieldType := fun k => bt_nth .int [.int, .int, (.array .int), (.array .int), (.array .int), (.array .int), (.array .int), (.array .int), .int, .int, (.array .int), (.array .int), .int, .int, .int, .int, (.array .int), (.array .int), (.array .int), (.array .int), (.array .int), (.array .byte), .int, .int, .int, .int, .int, (.array .byte), (.array .int), (.array .int), (.array .short), (.array .short), (.array .int), (.array .int), .boolean, (.array .long), (.array .long), (.array .int), .int, .int, .int, (.array .int), (.array .int), (.array .int), (.array .int), .int, (.array .int), .int, (.array .int), (.array .int), (.array .int), (.array .long), (.array .long)] k
theorem bt_nm9 : ∀ a, a < 53 → ∀ b, b < 53 → a ≠ b → (bt_T9 a).2.1 ≠ (bt_T9 b).2.1 := by decide +kernel
theorem bt_tyok9 : ∀ k, k < 53 → parseFieldDescriptor (bt_T9 k).2.2.1 = some (bt_ty9 k) := by decide +kernel
theorem bt_in9 : ∀ w ∈ u_ws bt_R9 bt_T9 53, w ∈ lw_tbl := by
  intro w hw
  obtain ⟨k, hk, rfl⟩ := List.mem_map.mp hw
  have hk := List.mem_range.mp hk
  have h : ∀ k, k < 53 → lw_tbl[bt_nth 0 [1090, 1092, 1094, 1096, 1098, 1100, 1102, 1104, 1106, 1108, 1110, 1112, 1114, 1116, 1118, 1120, 1122, 1124, 1126, 1128, 1130, 1132, 1134, 1136, 1138, 1140, 1142, 1144, 1146, 1148, 1150, 1152, 1154, 1156, 1158, 1160, 1162, 1164, 1166, 1168, 1170, 1172, 1174, 1176, 1178, 1180, 1182, 1184, 1186, 1188, 1190, 1192, 1194] k]? = some (u_lay bt_R9 bt_T9 k) := by decide +kernel
  exact List.mem_of_getElem? (h k hk)
theorem bt_inst9 : Cond.instantiable bt_R9 53 ∈ lw_tbl := List.mem_of_getElem? (i := 1033) (by decide +kernel)
abbrev bt_cl : List vw_C := [(bt_R0, bt_T0, 9), (bt_R1, bt_T1, 7), (bt_R2, bt_T2, 15), (bt_R3, bt_T3, 4), (bt_R4, bt_T4, 2), (bt_R5, bt_T5, 6), (bt_R6, bt_T6, 7), (bt_R7, bt_T7, 5), (bt_R8, bt_T8, 4), (bt_R9, bt_T9, 53)]
/-- what a field is: 0 int, 1 boolean, 2 a reference -/
def bt_fk (c j : Nat) : Nat := bt_nth 9 (bt_nth [] [[2, 2, 2, 2, 2, 2, 2, 2, 2], [2, 2, 2, 2, 0, 0, 0], [2, 2, 2, 2, 0, 0, 0, 0, 0, 0, 0, 0, 0, 0, 0], [2, 2, 2, 2], [2, 2], [2, 2, 2, 2, 0, 0], [2, 2, 2, 2, 1, 0, 0], [2, 2, 0, 0, 0], [2, 0, 0, 0], [0, 0, 2, 2, 2, 2, 2, 2, 0, 0, 2, 2, 0, 0, 0, 0, 2, 2, 2, 2, 2, 2, 0, 0, 0, 0, 0, 2, 2, 2, 2, 2, 2, 2, 1, 2, 2, 2, 0, 0, 0, 2, 2, 2, 2, 0, 2, 0, 2, 2, 2, 2, 2]] c) j
def bt_nf (c : Nat) : Nat := bt_nth 0 [9, 7, 15, 4, 2, 6, 7, 5, 4, 53] c
-- kinds: 0 BellTrees, 1 Forest, 2 value, 3 value rows, 4 near, 5 far, 6 heard, 7 Law, 8 tape, 9 draft, 10 signs, 11 stack, 12 Sounds, 13 sound, 14 sound rows, 15 heardIn, 16 Walks, 17 onward, 18 onward rows, 19 Changes, 20 what, 21 number, 22 was, 23 became, 24 Image, 25 i.pitch, 26 i.hangs, 27 i.there, 28 i.heard, 29 Bodies, 30 kinds, 31 ranFirst, 32 shelves, 33 Shelf, 34 elements, 35 Model, 36 m.pitch, 37 m.loud, 38 m.hangs, 39 m.there, 40 m.beside, 41 m.heard, 42 m.wind, 43 m.height, 44 m.changeOf, 45 m.changeAt, 46 m.before, 47 m.behind, 48 m.far, 49 m.tape, 50 m.act, 51 m.with, 52 m.lineMany, 53 m.testEnd, 54 m.lineEnd, 55 m.facts, 56 m.pile, 57 m.onward, 58 m.upTo, 59 m.least1, 60 m.keptPitch, 61 m.keptHangs, 62 m.keptThere, 63 m.keptHeard, 64 m.kind, 65 m.traced, 66 m.holds, 67 m.size, 68 m.elements, 69 m.shifted
/-- the shape of a kind: 0 an object of the c-th of bt_cl; 1 ints, 2 longs, 3 bytes, 4 shorts, 5 rows of ints, 6 Shelf; how long -/
def bt_shp (k : Nat) : Nat × Nat := bt_nth (9, 0) [(0, 0), (0, 1), (5, 8), (1, 24), (1, 8), (1, 8), (1, 8), (0, 2), (1, 120), (1, 128), (1, 128), (1, 128), (0, 3), (5, 8), (1, 24), (1, 10), (0, 4), (5, 24), (1, 8), (0, 5), (1, 40), (1, 40), (1, 40), (1, 40), (0, 6), (1, 8), (1, 8), (1, 8), (1, 8), (0, 7), (1, 50), (1, 24), (6, 6), (0, 8), (2, 60), (0, 9), (1, 8), (1, 8), (1, 8), (1, 8), (1, 8), (1, 8), (1, 24), (1, 4), (1, 40), (1, 40), (1, 40), (1, 40), (1, 8), (3, 120), (3, 260), (1, 260), (1, 2), (4, 122), (4, 122), (1, 6), (1, 130), (2, 200), (2, 192), (1, 192), (1, 8), (1, 8), (1, 8), (1, 8), (1, 50), (1, 24), (1, 6), (1, 6), (2, 360), (2, 60)] k
def bt_cntL : List Nat := [1, 1, 1, 8, 1, 1, 1, 1, 1, 1, 1, 1, 2, 2, 16, 2, 1, 1, 24, 1, 1, 1, 1, 1, 1, 1, 1, 1, 1, 1, 1, 1, 1, 6, 6, 1, 1, 1, 1, 1, 1, 1, 1, 1, 1, 1, 1, 1, 1, 1, 1, 1, 1, 1, 1, 1, 1, 1, 1, 1, 1, 1, 1, 1, 1, 1, 1, 1, 1, 1]
/-- how many cells of a kind there are (100 on: the static arrays) -/
def bt_cnt (k : Nat) : Nat := bt_nth 0 bt_cntL k
def bt_NK : Nat := 70
def bt_bas (k : Nat) : Nat := bt_nth 0 [0, 1, 2, 3, 11, 12, 13, 14, 15, 16, 17, 18, 19, 21, 23, 39, 41, 42, 43, 67, 68, 69, 70, 71, 72, 73, 74, 75, 76, 77, 78, 79, 80, 81, 87, 93, 94, 95, 96, 97, 98, 99, 100, 101, 102, 103, 104, 105, 106, 107, 108, 109, 110, 111, 112, 113, 114, 115, 116, 117, 118, 119, 120, 121, 122, 123, 124, 125, 126, 127] k
def bt_NMS : List (Nat × Nat) := (List.range bt_NK).flatMap (fun k => (List.range (bt_cnt k)).map (fun i => (k, i)))
def bt_RF (k i j : Nat) : Option (Nat × Nat) := bt_nth (fun _ _ => none) [fun i j => bt_nth none [some (1, 0), some (7, 0), some (12, 0), some (12, 1), some (16, 0), some (19, 0), some (24, 0), some (29, 0), some (32, 0)] j, fun i j => bt_nth none [some (2, 0), some (4, 0), some (5, 0), some (6, 0), none, none, none] j, fun _ j => some (3, j), fun _ _ => none, fun _ _ => none, fun _ _ => none, fun _ _ => none, fun i j => bt_nth none [some (8, 0), some (9, 0), some (10, 0), some (11, 0), none, none, none, none, none, none, none, none, none, none, none] j, fun _ _ => none, fun _ _ => none, fun _ _ => none, fun _ _ => none, fun i j => bt_nth none [some (1, 0), some (7, 0), some (13, i), some (15, i)] j, fun i j => some (14, 8 * i + j), fun _ _ => none, fun _ _ => none, fun i j => bt_nth none [some (1, 0), some (17, 0)] j, fun _ j => some (18, j), fun _ _ => none, fun i j => bt_nth none [some (20, 0), some (21, 0), some (22, 0), some (23, 0), none, none] j, fun _ _ => none, fun _ _ => none, fun _ _ => none, fun _ _ => none, fun i j => bt_nth none [some (25, 0), some (26, 0), some (27, 0), some (28, 0), none, none, none] j, fun _ _ => none, fun _ _ => none, fun _ _ => none, fun _ _ => none, fun i j => bt_nth none [some (30, 0), some (31, 0), none, none, none] j, fun _ _ => none, fun _ _ => none, fun _ j => some (33, j), fun i j => bt_nth none [some (34, i), none, none, none] j, fun _ _ => none, fun i j => bt_nth none [none, none, some (36, 0), some (37, 0), some (38, 0), some (39, 0), some (40, 0), some (41, 0), none, none, some (42, 0), some (43, 0), none, none, none, none, some (44, 0), some (45, 0), some (46, 0), some (47, 0), some (48, 0), some (49, 0), none, none, none, none, none, some (50, 0), some (51, 0), some (52, 0), some (53, 0), some (54, 0), some (55, 0), some (56, 0), none, some (57, 0), some (58, 0), some (59, 0), none, none, none, some (60, 0), some (61, 0), some (62, 0), some (63, 0), none, some (64, 0), none, some (65, 0), some (66, 0), some (67, 0), some (68, 0), some (69, 0)] j, fun _ _ => none, fun _ _ => none, fun _ _ => none, fun _ _ => none, fun _ _ => none, fun _ _ => none, fun _ _ => none, fun _ _ => none, fun _ _ => none, fun _ _ => none, fun _ _ => none, fun _ _ => none, fun _ _ => none, fun _ _ => none, fun _ _ => none, fun _ _ => none, fun _ _ => none, fun _ _ => none, fun _ _ => none, fun _ _ => none, fun _ _ => none, fun _ _ => none, fun _ _ => none, fun _ _ => none, fun _ _ => none, fun _ _ => none, fun _ _ => none, fun _ _ => none, fun _ _ => none, fun _ _ => none, fun _ _ => none, fun _ _ => none, fun _ _ => none, fun _ _ => none] k i j
def bt_SC (j : Nat) : String × String := bt_nth ("", "") [("BellTrees$Forest", "MOST"), ("BellTrees$Bodies", "ABOVE"), ("BellTrees$Bodies", "OWN")] j
def bt_SN (j : Nat) : Nat := bt_nth 0 [8, 8, 32] j
def bt_SV (j i : Nat) : Int32 := bt_nth 0 (bt_nth [] [[9, 9, 9, 1, 9, 9, 9, 7], [-1, 0, 0, 2, 1, 3, 0, 6], [1, 10, 11, 2, 20, 0, 0, 0, 0, 30, 0, 0, 0, 41, 40, 0, 0, 0, 0, 50, 0, 0, 60, 61, 70, 0, 0, 0, 81, 80, 0, 0]] j) i
theorem bt_pos : ∀ k, k < 70 → ∀ i, i < bt_cnt k → bt_NMS[bt_bas k + i]? = some (k, i) := by decide +kernel
theorem bt_cnt_big (k : Nat) (h : 70 ≤ k) : bt_cnt k = 0 := by
  have e : k = (k - 70) + 70 := by omega
  rw [e]; rfl
theorem bt_mem_ok : ∀ q ∈ bt_NMS, q.1 < 70 ∧ q.2 < bt_cnt q.1 := by decide +kernel
end
section
/-! THE ABSTRACT MACHINE: values, states, the world that a state stands for, one instruction as a predicate -/
abbrev bt_MI : Type := MethodName × ByteArray × Nat × Option FieldType
/-- an instruction, its length; two numbers (a class and a field; a target); its constant; a switch's targets; the called method -/
abbrev bt_E : Type := Instr × Nat × (Nat × Nat) × (Int32 × Int64) × List (Int32 × Nat) × bt_MI
abbrev av_T : Type := Int32 ⊕ (Int64 ⊕ Option (Nat × Nat))
abbrev vi (x : Int32) : av_T := .inl x
abbrev vl (x : Int64) : av_T := .inr (.inl x)
abbrev vr (k i : Nat) : av_T := .inr (.inr (some (k, i)))
abbrev vn : av_T := .inr (.inr none)
abbrev m_I : Type := Nat → Nat → Nat → Int32
abbrev m_L : Type := Nat → Nat → Nat → Int64
abbrev st_T : Type := m_I × m_L
abbrev tn (x : Int32) : Nat := x.toNatClampNeg
def ui (I : m_I) (k i j : Nat) (v : Int32) : m_I := fun a b c => if a = k then (if b = i then (if c = j then v else I a b c) else I a b c) else I a b c
def ul (I : m_L) (k i j : Nat) (v : Int64) : m_L := fun a b c => if a = k then (if b = i then (if c = j then v else I a b c) else I a b c) else I a b c
/-- a row copied -/
def uc (I : m_I) (k i : Nat) (f : Nat → Int32) : m_I := fun a b c => if a = k then (if b = i then f c else I a b c) else I a b c
def ud (I : m_L) (k i : Nat) (f : Nat → Int64) : m_L := fun a b c => if a = k then (if b = i then f c else I a b c) else I a b c
abbrev bt_PT : Type := Launch × va_G × (Nat → ClassId) × (Nat → Nat → Nat) × Nat × (Nat → Nat) × (Nat → Int32) × Nat
def bt_l (P : bt_PT) : Launch := P.1
def bt_D (P : bt_PT) : va_G := P.2.1
def bt_dA (P : bt_PT) : Nat → ClassId := P.2.2.1
def bt_ad (P : bt_PT) : Nat → Nat → Nat := P.2.2.2.1
def bt_B (P : bt_PT) : Nat := P.2.2.2.2.1
def bt_stA (P : bt_PT) : Nat → Nat := P.2.2.2.2.2.1
def bt_xs (P : bt_PT) : Nat → Int32 := P.2.2.2.2.2.2.1
def bt_xn (P : bt_PT) : Nat := P.2.2.2.2.2.2.2
/-- static arrays and (the fourth) the law's script -/
def bt_sv (P : bt_PT) (j i : Nat) : Int32 := if j = 3 then bt_xs P i else bt_SV j i
def bt_sn (P : bt_PT) (j : Nat) : Nat := if j = 3 then bt_xn P else bt_SN j
def bt_A (P : bt_PT) : Nat → Prop := fun q => bt_B P ≤ q
/-- a name's address -/
def bt_adr (P : bt_PT) (q : Nat × Nat) : Nat := if 100 ≤ q.1 then bt_stA P (q.1 - 100) else bt_ad P q.1 q.2
def bt_va (P : bt_PT) : av_T → Value
  | .inl x => .int x
  | .inr (.inl x) => .long x
  | .inr (.inr none) => .null
  | .inr (.inr (some q)) => .ref (bt_adr P q)
def bt_fv (P : bt_PT) (I : m_I) (c k i j : Nat) : Value := if bt_fk c j = 2 then va_rf ((bt_RF k i j).map (bt_adr P)) else .int (I k i j)
def bt_ent (P : bt_PT) (σ : st_T) (q : Nat × Nat) : va_E :=
  match bt_shp q.1 with
  | (0, c) => .inr (c, (List.range (bt_nf c)).map (bt_fv P σ.1 c q.1 q.2))
  | (1, n) => .inl (bt_dA P 0, n, .inl (σ.1 q.1 q.2))
  | (2, n) => .inl (bt_dA P 1, n, .inr (.inl (σ.2 q.1 q.2)))
  | (3, n) => .inl (bt_dA P 2, n, .inl (σ.1 q.1 q.2))
  | (4, n) => .inl (bt_dA P 3, n, .inl (σ.1 q.1 q.2))
  | (5, n) => .inl (bt_dA P 4, n, .inr (.inr (.inr (.inr (fun j => (bt_RF q.1 q.2 j).map (bt_adr P))))))
  | (_, n) => .inl (bt_dA P 5, n, .inr (.inr (.inr (.inr (fun j => (bt_RF q.1 q.2 j).map (bt_adr P))))))
def bt_wl (P : bt_PT) (σ : st_T) : va_W := bt_NMS.map (fun q => (bt_ad P q.1 q.2, bt_ent P σ q))
def bt_tys (P : bt_PT) : List (ClassId × FieldType) := [(bt_dA P 0, .int), (bt_dA P 1, .long), (bt_dA P 2, .byte), (bt_dA P 3, .short), (bt_dA P 4, .array .int), (bt_dA P 5, .object "BellTrees$Shelf")]
/-- the static arrays at a state and a heap -/
def bt_SF (P : bt_PT) (U : State) (H : Heap) : Prop := (∀ j, j < 3 → va_Z (bt_SC j).1 (bt_SC j).2 "[I" (.ref (bt_stA P j)) (bt_A P) U H) ∧ ∀ j, j < 4 → va_T .int (bt_stA P j) (bt_sn P j) (fun i => .int (bt_sv P j i)) (bt_A P) U H
def bt_okP (P : bt_PT) : Prop := (∀ a ∈ bt_NMS, ∀ b ∈ bt_NMS, bt_ad P a.1 a.2 = bt_ad P b.1 b.2 → a = b) ∧ ∀ a ∈ bt_NMS, bt_B P ≤ bt_ad P a.1 a.2
/-- a name of a cell that is there -/
def bt_ok (q : Nat × Nat) : Prop := q.2 < bt_cnt q.1 ∨ (100 ≤ q.1 ∧ q.1 < 104)
def bt_okv (v : av_T) : Prop := match v with
  | .inr (.inr (some q)) => bt_ok q
  | _ => True
/-- the continuations of calls, by what is answered -/
abbrev kI (f : Int32 → m_I → m_L → Prop) : Option av_T → st_T → Prop := fun r σ => match r with
  | some (.inl x) => f x σ.1 σ.2
  | _ => False
abbrev kL (f : Int64 → m_I → m_L → Prop) : Option av_T → st_T → Prop := fun r σ => match r with
  | some (.inr (.inl x)) => f x σ.1 σ.2
  | _ => False
abbrev kR (f : Option (Nat × Nat) → m_I → m_L → Prop) : Option av_T → st_T → Prop := fun r σ => match r with
  | some (.inr (.inr x)) => f x σ.1 σ.2
  | _ => False
abbrev kV (f : m_I → m_L → Prop) : Option av_T → st_T → Prop := fun r σ => match r with
  | none => f σ.1 σ.2
  | _ => False
abbrev bt_WT : Type := bt_MI → List av_T → st_T → (Option av_T → st_T → Prop) → Prop
abbrev bt_NT : Type := Nat → List (Option av_T) → List av_T → st_T → Prop
/-- loads and stores of locals -/
def bt_lg (L : List (Option av_T)) (i : Nat) : Option av_T := bt_nth none L i
def bt_isl : Option av_T → Bool
  | some (.inr (.inl _)) => true
  | _ => false
def bt_set : List (Option av_T) → Nat → Option av_T → List (Option av_T)
  | [], _, _ => []
  | _ :: r, 0, v => v :: r
  | a :: r, n + 1, v => a :: bt_set r n v
/-- a store at i may not cut a long that stands at i - 1 -/
def bt_cut (L : List (Option av_T)) (i : Nat) : Bool := match i with
  | 0 => false
  | j + 1 => bt_isl (bt_nth none L j)
def bt_li (L : List (Option av_T)) (i : Nat) (k : Int32 → Prop) : Prop := match bt_lg L i with
  | some (.inl x) => k x
  | _ => False
def bt_ll (L : List (Option av_T)) (i : Nat) (k : Int64 → Prop) : Prop := match bt_lg L i with
  | some (.inr (.inl x)) => k x
  | _ => False
def bt_la (L : List (Option av_T)) (i : Nat) (k : Option (Nat × Nat) → Prop) : Prop := match bt_lg L i with
  | some (.inr (.inr x)) => k x
  | _ => False
def bt_if (b : Bool) (p : Prop) : Prop := match b with
  | true => p
  | false => False
def bt_ife (b : Bool) (p q : Prop) : Prop := match b with
  | true => p
  | false => q
def bt_si (L : List (Option av_T)) (i : Nat) (S : List av_T) (k : List (Option av_T) → List av_T → Prop) : Prop := match S with
  | .inl x :: r => bt_if (!bt_cut L i) (k (bt_set L i (some (.inl x))) r)
  | _ => False
def bt_sa (L : List (Option av_T)) (i : Nat) (S : List av_T) (k : List (Option av_T) → List av_T → Prop) : Prop := match S with
  | .inr (.inr x) :: r => bt_if (!bt_cut L i) (k (bt_set L i (some (.inr (.inr x)))) r)
  | _ => False
def bt_sl (L : List (Option av_T)) (i : Nat) (S : List av_T) (k : List (Option av_T) → List av_T → Prop) : Prop := match S with
  | .inr (.inl x) :: r => bt_if (!bt_cut L i) (k (bt_set (bt_set L i (some (.inr (.inl x)))) (i + 1) none) r)
  | _ => False
def bt_u1 (S : List av_T) (k : Int32 → List av_T → Prop) : Prop := match S with
  | .inl x :: r => k x r
  | _ => False
def bt_uL (S : List av_T) (k : Int64 → List av_T → Prop) : Prop := match S with
  | .inr (.inl x) :: r => k x r
  | _ => False
def bt_uA (S : List av_T) (k : Option (Nat × Nat) → List av_T → Prop) : Prop := match S with
  | .inr (.inr x) :: r => k x r
  | _ => False
/-- x below y -/
def bt_u2 (S : List av_T) (k : Int32 → Int32 → List av_T → Prop) : Prop := match S with
  | .inl y :: .inl x :: r => k x y r
  | _ => False
def bt_uLL (S : List av_T) (k : Int64 → Int64 → List av_T → Prop) : Prop := match S with
  | .inr (.inl y) :: .inr (.inl x) :: r => k x y r
  | _ => False
def bt_uLI (S : List av_T) (k : Int64 → Int32 → List av_T → Prop) : Prop := match S with
  | .inl y :: .inr (.inl x) :: r => k x y r
  | _ => False
/-- an object (never null here) -/
def bt_uO (S : List av_T) (k : Nat → Nat → List av_T → Prop) : Prop := match S with
  | .inr (.inr (some q)) :: r => k q.1 q.2 r
  | _ => False
def bt_uAr (S : List av_T) (k : Nat → Nat → Int32 → List av_T → Prop) : Prop := match S with
  | .inl i :: .inr (.inr (some q)) :: r => k q.1 q.2 i r
  | _ => False
def bt_uAsI (S : List av_T) (k : Nat → Nat → Int32 → Int32 → List av_T → Prop) : Prop := match S with
  | .inl v :: .inl i :: .inr (.inr (some q)) :: r => k q.1 q.2 i v r
  | _ => False
def bt_uAsL (S : List av_T) (k : Nat → Nat → Int32 → Int64 → List av_T → Prop) : Prop := match S with
  | .inr (.inl v) :: .inl i :: .inr (.inr (some q)) :: r => k q.1 q.2 i v r
  | _ => False
def bt_tag (k : Nat) (t : Nat) (f : Nat → Prop) : Prop := bt_if (Nat.beq (bt_shp k).1 t) (f (bt_shp k).2)
/-- arguments off the stack: the last on top -/
def bt_args : Nat → List av_T → List av_T → (List av_T → List av_T → Prop) → Prop
  | 0, S, acc, k => k acc S
  | _ + 1, [], _, _ => False
  | n + 1, v :: S, acc, k => bt_args n S (v :: acc) k
def bt_cat (v : av_T) : Nat := match v with
  | .inr (.inl _) => 2
  | _ => 1
def bt_words : List av_T → Nat
  | [] => 0
  | v :: r => bt_cat v + bt_words r
/-- what a call goes on with, by its return type -/
def bt_kc (ret : Option FieldType) (Nx : List av_T → st_T → Prop) : Option av_T → st_T → Prop := match ret with
  | none => kV (fun I L => Nx [] (I, L))
  | some .int => kI (fun x I L => Nx [vi x] (I, L))
  | some .boolean => kI (fun x I L => Nx [vi x] (I, L))
  | some .long => kL (fun x I L => Nx [vl x] (I, L))
  | some (.object _) => kR (fun x I L => Nx [.inr (.inr x)] (I, L))
  | _ => fun _ _ => False
/-- the receiver: an object of the called method's own -/
def bt_isob (v : av_T) (c : Nat) : Bool := match v with
  | .inr (.inr (some q)) => Nat.beq (bt_shp q.1).1 0 && Nat.beq (bt_shp q.1).2 c && Nat.ble (q.1 + 1) 100
  | _ => false
def bt_hd (l : List av_T) : av_T := match l with
  | v :: _ => v
  | [] => vn
/-- a call: n arguments (with the receiver, where c < 100: its place among bt_cl) -/
def bt_call (WPc : bt_WT) (en : bt_E) (S : List av_T) (σ : st_T) (Nx : List av_T → st_T → Prop) : Prop :=
  bt_args en.2.2.1.1 S [] (fun As r => bt_if (Nat.ble (bt_words r) 8 && (Nat.beq en.2.2.1.2 100 || bt_isob (bt_hd As) en.2.2.1.2)) (WPc en.2.2.2.2.2 As σ (bt_kc en.2.2.2.2.2.2.2.2 (fun v σ' => Nx (v ++ r) σ'))))
def bt_sw (x : Int32) (Nx : Nat → Prop) (d : Nat) : List (Int32 × Nat) → Prop
  | [] => Nx d
  | q :: r => (x = q.1 → Nx q.2) ∧ (¬ x = q.1 → bt_sw x Nx d r)
def bt_sys : String := "java/lang/System"
/-- System.arraycopy among ints or longs -/
def bt_cpy (S : List av_T) (σ : st_T) (k : List av_T → st_T → Prop) : Prop := match S with
  | .inl n :: .inl dp :: .inr (.inr (some qd)) :: .inl sp :: .inr (.inr (some qs)) :: r =>
    bt_if (Nat.ble (qs.1 + 1) 100 && Nat.ble (qd.1 + 1) 100 && Nat.ble (bt_words r) 8) (bt_ife (Nat.beq (bt_shp qs.1).1 1 && Nat.beq (bt_shp qd.1).1 1)
      ((¬ sp < 0 ∧ ¬ dp < 0 ∧ ¬ n < 0 ∧ tn sp + tn n ≤ (bt_shp qs.1).2 ∧ tn dp + tn n ≤ (bt_shp qd.1).2) ∧ k r (uc σ.1 qd.1 qd.2 (va_cpy (σ.1 qs.1 qs.2) (σ.1 qd.1 qd.2) (tn sp) (tn dp) (tn n)), σ.2))
      (bt_if (Nat.beq (bt_shp qs.1).1 2 && Nat.beq (bt_shp qd.1).1 2)
        ((¬ sp < 0 ∧ ¬ dp < 0 ∧ ¬ n < 0 ∧ tn sp + tn n ≤ (bt_shp qs.1).2 ∧ tn dp + tn n ≤ (bt_shp qd.1).2) ∧ k r (σ.1, ud σ.2 qd.1 qd.2 (va_cpy (σ.2 qs.1 qs.2) (σ.2 qd.1 qd.2) (tn sp) (tn dp) (tn n))))))
  | _ => False
/-- one instruction; P stands for the static arrays' contents alone -/
def bt_st (P : bt_PT) (WPc : bt_WT) (K : Option av_T → st_T → Prop) (ret : Option FieldType) (en : bt_E) (pc : Nat) (L : List (Option av_T)) (S : List av_T) (σ : st_T) (Nx : bt_NT) : Prop :=
  match en.1 with
  | .iconst _ | .bipush _ | .sipush _ | .ldc _ | .ldc_w _ => Nx (pc + en.2.1) L (vi en.2.2.2.1.1 :: S) σ
  | .lconst _ | .ldc2_w _ => Nx (pc + en.2.1) L (vl en.2.2.2.1.2 :: S) σ
  | .aconst_null => Nx (pc + en.2.1) L (vn :: S) σ
  | .iload i => bt_li L i (fun x => Nx (pc + en.2.1) L (vi x :: S) σ)
  | .iload_n i => bt_li L i.1 (fun x => Nx (pc + en.2.1) L (vi x :: S) σ)
  | .lload i => bt_ll L i (fun x => Nx (pc + en.2.1) L (vl x :: S) σ)
  | .lload_n i => bt_ll L i.1 (fun x => Nx (pc + en.2.1) L (vl x :: S) σ)
  | .aload i => bt_la L i (fun x => Nx (pc + en.2.1) L (.inr (.inr x) :: S) σ)
  | .aload_n i => bt_la L i.1 (fun x => Nx (pc + en.2.1) L (.inr (.inr x) :: S) σ)
  | .istore i => bt_si L i S (fun L' S' => Nx (pc + en.2.1) L' S' σ)
  | .istore_n i => bt_si L i.1 S (fun L' S' => Nx (pc + en.2.1) L' S' σ)
  | .lstore i => bt_sl L i S (fun L' S' => Nx (pc + en.2.1) L' S' σ)
  | .lstore_n i => bt_sl L i.1 S (fun L' S' => Nx (pc + en.2.1) L' S' σ)
  | .astore i => bt_sa L i S (fun L' S' => Nx (pc + en.2.1) L' S' σ)
  | .astore_n i => bt_sa L i.1 S (fun L' S' => Nx (pc + en.2.1) L' S' σ)
  | .iinc i _ => bt_li L i (fun x => bt_if (!bt_cut L i) (Nx (pc + en.2.1) (bt_set L i (some (vi (x + en.2.2.2.1.1)))) S σ))
  | .iadd => bt_u2 S (fun x y r => Nx (pc + en.2.1) L (vi (x + y) :: r) σ)
  | .isub => bt_u2 S (fun x y r => Nx (pc + en.2.1) L (vi (x - y) :: r) σ)
  | .imul => bt_u2 S (fun x y r => Nx (pc + en.2.1) L (vi (x * y) :: r) σ)
  | .idiv => bt_u2 S (fun x y r => ¬ y = 0 ∧ Nx (pc + en.2.1) L (vi (x / y) :: r) σ)
  | .irem => bt_u2 S (fun x y r => ¬ y = 0 ∧ Nx (pc + en.2.1) L (vi (x - x / y * y) :: r) σ)
  | .ineg => bt_u1 S (fun x r => Nx (pc + en.2.1) L (vi (-x) :: r) σ)
  | .iand => bt_u2 S (fun x y r => Nx (pc + en.2.1) L (vi (x &&& y) :: r) σ)
  | .ior => bt_u2 S (fun x y r => Nx (pc + en.2.1) L (vi (x ||| y) :: r) σ)
  | .ixor => bt_u2 S (fun x y r => Nx (pc + en.2.1) L (vi (x ^^^ y) :: r) σ)
  | .ishl => bt_u2 S (fun x y r => Nx (pc + en.2.1) L (vi (x <<< (y &&& 31)) :: r) σ)
  | .ishr => bt_u2 S (fun x y r => Nx (pc + en.2.1) L (vi (x >>> (y &&& 31)) :: r) σ)
  | .iushr => bt_u2 S (fun x y r => Nx (pc + en.2.1) L (vi (x.toUInt32 >>> (y.toUInt32 &&& Int32.toUInt32 31)).toInt32 :: r) σ)
  | .ladd => bt_uLL S (fun x y r => Nx (pc + en.2.1) L (vl (x + y) :: r) σ)
  | .land => bt_uLL S (fun x y r => Nx (pc + en.2.1) L (vl (x &&& y) :: r) σ)
  | .lor => bt_uLL S (fun x y r => Nx (pc + en.2.1) L (vl (x ||| y) :: r) σ)
  | .lshl => bt_uLI S (fun x y r => Nx (pc + en.2.1) L (vl (x <<< (y.toInt64 &&& 63)) :: r) σ)
  | .lcmp => bt_uLL S (fun x y r => Nx (pc + en.2.1) L (vi (lg_cmp x y) :: r) σ)
  | .i2l => bt_u1 S (fun x r => Nx (pc + en.2.1) L (vl x.toInt64 :: r) σ)
  | .l2i => bt_uL S (fun x r => Nx (pc + en.2.1) L (vi x.toInt32 :: r) σ)
  | .i2b => bt_u1 S (fun x r => Nx (pc + en.2.1) L (vi x.toInt8.toInt32 :: r) σ)
  | .i2s => bt_u1 S (fun x r => Nx (pc + en.2.1) L (vi x.toInt16.toInt32 :: r) σ)
  | .dup => (match S with | v :: r => bt_if (Nat.beq (bt_cat v) 1) (Nx (pc + en.2.1) L (v :: v :: r) σ) | _ => False)
  | .dup2 => (match S with | v :: w :: r => bt_if (Nat.beq (bt_cat v) 1 && Nat.beq (bt_cat w) 1) (Nx (pc + en.2.1) L (v :: w :: v :: w :: r) σ) | _ => False)
  | .pop => (match S with | v :: r => bt_if (Nat.beq (bt_cat v) 1) (Nx (pc + en.2.1) L r σ) | _ => False)
  | .goto _ => Nx en.2.2.1.1 L S σ
  | .ifCond .eq _ => bt_u1 S (fun x r => (x = 0 → Nx en.2.2.1.1 L r σ) ∧ (¬ x = 0 → Nx (pc + 3) L r σ))
  | .ifCond .ne _ => bt_u1 S (fun x r => (¬ x = 0 → Nx en.2.2.1.1 L r σ) ∧ (x = 0 → Nx (pc + 3) L r σ))
  | .ifCond .lt _ => bt_u1 S (fun x r => (x < 0 → Nx en.2.2.1.1 L r σ) ∧ (¬ x < 0 → Nx (pc + 3) L r σ))
  | .ifCond .ge _ => bt_u1 S (fun x r => (0 ≤ x → Nx en.2.2.1.1 L r σ) ∧ (¬ 0 ≤ x → Nx (pc + 3) L r σ))
  | .ifCond .gt _ => bt_u1 S (fun x r => (0 < x → Nx en.2.2.1.1 L r σ) ∧ (¬ 0 < x → Nx (pc + 3) L r σ))
  | .ifCond .le _ => bt_u1 S (fun x r => (x ≤ 0 → Nx en.2.2.1.1 L r σ) ∧ (¬ x ≤ 0 → Nx (pc + 3) L r σ))
  | .if_icmp .eq _ => bt_u2 S (fun x y r => (x = y → Nx en.2.2.1.1 L r σ) ∧ (¬ x = y → Nx (pc + 3) L r σ))
  | .if_icmp .ne _ => bt_u2 S (fun x y r => (¬ x = y → Nx en.2.2.1.1 L r σ) ∧ (x = y → Nx (pc + 3) L r σ))
  | .if_icmp .lt _ => bt_u2 S (fun x y r => (x < y → Nx en.2.2.1.1 L r σ) ∧ (¬ x < y → Nx (pc + 3) L r σ))
  | .if_icmp .ge _ => bt_u2 S (fun x y r => (y ≤ x → Nx en.2.2.1.1 L r σ) ∧ (¬ y ≤ x → Nx (pc + 3) L r σ))
  | .if_icmp .gt _ => bt_u2 S (fun x y r => (y < x → Nx en.2.2.1.1 L r σ) ∧ (¬ y < x → Nx (pc + 3) L r σ))
  | .if_icmp .le _ => bt_u2 S (fun x y r => (x ≤ y → Nx en.2.2.1.1 L r σ) ∧ (¬ x ≤ y → Nx (pc + 3) L r σ))
  | .ifnull _ => bt_uA S (fun x r => (x = none → Nx en.2.2.1.1 L r σ) ∧ (¬ x = none → Nx (pc + 3) L r σ))
  | .ifnonnull _ => bt_uA S (fun x r => (¬ x = none → Nx en.2.2.1.1 L r σ) ∧ (x = none → Nx (pc + 3) L r σ))
  | .tableswitch _ _ _ _ => bt_u1 S (fun x r => bt_sw x (fun t => Nx t L r σ) en.2.2.1.1 en.2.2.2.2.1)
  | .lookupswitch _ _ => bt_u1 S (fun x r => bt_sw x (fun t => Nx t L r σ) en.2.2.1.1 en.2.2.2.2.1)
  | .getfield _ => bt_uO S (fun k i r => bt_tag k 0 (fun c => bt_if (Nat.ble (k + 1) 100 && Nat.beq c en.2.2.1.1 && Nat.ble (en.2.2.1.2 + 1) (bt_nf c)) (bt_ife (Nat.beq (bt_fk c en.2.2.1.2) 2) (Nx (pc + en.2.1) L (.inr (.inr (bt_RF k i en.2.2.1.2)) :: r) σ) (Nx (pc + en.2.1) L (vi (σ.1 k i en.2.2.1.2) :: r) σ))))
  | .putfield _ => (match S with
    | .inl x :: .inr (.inr (some q)) :: r => bt_tag q.1 0 (fun c => bt_if (Nat.ble (q.1 + 1) 100 && Nat.beq c en.2.2.1.1 && Nat.ble (en.2.2.1.2 + 1) (bt_nf c)) (bt_ife (Nat.beq (bt_fk c en.2.2.1.2) 0) (Nx (pc + en.2.1) L r (ui σ.1 q.1 q.2 en.2.2.1.2 x, σ.2)) (bt_if (Nat.beq (bt_fk c en.2.2.1.2) 1) ((x = 0 ∨ x = 1) ∧ Nx (pc + en.2.1) L r (ui σ.1 q.1 q.2 en.2.2.1.2 x, σ.2)))))
    | _ => False)
  | .getstatic _ => Nx (pc + en.2.1) L (vr (100 + en.2.2.1.1) 0 :: S) σ
  | .arraylength => bt_uO S (fun k _ r => bt_ife (Nat.ble 100 k) (Nx (pc + en.2.1) L (vi (Int32.ofNat (bt_sn P (k - 100))) :: r) σ) (bt_if (!Nat.beq (bt_shp k).1 0) (Nx (pc + en.2.1) L (vi (Int32.ofNat (bt_shp k).2) :: r) σ)))
  | .iaload => bt_uAr S (fun k i j r => bt_ife (Nat.ble 100 k) (vp_in j (bt_sn P (k - 100)) ∧ Nx (pc + en.2.1) L (vi (bt_sv P (k - 100) (tn j)) :: r) σ) (bt_tag k 1 (fun n => vp_in j n ∧ Nx (pc + en.2.1) L (vi (σ.1 k i (tn j)) :: r) σ)))
  | .laload => bt_uAr S (fun k i j r => bt_if (Nat.ble (k + 1) 100) (bt_tag k 2 (fun n => vp_in j n ∧ Nx (pc + en.2.1) L (vl (σ.2 k i (tn j)) :: r) σ)))
  | .baload => bt_uAr S (fun k i j r => bt_if (Nat.ble (k + 1) 100) (bt_tag k 3 (fun n => vp_in j n ∧ Nx (pc + en.2.1) L (vi (σ.1 k i (tn j)) :: r) σ)))
  | .saload => bt_uAr S (fun k i j r => bt_if (Nat.ble (k + 1) 100) (bt_tag k 4 (fun n => vp_in j n ∧ Nx (pc + en.2.1) L (vi (σ.1 k i (tn j)) :: r) σ)))
  | .aaload => bt_uAr S (fun k i j r => bt_if (Nat.ble (k + 1) 100 && (Nat.beq (bt_shp k).1 5 || Nat.beq (bt_shp k).1 6)) (vp_in j (bt_shp k).2 ∧ Nx (pc + en.2.1) L (.inr (.inr (bt_RF k i (tn j))) :: r) σ))
  | .iastore => bt_uAsI S (fun k i j v r => bt_if (Nat.ble (k + 1) 100) (bt_tag k 1 (fun n => vp_in j n ∧ Nx (pc + en.2.1) L r (ui σ.1 k i (tn j) v, σ.2))))
  | .bastore => bt_uAsI S (fun k i j v r => bt_if (Nat.ble (k + 1) 100) (bt_tag k 3 (fun n => vp_in j n ∧ Nx (pc + en.2.1) L r (ui σ.1 k i (tn j) v.toInt8.toInt32, σ.2))))
  | .sastore => bt_uAsI S (fun k i j v r => bt_if (Nat.ble (k + 1) 100) (bt_tag k 4 (fun n => vp_in j n ∧ Nx (pc + en.2.1) L r (ui σ.1 k i (tn j) v.toInt16.toInt32, σ.2))))
  | .lastore => bt_uAsL S (fun k i j v r => bt_if (Nat.ble (k + 1) 100) (bt_tag k 2 (fun n => vp_in j n ∧ Nx (pc + en.2.1) L r (σ.1, ul σ.2 k i (tn j) v))))
  | .invokevirtual _ => bt_if (Nat.ble (en.2.2.1.2 + 1) 100) (bt_call WPc en S σ (fun S' σ' => Nx (pc + 3) L S' σ'))
  | .invokestatic _ => bt_ife (Nat.beq en.2.2.1.2 101) (bt_cpy S σ (fun S' σ' => Nx (pc + 3) L S' σ')) (bt_if (Nat.beq en.2.2.1.2 100) (bt_call WPc en S σ (fun S' σ' => Nx (pc + 3) L S' σ')))
  | .ireturn => (match S with
    | [.inl x] => (match ret with
      | some .int => K (some (vi x)) σ
      | some .boolean => (x = 0 ∨ x = 1) ∧ K (some (vi x)) σ
      | _ => False)
    | _ => False)
  | .lreturn => (match S, ret with
    | [.inr (.inl x)], some .long => K (some (vl x)) σ
    | _, _ => False)
  | .areturn => (match S, ret with
    | [.inr (.inr x)], some (.object _) => K (some (.inr (.inr x))) σ
    | _, _ => False)
  | .return_ => (match S, ret with
    | [], none => K none σ
    | _, _ => False)
  | _ => False
def bt_mem : List Nat → Nat → Bool
  | [], _ => false
  | a :: r, x => Nat.beq a x || bt_mem r x
/-- the code from a place on -/
def bt_suf : List bt_E → Nat → Nat → List bt_E
  | [], _, _ => []
  | en :: r, c, t => match Nat.beq c t with
    | true => en :: r
    | false => bt_suf r (c + en.2.1) t
/-- many instructions, up to the cut points -/
def bt_ex (P : bt_PT) (WPc : bt_WT) (G : bt_NT) (K : Option av_T → st_T → Prop) (ret : Option FieldType) (T : List bt_E) (cuts : List Nat) : Nat → Nat → List bt_E → List (Option av_T) → List av_T → st_T → Prop
  | 0, pc, _, L, S, σ => G pc L S σ
  | _ + 1, _, [], _, _, _ => False
  | f + 1, pc, en :: rest, L, S, σ => bt_st P WPc K ret en pc L S σ (fun pc' L' S' σ' => bt_ife (bt_mem cuts pc') (G pc' L' S' σ') (bt_ife (Nat.beq pc' (pc + en.2.1)) (bt_ex P WPc G K ret T cuts f pc' rest L' S' σ') (bt_ex P WPc G K ret T cuts f pc' (bt_suf T 0 pc') L' S' σ')))
end
section
/-! THE ABSTRACT MACHINE IS SOUND, 1: what the tables say, contracts, locals -/
def bt_gw : List Cond := lw_tbl.filter goodWord
theorem bt_gin {w : Cond} (h : w ∈ lw_tbl) (hg : goodWord w = true) : w ∈ bt_gw := List.mem_filter.mpr ⟨h, hg⟩
theorem bt_gw_good : ∀ w ∈ bt_gw, (w.onTables && w.keeps) = true ∨ ∃ ty, w = .arrayClass ty := fun w h => good_of_word (List.mem_filter.mp h).2
/-- the links to a nest mate's private methods: they are carried with the world -/
def bt_nests : List (String × Nat × MethodName × String) := [("BellTrees$Sounds", 67, ⟨"BellTrees", "isMinute", "(I)Z"⟩, "BellTrees"), ("BellTrees$Walks", 58, ⟨"BellTrees", "isMinute", "(I)Z"⟩, "BellTrees"), ("BellTrees$Forest", 90, ⟨"BellTrees", "nextDraw", "(I)I"⟩, "BellTrees")]
def bt_NW (U : State) : Prop := ∀ q ∈ bt_nests, va_Nw (.methodLinkNest q.1 q.2.1 q.2.2.1 q.2.2.2) U
def bt_lkM (mi : bt_MI) (n : Nat) : Prop := Cond.code mi.1 mi.2.1 mi.2.2.1 mi.2.2.2 ∈ bt_gw ∧ Cond.initialized mi.1.cls ∈ bt_gw ∧ (mi.1.cls ≠ "java/lang/invoke/MethodHandle" ∧ mi.1.cls ≠ "java/lang/invoke/VarHandle" ∧ (parseMethodDescriptor mi.1.desc).map (fun d => d.parameters.length) = some n) ∧ mi.2.2.1 ≤ 21
def bt_lkV (own : String) (idx : Nat) (mi : bt_MI) (n c : Nat) : Prop := (∃ (k : Nat) (T : u_T) (N : Nat), n = k + 1 ∧ bt_cl[c]? = some (mi.1.cls, T, N) ∧ bt_lkM mi k) ∧ Cond.methodLink own idx mi.1 ∈ bt_gw ∧ Cond.instanceMethod mi.1 ∈ bt_gw ∧ Cond.selects mi.1.cls mi.1 mi.1 ∈ bt_gw
def bt_lkS (own : String) (idx : Nat) (mi : bt_MI) (n : Nat) : Prop := bt_lkM mi n ∧ (Cond.methodLink own idx mi.1 ∈ bt_gw ∨ ∃ host : String, (own, idx, mi.1, host) ∈ bt_nests) ∧ Cond.static mi.1 ∈ bt_gw
def bt_lkC (own : String) (idx : Nat) : Prop := Cond.methodLink own idx arraycopyName ∈ bt_gw ∧ Cond.native arraycopyName ∈ bt_gw ∧ Cond.static arraycopyName ∈ bt_gw ∧ Cond.initialized "java/lang/System" ∈ bt_gw
/-- a field: the class at its place, its table in order, the link -/
def bt_lkF (own : String) (idx : Nat) (c k : Nat) (put : Bool) : Prop := ∃ (C : String) (T : u_T) (N : Nat) (ty : Nat → FieldType), bt_cl[c]? = some (C, T, N) ∧ N = bt_nf c ∧ (∀ w ∈ u_ws C T N, w ∈ bt_gw) ∧ (∀ k, k < N → parseFieldDescriptor (T k).2.2.1 = some (ty k)) ∧ (∀ a, a < N → ∀ b, b < N → a ≠ b → (T a).2.1 ≠ (T b).2.1) ∧ (T k).1 = C ∧ Cond.fieldLink own idx C (T k).2.1 (T k).2.2.1 ∈ bt_gw ∧ (put = true → (T k).2.2.2 = false ∧ ((bt_fk c k = 0 ∧ ty k = .int) ∨ (bt_fk c k = 1 ∧ ty k = .boolean)))
def bt_lkG (own : String) (idx : Nat) (j : Nat) : Prop := j < 3 ∧ Cond.fieldLink own idx (bt_SC j).1 (bt_SC j).2 "[I" ∈ bt_gw
def bt_link (own : String) (en : bt_E) : Prop := match en.1 with
  | .invokevirtual idx => bt_lkV own idx en.2.2.2.2.2 en.2.2.1.1 en.2.2.1.2
  | .invokestatic idx => (en.2.2.1.2 = 100 → bt_lkS own idx en.2.2.2.2.2 en.2.2.1.1) ∧ (en.2.2.1.2 = 101 → bt_lkC own idx)
  | .getfield idx => bt_lkF own idx en.2.2.1.1 en.2.2.1.2 false
  | .putfield idx => bt_lkF own idx en.2.2.1.1 en.2.2.1.2 true
  | .getstatic idx => bt_lkG own idx en.2.2.1.1
  | .ldc idx => Cond.constant own idx en.2.2.2.1.1 ∈ bt_gw
  | .ldc_w idx => Cond.constant own idx en.2.2.2.1.1 ∈ bt_gw
  | .ldc2_w idx => Cond.constantLong own idx en.2.2.2.1.2 ∈ bt_gw
  | _ => True
/-- what a program checks of an entry, its decoding apart -/
def bt_ck (maxL pc : Nat) (en : bt_E) : Bool := match en.1 with
  | .iconst n => decide (Int32.ofInt n = en.2.2.2.1.1) && decide (en.2.1 = 1)
  | .bipush n => decide ((Int8.ofInt n).toInt32 = en.2.2.2.1.1) && decide (en.2.1 = 2)
  | .sipush n => decide ((Int16.ofInt n).toInt32 = en.2.2.2.1.1) && decide (en.2.1 = 3)
  | .lconst n => decide (Int64.ofNat (n : Nat) = en.2.2.2.1.2) && decide (en.2.1 = 1)
  | .ldc _ => decide (en.2.1 = 2)
  | .iload _ | .lload _ | .aload _ => decide (en.2.1 = 2)
  | .ldc_w _ | .ldc2_w _ | .getfield _ | .putfield _ | .getstatic _ | .invokevirtual _ | .invokestatic _ => decide (en.2.1 = 3)
  | .istore i | .astore i => decide (i < maxL) && decide (en.2.1 = 2)
  | .istore_n i | .astore_n i => decide (i.1 < maxL) && decide (en.2.1 = 1)
  | .lstore i => decide (i + 1 < maxL) && decide (en.2.1 = 2)
  | .lstore_n i => decide (i.1 + 1 < maxL) && decide (en.2.1 = 1)
  | .iinc i n => decide (i < maxL) && decide (Int32.ofInt n = en.2.2.2.1.1) && decide (en.2.1 = 3)
  | .goto off => decide ((pc : Int) + off = (en.2.2.1.1 : Int)) && decide (en.2.1 = 3)
  | .ifCond _ off => decide ((pc : Int) + off = (en.2.2.1.1 : Int)) && decide (en.2.1 = 3)
  | .if_icmp _ off => decide ((pc : Int) + off = (en.2.2.1.1 : Int)) && decide (en.2.1 = 3)
  | .ifnull off => decide ((pc : Int) + off = (en.2.2.1.1 : Int)) && decide (en.2.1 = 3)
  | .ifnonnull off => decide ((pc : Int) + off = (en.2.2.1.1 : Int)) && decide (en.2.1 = 3)
  | .tableswitch d lo hi offs => decide ((pc : Int) + d = (en.2.2.1.1 : Int)) && decide (-2147483648 ≤ lo) && decide (hi < 2147483648) && decide (lo ≤ hi) && en.2.2.2.2.1.all (fun q => decide (lo ≤ q.1.toInt) && decide (q.1.toInt ≤ hi) && decide ((offs[(q.1.toInt - lo).toNat]?).map (fun o => (pc : Int) + o) = some (q.2 : Int))) && (List.range ((hi - lo).toNat + 1)).all (fun j => en.2.2.2.2.1.any (fun q => decide (q.1.toInt = lo + (j : Int))))
  | .lookupswitch d ps => decide ((pc : Int) + d = (en.2.2.1.1 : Int)) && (ps.toList.zip (ps.toList.drop 1)).all (fun (a, next) => a.1 < next.1) && decide (ps.toList.length = en.2.2.2.2.1.length) && (ps.toList.zip en.2.2.2.2.1).all (fun z => decide (z.2.1.toInt = z.1.1) && decide ((pc : Int) + z.1.2 = (z.2.2 : Int)))
  | _ => decide (en.2.1 = 1)
def bt_dec (bytes : ByteArray) (maxL : Nat) : Nat → List bt_E → Bool
  | _, [] => true
  | pc, en :: r => decide (decode bytes pc = .ok (en.1, en.2.1)) && bt_ck maxL pc en && bt_dec bytes maxL (pc + en.2.1) r
def bt_links (own : String) : List bt_E → Prop
  | [] => True
  | en :: r => bt_link own en ∧ bt_links own r
def bt_Cx (P : bt_PT) (mi : bt_MI) (p : Program) (s : State) (m : MethodId) (args : Array Value) (meth : Method) (c : Code) : Prop :=
  p.tables.exec = Jvm.exec ∧ c.code = mi.2.1 ∧ c.maxLocals = mi.2.2.1 ∧ meth.sig.returnType = mi.2.2.2 ∧ meth.locks = false ∧ s.vm.findClass mi.1.cls = some m.cls ∧ (∀ w ∈ bt_gw, w.before args s = true) ∧ va_K (bt_D P) bt_cl (bt_tys P) s ∧ bt_SF P s s.heap ∧ bt_okP P ∧ bt_NW s
def bt_lk (P : bt_PT) (L : List (Option av_T)) (ls : Array Slot) (nL : Nat) : Prop := ls.size = nL ∧ lv_wf ls ∧ ∀ i v, bt_nth none L i = some v → ls[i]? = some (.val (bt_va P v))
def bt_Dy (P : bt_PT) (nL : Nat) (s : State) (H : Heap) (locs : List Loc) (ls : Array Slot) (L : List (Option av_T)) (S : List av_T) (σ : st_T) : Prop :=
  bt_lk P L ls nL ∧ (∀ v ∈ S, bt_okv v) ∧ (∀ i v, bt_nth none L i = some v → bt_okv v) ∧ va_P (bt_D P) bt_cl (bt_wl P σ) H ∧ va_S (bt_A P) s.heap H locs
def bt_isret (bytes : ByteArray) (pc : Nat) : Option av_T → Prop
  | none => decode bytes pc = .ok (.return_, 1)
  | some (.inl _) => decode bytes pc = .ok (.ireturn, 1)
  | some (.inr (.inl _)) => decode bytes pc = .ok (.lreturn, 1)
  | some (.inr (.inr _)) => decode bytes pc = .ok (.areturn, 1)
def bt_rty (ret : Option FieldType) : Option av_T → Prop
  | none => ret = none
  | some (.inl x) => ret = some .int ∨ (ret = some .boolean ∧ (x = 0 ∨ x = 1))
  | some (.inr (.inl _)) => ret = some .long
  | some (.inr (.inr _)) => ∃ n, ret = some (.object n)
/-- how the method's end is taken -/
def bt_Rt (P : bt_PT) (mi : bt_MI) (K : Option av_T → st_T → Prop) (p : Program) (e : Env) (R : Room) (s : State) (m : MethodId) (args : Array Value) (below : List Frame) (meth : Method) (c : Code) (cells slots : Nat) (Q : State → Prop) : Prop :=
  ∀ (r : Option av_T) (σ : st_T) (H : Heap) (locs : List Loc) (pc : Nat) (ls : Array Slot), K r σ → (∀ v, r = some v → bt_okv v) → va_P (bt_D P) bt_cl (bt_wl P σ) H → va_S (bt_A P) s.heap H locs → bt_isret mi.2.1 pc r → bt_rty mi.2.2.2 r →
    W p (bt_l P) e R s m args below meth c H locs cells slots Q (F0 m pc ls (r.toList.map (bt_va P)))
def bt_Cs (P : bt_PT) (d : Nat) (mi : bt_MI) (K : Option av_T → st_T → Prop) (p : Program) (e : Env) (R : Room) (s : State) (m : MethodId) (args : Array Value) (below : List Frame) (meth : Method) (c : Code) (cells slots : Nat) (Q : State → Prop) : Prop :=
  bt_Cx P mi p s m args meth c ∧ d + 1 ≤ R.frames ∧ 40 * (d + 1) ≤ R.locals ∧ (cells ≤ R.cells ∧ slots ≤ R.slots) ∧ bt_Rt P mi K p e R s m args below meth c cells slots Q
/-- from here the method comes to its end, with K -/
def bt_Go (P : bt_PT) (d : Nat) (mi : bt_MI) (K : Option av_T → st_T → Prop) : bt_NT := fun pc L S σ =>
  ∀ (p : Program) (e : Env) (R : Room) (s : State) (m : MethodId) (args : Array Value) (below : List Frame) (meth : Method) (c : Code) (cells slots : Nat) (Q : State → Prop), bt_Cs P d mi K p e R s m args below meth c cells slots Q →
  ∀ (H : Heap) (locs : List Loc) (ls : Array Slot), bt_Dy P mi.2.2.1 s H locs ls L S σ → W p (bt_l P) e R s m args below meth c H locs cells slots Q (F0 m pc ls (S.map (bt_va P)))
def bt_rm (d : Nat) : Room := { frames := d, cells := 0, slots := 0, locals := 40 * d }
def bt_Pc (P : bt_PT) (as : List av_T) (σ : st_T) : Array Value → State → Prop := fun v U => v = (as.map (bt_va P)).toArray ∧ (∀ a ∈ as, bt_okv a) ∧ va_P (bt_D P) bt_cl (bt_wl P σ) U.heap ∧ va_K (bt_D P) bt_cl (bt_tys P) U ∧ bt_SF P U U.heap ∧ bt_okP P ∧ bt_NW U
def bt_Qc (P : bt_PT) (K : Option av_T → st_T → Prop) : Array Value → State → Outcome → State → Prop := fun _ st o t => (∃ (r : Option av_T) (σ : st_T), o = .returned (r.map (bt_va P)) ∧ K r σ ∧ (∀ v, r = some v → bt_okv v) ∧ va_P (bt_D P) bt_cl (bt_wl P σ) t.heap) ∧ va_F (bt_A P) st t
/-- a method's contract as a predicate transformer -/
def bt_WP (P : bt_PT) (d : Nat) : bt_WT := fun mi as σ K => Met (bt_l P) mi.1 (Cond.code mi.1 mi.2.1 mi.2.2.1 mi.2.2.2 :: bt_gw) (bt_rm d) (bt_Pc P as σ) (bt_Qc P K) 0 0 (bt_A P)
-- ---------- locals
theorem bt_set_ne : ∀ (L : List (Option av_T)) (i j : Nat) (v : Option av_T), j ≠ i → bt_nth none (bt_set L i v) j = bt_nth none L j
  | [], i, j, v, _ => by cases i <;> rfl
  | a :: r, 0, j, v, h => by
    cases j with
    | zero => exact absurd rfl h
    | succ j => rfl
  | a :: r, i + 1, j, v, h => by
    cases j with
    | zero => rfl
    | succ j => exact bt_set_ne r i j v (fun e => h (by rw [e]))
theorem bt_set_eq : ∀ (L : List (Option av_T)) (i : Nat) (v : Option av_T) (w : av_T), bt_nth none (bt_set L i v) i = some w → v = some w
  | [], i, v, w, h => by cases i <;> cases h
  | a :: r, 0, v, w, h => h
  | a :: r, i + 1, v, w, h => bt_set_eq r i v w h
def bt_enum (P : bt_PT) : Nat → List (Option av_T) → List (Nat × Value)
  | _, [] => []
  | k, none :: r => bt_enum P (k + 1) r
  | k, some v :: r => (k, bt_va P v) :: bt_enum P (k + 1) r
theorem bt_enum_mem (P : bt_PT) : ∀ (L : List (Option av_T)) (k : Nat) (q : Nat × Value), q ∈ bt_enum P k L → ∃ (j : Nat) (v : av_T), q = (k + j, bt_va P v) ∧ bt_nth none L j = some v
  | [], k, q, h => by cases h
  | none :: r, k, q, h => by
    obtain ⟨j, v, h1, h2⟩ := bt_enum_mem P r (k + 1) q h
    exact ⟨j + 1, v, by rw [h1]; congr 1; omega, h2⟩
  | some w :: r, k, q, h => by
    rcases List.mem_cons.mp h with h | h
    · exact ⟨0, w, h, rfl⟩
    · obtain ⟨j, v, h1, h2⟩ := bt_enum_mem P r (k + 1) q h
      exact ⟨j + 1, v, by rw [h1]; congr 1; omega, h2⟩
theorem bt_mem_enum (P : bt_PT) : ∀ (L : List (Option av_T)) (k j : Nat) (v : av_T), bt_nth none L j = some v → (k + j, bt_va P v) ∈ bt_enum P k L
  | [], k, j, v, h => by cases j <;> cases h
  | none :: r, k, j, v, h => by
    cases j with
    | zero => cases h
    | succ j =>
      have h1 := bt_mem_enum P r (k + 1) j v h
      rw [show k + (j + 1) = k + 1 + j by omega]; exact h1
  | some w :: r, k, j, v, h => by
    cases j with
    | zero => cases h; exact List.mem_cons_self
    | succ j =>
      have h1 := bt_mem_enum P r (k + 1) j v h
      rw [show k + (j + 1) = k + 1 + j by omega]; exact List.mem_cons_of_mem _ h1
theorem bt_lk_has {P : bt_PT} {L : List (Option av_T)} {ls : Array Slot} {nL : Nat} (h : bt_lk P L ls nL) : lv_has ls nL (bt_enum P 0 L) := by
  refine ⟨h.1, h.2.1, fun q hq => ?_⟩
  obtain ⟨j, v, rfl, h2⟩ := bt_enum_mem P L 0 q hq
  rw [Nat.zero_add]; exact h.2.2 j v h2
theorem bt_cat_va (P : bt_PT) (v : av_T) : (bt_va P v).category = bt_cat v := by
  rcases v with x | x | (_ | q) <;> rfl
theorem bt_isl_cat {v : av_T} (h : bt_isl (some v) = false) : bt_cat v = 1 := by
  rcases v with x | x | (_ | q)
  · rfl
  · cases h
  · rfl
  · rfl
theorem bt_cat_isl {v : av_T} (h : bt_cat v = 2) : bt_isl (some v) = true := by
  rcases v with x | x | (_ | q)
  · cases h
  · rfl
  · cases h
  · cases h
theorem bt_lk_store1 {P : bt_PT} {L : List (Option av_T)} {ls' : Array Slot} {nL i : Nat} {v : av_T} (hc : bt_cut L i = false)
    (h : lv_has ls' nL ((i, bt_va P v) :: (bt_enum P 0 L).filter (fun q => !(q.1 == i) && !(q.1 + 1 == i && q.2.category == 2)))) : bt_lk P (bt_set L i (some v)) ls' nL := by
  refine ⟨h.1, h.2.1, fun j w hj => ?_⟩
  by_cases e : j = i
  · subst e
    cases bt_set_eq L j (some v) w hj
    exact h.2.2 _ List.mem_cons_self
  · rw [bt_set_ne L i j _ e] at hj
    refine h.2.2 (j, bt_va P w) (List.mem_cons_of_mem _ (List.mem_filter.mpr ⟨by simpa using bt_mem_enum P L 0 j w hj, ?_⟩))
    simp only [Bool.and_eq_true, Bool.not_eq_true', beq_eq_false_iff_ne, ne_eq, Bool.and_eq_false_iff]
    refine ⟨e, ?_⟩
    by_cases e2 : j + 1 = i
    · right
      subst e2
      have hc' : bt_isl (bt_nth none L j) = false := hc
      rw [hj] at hc'
      rw [bt_cat_va, bt_isl_cat hc']
      decide
    · left; exact e2
theorem bt_lk_store2 {P : bt_PT} {L : List (Option av_T)} {ls' : Array Slot} {nL i : Nat} {v : av_T} (hc : bt_cut L i = false)
    (h : lv_has ls' nL ((i, bt_va P v) :: (bt_enum P 0 L).filter (fun q => !(q.1 == i) && (!(q.1 == i + 1) && !(q.1 + 1 == i && q.2.category == 2))))) : bt_lk P (bt_set (bt_set L i (some v)) (i + 1) none) ls' nL := by
  refine ⟨h.1, h.2.1, fun j w hj => ?_⟩
  by_cases e1 : j = i + 1
  · subst e1
    cases bt_set_eq _ (i + 1) none w hj
  · rw [bt_set_ne _ (i + 1) j _ e1] at hj
    by_cases e : j = i
    · subst e
      cases bt_set_eq L j (some v) w hj
      exact h.2.2 _ List.mem_cons_self
    · rw [bt_set_ne L i j _ e] at hj
      refine h.2.2 (j, bt_va P w) (List.mem_cons_of_mem _ (List.mem_filter.mpr ⟨by simpa using bt_mem_enum P L 0 j w hj, ?_⟩))
      simp only [Bool.and_eq_true, Bool.not_eq_true', beq_eq_false_iff_ne, ne_eq, Bool.and_eq_false_iff]
      refine ⟨e, e1, ?_⟩
      by_cases e2 : j + 1 = i
      · right
        subst e2
        have hc' : bt_isl (bt_nth none L j) = false := hc
        rw [hj] at hc'
        rw [bt_cat_va, bt_isl_cat hc']
        decide
      · left; exact e2
theorem bt_okL_set {L : List (Option av_T)} {i : Nat} {v : av_T} (h : ∀ i v, bt_nth none L i = some v → bt_okv v) (hv : bt_okv v) : ∀ j w, bt_nth none (bt_set L i (some v)) j = some w → bt_okv w := by
  intro j w hj
  by_cases e : j = i
  · subst e
    cases bt_set_eq L j (some v) w hj
    exact hv
  · rw [bt_set_ne L i j _ e] at hj
    exact h j w hj
theorem bt_okL_none {L : List (Option av_T)} {i : Nat} (h : ∀ i v, bt_nth none L i = some v → bt_okv v) : ∀ j w, bt_nth none (bt_set L i none) j = some w → bt_okv w := by
  intro j w hj
  by_cases e : j = i
  · subst e
    cases bt_set_eq L j none w hj
  · rw [bt_set_ne L i j _ e] at hj
    exact h j w hj
end
section
/-! THE ABSTRACT MACHINE IS SOUND, 2: stack, arithmetic, branches -/
theorem bt_RF_ok : ∀ k, k < 70 → ∀ i, i < bt_cnt k → ∀ j, j < (if (bt_shp k).1 = 0 then bt_nf (bt_shp k).2 else (bt_shp k).2) → (match bt_RF k i j with | none => true | some q => Nat.blt q.2 (bt_cnt q.1)) = true := by decide +kernel
theorem bt_pos_inv : ∀ n, n < 128 → (match bt_NMS[n]? with | none => true | some q => Nat.beq (bt_bas q.1 + q.2) n) = true := by decide +kernel
theorem bt_NMS_len : bt_NMS.length = 128 := by decide +kernel
theorem bt_if_inv {b : Bool} {p : Prop} (h : bt_if b p) : b = true ∧ p := by
  cases b with
  | true => exact ⟨rfl, h⟩
  | false => exact h.elim
theorem bt_ife_inv {b : Bool} {p q : Prop} (h : bt_ife b p q) : (b = true ∧ p) ∨ (b = false ∧ q) := by
  cases b with
  | true => exact Or.inl ⟨rfl, h⟩
  | false => exact Or.inr ⟨rfl, h⟩
theorem bt_u1_inv {S : List av_T} {k : Int32 → List av_T → Prop} (h : bt_u1 S k) : ∃ x r, S = vi x :: r ∧ k x r := by
  unfold bt_u1 at h
  split at h
  · exact ⟨_, _, rfl, h⟩
  · exact h.elim
theorem bt_uL_inv {S : List av_T} {k : Int64 → List av_T → Prop} (h : bt_uL S k) : ∃ x r, S = vl x :: r ∧ k x r := by
  unfold bt_uL at h
  split at h
  · exact ⟨_, _, rfl, h⟩
  · exact h.elim
theorem bt_uA_inv {S : List av_T} {k : Option (Nat × Nat) → List av_T → Prop} (h : bt_uA S k) : ∃ x r, S = .inr (.inr x) :: r ∧ k x r := by
  unfold bt_uA at h
  split at h
  · exact ⟨_, _, rfl, h⟩
  · exact h.elim
theorem bt_u2_inv {S : List av_T} {k : Int32 → Int32 → List av_T → Prop} (h : bt_u2 S k) : ∃ x y r, S = vi y :: vi x :: r ∧ k x y r := by
  unfold bt_u2 at h
  split at h
  · exact ⟨_, _, _, rfl, h⟩
  · exact h.elim
theorem bt_uLL_inv {S : List av_T} {k : Int64 → Int64 → List av_T → Prop} (h : bt_uLL S k) : ∃ x y r, S = vl y :: vl x :: r ∧ k x y r := by
  unfold bt_uLL at h
  split at h
  · exact ⟨_, _, _, rfl, h⟩
  · exact h.elim
theorem bt_uLI_inv {S : List av_T} {k : Int64 → Int32 → List av_T → Prop} (h : bt_uLI S k) : ∃ x y r, S = vi y :: vl x :: r ∧ k x y r := by
  unfold bt_uLI at h
  split at h
  · exact ⟨_, _, _, rfl, h⟩
  · exact h.elim
theorem bt_uO_inv {S : List av_T} {k : Nat → Nat → List av_T → Prop} (h : bt_uO S k) : ∃ a b r, S = vr a b :: r ∧ k a b r := by
  unfold bt_uO at h
  split at h
  · exact ⟨_, _, _, rfl, h⟩
  · exact h.elim
theorem bt_uAr_inv {S : List av_T} {k : Nat → Nat → Int32 → List av_T → Prop} (h : bt_uAr S k) : ∃ a b i r, S = vi i :: vr a b :: r ∧ k a b i r := by
  unfold bt_uAr at h
  split at h
  · exact ⟨_, _, _, _, rfl, h⟩
  · exact h.elim
theorem bt_uAsI_inv {S : List av_T} {k : Nat → Nat → Int32 → Int32 → List av_T → Prop} (h : bt_uAsI S k) : ∃ a b i v r, S = vi v :: vi i :: vr a b :: r ∧ k a b i v r := by
  unfold bt_uAsI at h
  split at h
  · exact ⟨_, _, _, _, _, rfl, h⟩
  · exact h.elim
theorem bt_uAsL_inv {S : List av_T} {k : Nat → Nat → Int32 → Int64 → List av_T → Prop} (h : bt_uAsL S k) : ∃ a b i v r, S = vl v :: vi i :: vr a b :: r ∧ k a b i v r := by
  unfold bt_uAsL at h
  split at h
  · exact ⟨_, _, _, _, _, rfl, h⟩
  · exact h.elim
theorem bt_li_inv {L : List (Option av_T)} {i : Nat} {k : Int32 → Prop} (h : bt_li L i k) : ∃ x, bt_nth none L i = some (vi x) ∧ k x := by
  unfold bt_li at h
  split at h
  · next e => exact ⟨_, e, h⟩
  · exact h.elim
theorem bt_ll_inv {L : List (Option av_T)} {i : Nat} {k : Int64 → Prop} (h : bt_ll L i k) : ∃ x, bt_nth none L i = some (vl x) ∧ k x := by
  unfold bt_ll at h
  split at h
  · next e => exact ⟨_, e, h⟩
  · exact h.elim
theorem bt_la_inv {L : List (Option av_T)} {i : Nat} {k : Option (Nat × Nat) → Prop} (h : bt_la L i k) : ∃ x, bt_nth none L i = some (.inr (.inr x)) ∧ k x := by
  unfold bt_la at h
  split at h
  · next e => exact ⟨_, e, h⟩
  · exact h.elim
theorem bt_not_inv {b : Bool} (h : (!b) = true) : b = false := by cases b <;> first | rfl | cases h
theorem bt_si_inv {L : List (Option av_T)} {i : Nat} {S : List av_T} {k : List (Option av_T) → List av_T → Prop} (h : bt_si L i S k) : ∃ x r, S = vi x :: r ∧ bt_cut L i = false ∧ k (bt_set L i (some (vi x))) r := by
  unfold bt_si at h
  split at h
  · obtain ⟨h1, h2⟩ := bt_if_inv h
    exact ⟨_, _, rfl, bt_not_inv h1, h2⟩
  · exact h.elim
theorem bt_sa_inv {L : List (Option av_T)} {i : Nat} {S : List av_T} {k : List (Option av_T) → List av_T → Prop} (h : bt_sa L i S k) : ∃ x r, S = .inr (.inr x) :: r ∧ bt_cut L i = false ∧ k (bt_set L i (some (.inr (.inr x)))) r := by
  unfold bt_sa at h
  split at h
  · obtain ⟨h1, h2⟩ := bt_if_inv h
    exact ⟨_, _, rfl, bt_not_inv h1, h2⟩
  · exact h.elim
theorem bt_sl_inv {L : List (Option av_T)} {i : Nat} {S : List av_T} {k : List (Option av_T) → List av_T → Prop} (h : bt_sl L i S k) : ∃ x r, S = vl x :: r ∧ bt_cut L i = false ∧ k (bt_set (bt_set L i (some (vl x))) (i + 1) none) r := by
  unfold bt_sl at h
  split at h
  · obtain ⟨h1, h2⟩ := bt_if_inv h
    exact ⟨_, _, rfl, bt_not_inv h1, h2⟩
  · exact h.elim
theorem bt_tag_inv {k t : Nat} {f : Nat → Prop} (h : bt_tag k t f) : (bt_shp k).1 = t ∧ f (bt_shp k).2 := by
  obtain ⟨h1, h2⟩ := bt_if_inv h
  exact ⟨Nat.eq_of_beq_eq_true h1, h2⟩
theorem bt_args_inv : ∀ (n : Nat) (S acc : List av_T) (k : List av_T → List av_T → Prop), bt_args n S acc k → ∃ top r, S = top ++ r ∧ top.length = n ∧ k (top.reverse ++ acc) r
  | 0, S, acc, k, h => ⟨[], S, rfl, rfl, h⟩
  | n + 1, [], acc, k, h => h.elim
  | n + 1, v :: S, acc, k, h => by
    obtain ⟨top, r, h1, h2, h3⟩ := bt_args_inv n S (v :: acc) k h
    refine ⟨v :: top, r, by rw [h1]; rfl, by rw [List.length_cons, h2], ?_⟩
    rw [List.reverse_cons, List.append_assoc]
    exact h3
theorem bt_sw_inv (x : Int32) (Nx : Nat → Prop) (d : Nat) : ∀ (l : List (Int32 × Nat)), bt_sw x Nx d l → (∃ q ∈ l, q.1 = x ∧ (∀ q' ∈ l, q'.1 = x → True) ∧ Nx q.2 ∧ l.find? (fun q => decide (q.1 = x)) = some q) ∨ ((∀ q ∈ l, ¬ q.1 = x) ∧ Nx d)
  | [], h => Or.inr ⟨(fun _ h => by cases h), h⟩
  | q :: r, h => by
    by_cases e : x = q.1
    · exact Or.inl ⟨q, List.mem_cons_self, e.symm, fun _ _ _ => trivial, h.1 e, by rw [List.find?_cons_of_pos (by simp [e])]⟩
    · rcases bt_sw_inv x Nx d r (h.2 e) with ⟨q', h1, h2, -, h3, h4⟩ | ⟨h1, h2⟩
      · exact Or.inl ⟨q', List.mem_cons_of_mem _ h1, h2, fun _ _ _ => trivial, h3, by rw [List.find?_cons_of_neg (by simpa using fun z : q.1 = x => e z.symm)]; exact h4⟩
      · refine Or.inr ⟨fun q' hq => ?_, h2⟩
        rcases List.mem_cons.mp hq with rfl | hq
        · exact fun z => e z.symm
        · exact h1 q' hq
theorem bt_Dy_s {P : bt_PT} {nL : Nat} {s : State} {H : Heap} {locs : List Loc} {ls : Array Slot} {L : List (Option av_T)} {S S' : List av_T} {σ : st_T} (h : bt_Dy P nL s H locs ls L S σ) (hs : ∀ v ∈ S', bt_okv v) : bt_Dy P nL s H locs ls L S' σ := ⟨h.1, hs, h.2.2⟩
theorem bt_ok1 {v : av_T} {r : List av_T} (hv : bt_okv v) (h : ∀ v ∈ r, bt_okv v) : ∀ w ∈ v :: r, bt_okv w := List.forall_mem_cons.mpr ⟨hv, h⟩
theorem bt_oki (x : Int32) : bt_okv (vi x) := trivial
theorem bt_okl (x : Int64) : bt_okv (vl x) := trivial
theorem bt_oka {x : Option (Nat × Nat)} (h : ∀ q, x = some q → bt_ok q) : bt_okv (.inr (.inr x)) := by
  cases x with
  | none => trivial
  | some q => exact h q rfl
section BTS
variable {P : bt_PT} {d : Nat} {mi : bt_MI} {K : Option av_T → st_T → Prop} {pc : Nat} {L : List (Option av_T)} {r : List av_T} {σ : st_T}
theorem bt_s_iconst {n : Int} {v : Int32} (hd : decode mi.2.1 pc = .ok (.iconst n, 1)) (hv : Int32.ofInt n = v) (k : bt_Go P d mi K (pc + 1) L (vi v :: r) σ) : bt_Go P d mi K pc L r σ := by
  intro p e R s m args below meth c cells slots Q hC H locs ls hD
  exact lv_iconst hC.1.1 hC.1.2.1 hd hv (k p e R s m args below meth c cells slots Q hC H locs ls (bt_Dy_s hD (bt_ok1 (bt_oki _) hD.2.1)))
theorem bt_s_bipush {n : Int} {v : Int32} (hd : decode mi.2.1 pc = .ok (.bipush n, 2)) (hv : (Int8.ofInt n).toInt32 = v) (k : bt_Go P d mi K (pc + 2) L (vi v :: r) σ) : bt_Go P d mi K pc L r σ := by
  intro p e R s m args below meth c cells slots Q hC H locs ls hD
  exact lv_bipush hC.1.1 hC.1.2.1 hd hv (k p e R s m args below meth c cells slots Q hC H locs ls (bt_Dy_s hD (bt_ok1 (bt_oki _) hD.2.1)))
theorem bt_s_sipush {n : Int} {v : Int32} (hd : decode mi.2.1 pc = .ok (.sipush n, 3)) (hv : (Int16.ofInt n).toInt32 = v) (k : bt_Go P d mi K (pc + 3) L (vi v :: r) σ) : bt_Go P d mi K pc L r σ := by
  intro p e R s m args below meth c cells slots Q hC H locs ls hD
  exact lv_sipush hC.1.1 hC.1.2.1 hd hv (k p e R s m args below meth c cells slots Q hC H locs ls (bt_Dy_s hD (bt_ok1 (bt_oki _) hD.2.1)))
theorem bt_s_ldc {idx : Nat} {v : Int32} (hd : decode mi.2.1 pc = .ok (.ldc idx, 2)) (hl : Cond.constant mi.1.cls idx v ∈ bt_gw) (k : bt_Go P d mi K (pc + 2) L (vi v :: r) σ) : bt_Go P d mi K pc L r σ := by
  intro p e R s m args below meth c cells slots Q hC H locs ls hD
  obtain ⟨hx, hb, hml, hr, hlo, hown, hts, -⟩ := id hC.1
  exact lv_ldc hx hb hown (hts _ hl) hd (k p e R s m args below meth c cells slots Q hC H locs ls (bt_Dy_s hD (bt_ok1 (bt_oki _) hD.2.1)))
theorem bt_s_ldcw {idx : Nat} {v : Int32} (hd : decode mi.2.1 pc = .ok (.ldc_w idx, 3)) (hl : Cond.constant mi.1.cls idx v ∈ bt_gw) (k : bt_Go P d mi K (pc + 3) L (vi v :: r) σ) : bt_Go P d mi K pc L r σ := by
  intro p e R s m args below meth c cells slots Q hC H locs ls hD
  obtain ⟨hx, hb, hml, hr, hlo, hown, hts, -⟩ := id hC.1
  exact lv_ldcw hx hb hown (hts _ hl) hd (k p e R s m args below meth c cells slots Q hC H locs ls (bt_Dy_s hD (bt_ok1 (bt_oki _) hD.2.1)))
theorem bt_s_ldc2 {idx : Nat} {v : Int64} (hd : decode mi.2.1 pc = .ok (.ldc2_w idx, 3)) (hl : Cond.constantLong mi.1.cls idx v ∈ bt_gw) (k : bt_Go P d mi K (pc + 3) L (vl v :: r) σ) : bt_Go P d mi K pc L r σ := by
  intro p e R s m args below meth c cells slots Q hC H locs ls hD
  obtain ⟨hx, hb, hml, hr, hlo, hown, hts, -⟩ := id hC.1
  exact lv_ldc2 hx hb hown (hts _ hl) hd (k p e R s m args below meth c cells slots Q hC H locs ls (bt_Dy_s hD (bt_ok1 (bt_okl _) hD.2.1)))
theorem bt_s_lconst {n : Fin 2} {v : Int64} (hd : decode mi.2.1 pc = .ok (.lconst n, 1)) (hv : Int64.ofNat (n : Nat) = v) (k : bt_Go P d mi K (pc + 1) L (vl v :: r) σ) : bt_Go P d mi K pc L r σ := by
  intro p e R s m args below meth c cells slots Q hC H locs ls hD
  exact lv_lconst hC.1.1 hC.1.2.1 hd hv (k p e R s m args below meth c cells slots Q hC H locs ls (bt_Dy_s hD (bt_ok1 (bt_okl _) hD.2.1)))
theorem bt_s_null (hd : decode mi.2.1 pc = .ok (.aconst_null, 1)) (k : bt_Go P d mi K (pc + 1) L (vn :: r) σ) : bt_Go P d mi K pc L r σ := by
  intro p e R s m args below meth c cells slots Q hC H locs ls hD
  exact lv_null hC.1.1 hC.1.2.1 hd (k p e R s m args below meth c cells slots Q hC H locs ls (bt_Dy_s hD (bt_ok1 trivial hD.2.1)))
theorem bt_s_iload {i : Nat} {x : Int32} (hd : decode mi.2.1 pc = .ok (.iload i, 2)) (hi : bt_nth none L i = some (vi x)) (k : bt_Go P d mi K (pc + 2) L (vi x :: r) σ) : bt_Go P d mi K pc L r σ := by
  intro p e R s m args below meth c cells slots Q hC H locs ls hD
  exact lv_iload hC.1.1 hC.1.2.1 hd (hD.1.2.2 i _ hi) (k p e R s m args below meth c cells slots Q hC H locs ls (bt_Dy_s hD (bt_ok1 (bt_oki _) hD.2.1)))
theorem bt_s_iload_n {i : Fin 4} {x : Int32} (hd : decode mi.2.1 pc = .ok (.iload_n i, 1)) (hi : bt_nth none L i.1 = some (vi x)) (k : bt_Go P d mi K (pc + 1) L (vi x :: r) σ) : bt_Go P d mi K pc L r σ := by
  intro p e R s m args below meth c cells slots Q hC H locs ls hD
  exact lv_iload_n hC.1.1 hC.1.2.1 hd rfl (hD.1.2.2 i.1 _ hi) (k p e R s m args below meth c cells slots Q hC H locs ls (bt_Dy_s hD (bt_ok1 (bt_oki _) hD.2.1)))
theorem bt_s_lload {i : Nat} {x : Int64} (hd : decode mi.2.1 pc = .ok (.lload i, 2)) (hi : bt_nth none L i = some (vl x)) (k : bt_Go P d mi K (pc + 2) L (vl x :: r) σ) : bt_Go P d mi K pc L r σ := by
  intro p e R s m args below meth c cells slots Q hC H locs ls hD
  exact lv_lload hC.1.1 hC.1.2.1 hd (hD.1.2.2 i _ hi) (k p e R s m args below meth c cells slots Q hC H locs ls (bt_Dy_s hD (bt_ok1 (bt_okl _) hD.2.1)))
theorem bt_s_lload_n {i : Fin 4} {x : Int64} (hd : decode mi.2.1 pc = .ok (.lload_n i, 1)) (hi : bt_nth none L i.1 = some (vl x)) (k : bt_Go P d mi K (pc + 1) L (vl x :: r) σ) : bt_Go P d mi K pc L r σ := by
  intro p e R s m args below meth c cells slots Q hC H locs ls hD
  exact lv_lload_n hC.1.1 hC.1.2.1 hd rfl (hD.1.2.2 i.1 _ hi) (k p e R s m args below meth c cells slots Q hC H locs ls (bt_Dy_s hD (bt_ok1 (bt_okl _) hD.2.1)))
theorem bt_s_aload {i : Nat} {x : Option (Nat × Nat)} (hd : decode mi.2.1 pc = .ok (.aload i, 2)) (hi : bt_nth none L i = some (.inr (.inr x))) (k : bt_Go P d mi K (pc + 2) L (.inr (.inr x) :: r) σ) : bt_Go P d mi K pc L r σ := by
  intro p e R s m args below meth c cells slots Q hC H locs ls hD
  have hk := k p e R s m args below meth c cells slots Q hC H locs ls (bt_Dy_s hD (bt_ok1 (hD.2.2.1 i _ hi) hD.2.1))
  cases x with
  | none => exact lv_aloadN hC.1.1 hC.1.2.1 hd (hD.1.2.2 i _ hi) hk
  | some q => exact lv_aload hC.1.1 hC.1.2.1 hd (hD.1.2.2 i _ hi) hk
theorem bt_s_aload_n {i : Fin 4} {x : Option (Nat × Nat)} (hd : decode mi.2.1 pc = .ok (.aload_n i, 1)) (hi : bt_nth none L i.1 = some (.inr (.inr x))) (k : bt_Go P d mi K (pc + 1) L (.inr (.inr x) :: r) σ) : bt_Go P d mi K pc L r σ := by
  intro p e R s m args below meth c cells slots Q hC H locs ls hD
  have hk := k p e R s m args below meth c cells slots Q hC H locs ls (bt_Dy_s hD (bt_ok1 (hD.2.2.1 i.1 _ hi) hD.2.1))
  cases x with
  | none => exact lv_aload_nN hC.1.1 hC.1.2.1 hd rfl (hD.1.2.2 i.1 _ hi) hk
  | some q => exact lv_aload_n hC.1.1 hC.1.2.1 hd rfl (hD.1.2.2 i.1 _ hi) hk
theorem bt_s_istore {i : Nat} {x : Int32} (hd : decode mi.2.1 pc = .ok (.istore i, 2)) (hn : i < mi.2.2.1) (hc : bt_cut L i = false) (k : bt_Go P d mi K (pc + 2) (bt_set L i (some (vi x))) r σ) : bt_Go P d mi K pc L (vi x :: r) σ := by
  intro p e R s m args below meth c cells slots Q hC H locs ls hD
  refine lv_istore hC.1.1 hC.1.2.1 hd (bt_lk_has hD.1) hn rfl (fun ls' hl' => ?_)
  exact k p e R s m args below meth c cells slots Q hC H locs ls' ⟨bt_lk_store1 hc hl', fun v hv => hD.2.1 v (List.mem_cons_of_mem _ hv), bt_okL_set hD.2.2.1 (bt_oki _), hD.2.2.2⟩
theorem bt_s_istore_n {i : Fin 4} {x : Int32} (hd : decode mi.2.1 pc = .ok (.istore_n i, 1)) (hn : i.1 < mi.2.2.1) (hc : bt_cut L i.1 = false) (k : bt_Go P d mi K (pc + 1) (bt_set L i.1 (some (vi x))) r σ) : bt_Go P d mi K pc L (vi x :: r) σ := by
  intro p e R s m args below meth c cells slots Q hC H locs ls hD
  refine lv_istore_n hC.1.1 hC.1.2.1 hd rfl (bt_lk_has hD.1) hn rfl (fun ls' hl' => ?_)
  exact k p e R s m args below meth c cells slots Q hC H locs ls' ⟨bt_lk_store1 hc hl', fun v hv => hD.2.1 v (List.mem_cons_of_mem _ hv), bt_okL_set hD.2.2.1 (bt_oki _), hD.2.2.2⟩
theorem bt_s_lstore {i : Nat} {x : Int64} (hd : decode mi.2.1 pc = .ok (.lstore i, 2)) (hn : i + 1 < mi.2.2.1) (hc : bt_cut L i = false) (k : bt_Go P d mi K (pc + 2) (bt_set (bt_set L i (some (vl x))) (i + 1) none) r σ) : bt_Go P d mi K pc L (vl x :: r) σ := by
  intro p e R s m args below meth c cells slots Q hC H locs ls hD
  refine lv_lstore hC.1.1 hC.1.2.1 hd (bt_lk_has hD.1) hn rfl (fun ls' hl' => ?_)
  exact k p e R s m args below meth c cells slots Q hC H locs ls' ⟨bt_lk_store2 hc hl', fun v hv => hD.2.1 v (List.mem_cons_of_mem _ hv), bt_okL_none (bt_okL_set hD.2.2.1 (bt_okl _)), hD.2.2.2⟩
theorem bt_s_lstore_n {i : Fin 4} {x : Int64} (hd : decode mi.2.1 pc = .ok (.lstore_n i, 1)) (hn : i.1 + 1 < mi.2.2.1) (hc : bt_cut L i.1 = false) (k : bt_Go P d mi K (pc + 1) (bt_set (bt_set L i.1 (some (vl x))) (i.1 + 1) none) r σ) : bt_Go P d mi K pc L (vl x :: r) σ := by
  intro p e R s m args below meth c cells slots Q hC H locs ls hD
  refine lv_lstore_n hC.1.1 hC.1.2.1 hd rfl (bt_lk_has hD.1) hn rfl (fun ls' hl' => ?_)
  exact k p e R s m args below meth c cells slots Q hC H locs ls' ⟨bt_lk_store2 hc hl', fun v hv => hD.2.1 v (List.mem_cons_of_mem _ hv), bt_okL_none (bt_okL_set hD.2.2.1 (bt_okl _)), hD.2.2.2⟩
theorem bt_s_astore {i : Nat} {x : Option (Nat × Nat)} (hd : decode mi.2.1 pc = .ok (.astore i, 2)) (hn : i < mi.2.2.1) (hc : bt_cut L i = false) (k : bt_Go P d mi K (pc + 2) (bt_set L i (some (.inr (.inr x)))) r σ) : bt_Go P d mi K pc L (.inr (.inr x) :: r) σ := by
  intro p e R s m args below meth c cells slots Q hC H locs ls hD
  have ho := hD.2.1 _ List.mem_cons_self
  have hk : ∀ ls' : Array Slot, lv_has ls' mi.2.2.1 ((i, bt_va P (.inr (.inr x))) :: (bt_enum P 0 L).filter (fun q => !(q.1 == i) && !(q.1 + 1 == i && q.2.category == 2))) → W p (bt_l P) e R s m args below meth c H locs cells slots Q (F0 m (pc + 2) ls' (r.map (bt_va P))) := fun ls' hl' =>
    k p e R s m args below meth c cells slots Q hC H locs ls' ⟨bt_lk_store1 hc hl', fun v hv => hD.2.1 v (List.mem_cons_of_mem _ hv), bt_okL_set hD.2.2.1 ho, hD.2.2.2⟩
  cases x with
  | none => exact lv_astoreN hC.1.1 hC.1.2.1 hd (bt_lk_has hD.1) hn rfl hk
  | some q => exact lv_astore hC.1.1 hC.1.2.1 hd (bt_lk_has hD.1) hn rfl hk
theorem bt_s_astore_n {i : Fin 4} {x : Option (Nat × Nat)} (hd : decode mi.2.1 pc = .ok (.astore_n i, 1)) (hn : i.1 < mi.2.2.1) (hc : bt_cut L i.1 = false) (k : bt_Go P d mi K (pc + 1) (bt_set L i.1 (some (.inr (.inr x)))) r σ) : bt_Go P d mi K pc L (.inr (.inr x) :: r) σ := by
  intro p e R s m args below meth c cells slots Q hC H locs ls hD
  have ho := hD.2.1 _ List.mem_cons_self
  have hk : ∀ ls' : Array Slot, lv_has ls' mi.2.2.1 ((i.1, bt_va P (.inr (.inr x))) :: (bt_enum P 0 L).filter (fun q => !(q.1 == i.1) && !(q.1 + 1 == i.1 && q.2.category == 2))) → W p (bt_l P) e R s m args below meth c H locs cells slots Q (F0 m (pc + 1) ls' (r.map (bt_va P))) := fun ls' hl' =>
    k p e R s m args below meth c cells slots Q hC H locs ls' ⟨bt_lk_store1 hc hl', fun v hv => hD.2.1 v (List.mem_cons_of_mem _ hv), bt_okL_set hD.2.2.1 ho, hD.2.2.2⟩
  cases x with
  | none => exact lv_astore_nN hC.1.1 hC.1.2.1 hd rfl (bt_lk_has hD.1) hn rfl hk
  | some q => exact lv_astore_n hC.1.1 hC.1.2.1 hd rfl (bt_lk_has hD.1) hn rfl hk
theorem bt_s_iinc {i : Nat} {n : Int} {x v : Int32} (hd : decode mi.2.1 pc = .ok (.iinc i n, 3)) (hn : i < mi.2.2.1) (hv : Int32.ofInt n = v) (hi : bt_nth none L i = some (vi x)) (hc : bt_cut L i = false) (k : bt_Go P d mi K (pc + 3) (bt_set L i (some (vi (x + v)))) r σ) : bt_Go P d mi K pc L r σ := by
  intro p e R s m args below meth c cells slots Q hC H locs ls hD
  obtain ⟨j, hj⟩ := List.getElem?_of_mem (bt_mem_enum P L 0 i _ hi)
  rw [Nat.zero_add] at hj
  refine lv_iinc (k := j) hC.1.1 hC.1.2.1 hd (bt_lk_has hD.1) hj (v := x + v) (by rw [hv]) hn rfl (fun ls' hl' => ?_)
  exact k p e R s m args below meth c cells slots Q hC H locs ls' ⟨bt_lk_store1 hc hl', hD.2.1, bt_okL_set hD.2.2.1 (bt_oki _), hD.2.2.2⟩
theorem bt_s_iadd {x y : Int32} (hd : decode mi.2.1 pc = .ok (.iadd, 1)) (k : bt_Go P d mi K (pc + 1) L (vi (x + y) :: r) σ) : bt_Go P d mi K pc L (vi y :: vi x :: r) σ := by
  intro p e R s m args below meth c cells slots Q hC H locs ls hD
  exact lv_iadd hC.1.1 hC.1.2.1 hd (k p e R s m args below meth c cells slots Q hC H locs ls (bt_Dy_s hD (bt_ok1 trivial (fun v hv => hD.2.1 v (List.mem_cons_of_mem _ (List.mem_cons_of_mem _ hv))))))
theorem bt_s_isub {x y : Int32} (hd : decode mi.2.1 pc = .ok (.isub, 1)) (k : bt_Go P d mi K (pc + 1) L (vi (x - y) :: r) σ) : bt_Go P d mi K pc L (vi y :: vi x :: r) σ := by
  intro p e R s m args below meth c cells slots Q hC H locs ls hD
  exact lv_isub hC.1.1 hC.1.2.1 hd (k p e R s m args below meth c cells slots Q hC H locs ls (bt_Dy_s hD (bt_ok1 trivial (fun v hv => hD.2.1 v (List.mem_cons_of_mem _ (List.mem_cons_of_mem _ hv))))))
theorem bt_s_imul {x y : Int32} (hd : decode mi.2.1 pc = .ok (.imul, 1)) (k : bt_Go P d mi K (pc + 1) L (vi (x * y) :: r) σ) : bt_Go P d mi K pc L (vi y :: vi x :: r) σ := by
  intro p e R s m args below meth c cells slots Q hC H locs ls hD
  exact lv_imul hC.1.1 hC.1.2.1 hd (k p e R s m args below meth c cells slots Q hC H locs ls (bt_Dy_s hD (bt_ok1 trivial (fun v hv => hD.2.1 v (List.mem_cons_of_mem _ (List.mem_cons_of_mem _ hv))))))
theorem bt_s_iand {x y : Int32} (hd : decode mi.2.1 pc = .ok (.iand, 1)) (k : bt_Go P d mi K (pc + 1) L (vi (x &&& y) :: r) σ) : bt_Go P d mi K pc L (vi y :: vi x :: r) σ := by
  intro p e R s m args below meth c cells slots Q hC H locs ls hD
  exact lv_iand hC.1.1 hC.1.2.1 hd (k p e R s m args below meth c cells slots Q hC H locs ls (bt_Dy_s hD (bt_ok1 trivial (fun v hv => hD.2.1 v (List.mem_cons_of_mem _ (List.mem_cons_of_mem _ hv))))))
theorem bt_s_ior {x y : Int32} (hd : decode mi.2.1 pc = .ok (.ior, 1)) (k : bt_Go P d mi K (pc + 1) L (vi (x ||| y) :: r) σ) : bt_Go P d mi K pc L (vi y :: vi x :: r) σ := by
  intro p e R s m args below meth c cells slots Q hC H locs ls hD
  exact lv_ior hC.1.1 hC.1.2.1 hd (k p e R s m args below meth c cells slots Q hC H locs ls (bt_Dy_s hD (bt_ok1 trivial (fun v hv => hD.2.1 v (List.mem_cons_of_mem _ (List.mem_cons_of_mem _ hv))))))
theorem bt_s_ixor {x y : Int32} (hd : decode mi.2.1 pc = .ok (.ixor, 1)) (k : bt_Go P d mi K (pc + 1) L (vi (x ^^^ y) :: r) σ) : bt_Go P d mi K pc L (vi y :: vi x :: r) σ := by
  intro p e R s m args below meth c cells slots Q hC H locs ls hD
  exact lv_ixor hC.1.1 hC.1.2.1 hd (k p e R s m args below meth c cells slots Q hC H locs ls (bt_Dy_s hD (bt_ok1 trivial (fun v hv => hD.2.1 v (List.mem_cons_of_mem _ (List.mem_cons_of_mem _ hv))))))
theorem bt_s_ishl {x y : Int32} (hd : decode mi.2.1 pc = .ok (.ishl, 1)) (k : bt_Go P d mi K (pc + 1) L (vi (x <<< (y &&& 31)) :: r) σ) : bt_Go P d mi K pc L (vi y :: vi x :: r) σ := by
  intro p e R s m args below meth c cells slots Q hC H locs ls hD
  exact lv_ishl hC.1.1 hC.1.2.1 hd (k p e R s m args below meth c cells slots Q hC H locs ls (bt_Dy_s hD (bt_ok1 trivial (fun v hv => hD.2.1 v (List.mem_cons_of_mem _ (List.mem_cons_of_mem _ hv))))))
theorem bt_s_ishr {x y : Int32} (hd : decode mi.2.1 pc = .ok (.ishr, 1)) (k : bt_Go P d mi K (pc + 1) L (vi (x >>> (y &&& 31)) :: r) σ) : bt_Go P d mi K pc L (vi y :: vi x :: r) σ := by
  intro p e R s m args below meth c cells slots Q hC H locs ls hD
  exact lv_ishr hC.1.1 hC.1.2.1 hd (k p e R s m args below meth c cells slots Q hC H locs ls (bt_Dy_s hD (bt_ok1 trivial (fun v hv => hD.2.1 v (List.mem_cons_of_mem _ (List.mem_cons_of_mem _ hv))))))
theorem bt_s_idiv {x y : Int32} (hd : decode mi.2.1 pc = .ok (.idiv, 1)) (hy : ¬ y = 0) (k : bt_Go P d mi K (pc + 1) L (vi (x / y) :: r) σ) : bt_Go P d mi K pc L (vi y :: vi x :: r) σ := by
  intro p e R s m args below meth c cells slots Q hC H locs ls hD
  exact lv_idiv hC.1.1 hC.1.2.1 hd hy (k p e R s m args below meth c cells slots Q hC H locs ls (bt_Dy_s hD (bt_ok1 trivial (fun v hv => hD.2.1 v (List.mem_cons_of_mem _ (List.mem_cons_of_mem _ hv))))))
theorem bt_s_irem {x y : Int32} (hd : decode mi.2.1 pc = .ok (.irem, 1)) (hy : ¬ y = 0) (k : bt_Go P d mi K (pc + 1) L (vi (x - x / y * y) :: r) σ) : bt_Go P d mi K pc L (vi y :: vi x :: r) σ := by
  intro p e R s m args below meth c cells slots Q hC H locs ls hD
  exact lv_irem hC.1.1 hC.1.2.1 hd hy (k p e R s m args below meth c cells slots Q hC H locs ls (bt_Dy_s hD (bt_ok1 trivial (fun v hv => hD.2.1 v (List.mem_cons_of_mem _ (List.mem_cons_of_mem _ hv))))))
theorem bt_s_iushr {x y : Int32} (hd : decode mi.2.1 pc = .ok (.iushr, 1)) (k : bt_Go P d mi K (pc + 1) L (vi ((x.toUInt32 >>> (y.toUInt32 &&& Int32.toUInt32 31)).toInt32) :: r) σ) : bt_Go P d mi K pc L (vi y :: vi x :: r) σ := by
  intro p e R s m args below meth c cells slots Q hC H locs ls hD
  exact lv_iushr hC.1.1 hC.1.2.1 hd rfl (k p e R s m args below meth c cells slots Q hC H locs ls (bt_Dy_s hD (bt_ok1 trivial (fun v hv => hD.2.1 v (List.mem_cons_of_mem _ (List.mem_cons_of_mem _ hv))))))
theorem bt_s_ladd {x y : Int64} (hd : decode mi.2.1 pc = .ok (.ladd, 1)) (k : bt_Go P d mi K (pc + 1) L (vl (x + y) :: r) σ) : bt_Go P d mi K pc L (vl y :: vl x :: r) σ := by
  intro p e R s m args below meth c cells slots Q hC H locs ls hD
  exact lv_ladd hC.1.1 hC.1.2.1 hd (k p e R s m args below meth c cells slots Q hC H locs ls (bt_Dy_s hD (bt_ok1 trivial (fun v hv => hD.2.1 v (List.mem_cons_of_mem _ (List.mem_cons_of_mem _ hv))))))
theorem bt_s_land {x y : Int64} (hd : decode mi.2.1 pc = .ok (.land, 1)) (k : bt_Go P d mi K (pc + 1) L (vl (x &&& y) :: r) σ) : bt_Go P d mi K pc L (vl y :: vl x :: r) σ := by
  intro p e R s m args below meth c cells slots Q hC H locs ls hD
  exact lv_land hC.1.1 hC.1.2.1 hd (k p e R s m args below meth c cells slots Q hC H locs ls (bt_Dy_s hD (bt_ok1 trivial (fun v hv => hD.2.1 v (List.mem_cons_of_mem _ (List.mem_cons_of_mem _ hv))))))
theorem bt_s_lor {x y : Int64} (hd : decode mi.2.1 pc = .ok (.lor, 1)) (k : bt_Go P d mi K (pc + 1) L (vl (x ||| y) :: r) σ) : bt_Go P d mi K pc L (vl y :: vl x :: r) σ := by
  intro p e R s m args below meth c cells slots Q hC H locs ls hD
  exact lv_lor hC.1.1 hC.1.2.1 hd (k p e R s m args below meth c cells slots Q hC H locs ls (bt_Dy_s hD (bt_ok1 trivial (fun v hv => hD.2.1 v (List.mem_cons_of_mem _ (List.mem_cons_of_mem _ hv))))))
theorem bt_s_lcmp {x y : Int64} (hd : decode mi.2.1 pc = .ok (.lcmp, 1)) (k : bt_Go P d mi K (pc + 1) L (vi (lg_cmp x y) :: r) σ) : bt_Go P d mi K pc L (vl y :: vl x :: r) σ := by
  intro p e R s m args below meth c cells slots Q hC H locs ls hD
  exact W.lcmp hC.1.1 hC.1.2.1 hd (k p e R s m args below meth c cells slots Q hC H locs ls (bt_Dy_s hD (bt_ok1 trivial (fun v hv => hD.2.1 v (List.mem_cons_of_mem _ (List.mem_cons_of_mem _ hv))))))
theorem bt_s_lshl {x : Int64} {y : Int32} (hd : decode mi.2.1 pc = .ok (.lshl, 1)) (k : bt_Go P d mi K (pc + 1) L (vl (x <<< (y.toInt64 &&& 63)) :: r) σ) : bt_Go P d mi K pc L (vi y :: vl x :: r) σ := by
  intro p e R s m args below meth c cells slots Q hC H locs ls hD
  exact lv_lshl hC.1.1 hC.1.2.1 hd rfl (k p e R s m args below meth c cells slots Q hC H locs ls (bt_Dy_s hD (bt_ok1 trivial (fun v hv => hD.2.1 v (List.mem_cons_of_mem _ (List.mem_cons_of_mem _ hv))))))
theorem bt_s_ineg {x : Int32} (hd : decode mi.2.1 pc = .ok (.ineg, 1)) (k : bt_Go P d mi K (pc + 1) L (vi (-x) :: r) σ) : bt_Go P d mi K pc L (vi x :: r) σ := by
  intro p e R s m args below meth c cells slots Q hC H locs ls hD
  exact lv_ineg hC.1.1 hC.1.2.1 hd (k p e R s m args below meth c cells slots Q hC H locs ls (bt_Dy_s hD (bt_ok1 trivial (fun v hv => hD.2.1 v (List.mem_cons_of_mem _ hv)))))
theorem bt_s_i2l {x : Int32} (hd : decode mi.2.1 pc = .ok (.i2l, 1)) (k : bt_Go P d mi K (pc + 1) L (vl (x.toInt64) :: r) σ) : bt_Go P d mi K pc L (vi x :: r) σ := by
  intro p e R s m args below meth c cells slots Q hC H locs ls hD
  exact lv_i2l hC.1.1 hC.1.2.1 hd rfl (k p e R s m args below meth c cells slots Q hC H locs ls (bt_Dy_s hD (bt_ok1 trivial (fun v hv => hD.2.1 v (List.mem_cons_of_mem _ hv)))))
theorem bt_s_l2i {x : Int64} (hd : decode mi.2.1 pc = .ok (.l2i, 1)) (k : bt_Go P d mi K (pc + 1) L (vi (x.toInt32) :: r) σ) : bt_Go P d mi K pc L (vl x :: r) σ := by
  intro p e R s m args below meth c cells slots Q hC H locs ls hD
  exact lv_l2i hC.1.1 hC.1.2.1 hd rfl (k p e R s m args below meth c cells slots Q hC H locs ls (bt_Dy_s hD (bt_ok1 trivial (fun v hv => hD.2.1 v (List.mem_cons_of_mem _ hv)))))
theorem bt_s_i2b {x : Int32} (hd : decode mi.2.1 pc = .ok (.i2b, 1)) (k : bt_Go P d mi K (pc + 1) L (vi (x.toInt8.toInt32) :: r) σ) : bt_Go P d mi K pc L (vi x :: r) σ := by
  intro p e R s m args below meth c cells slots Q hC H locs ls hD
  exact lv_i2b hC.1.1 hC.1.2.1 hd rfl (k p e R s m args below meth c cells slots Q hC H locs ls (bt_Dy_s hD (bt_ok1 trivial (fun v hv => hD.2.1 v (List.mem_cons_of_mem _ hv)))))
theorem bt_s_i2s {x : Int32} (hd : decode mi.2.1 pc = .ok (.i2s, 1)) (k : bt_Go P d mi K (pc + 1) L (vi (x.toInt16.toInt32) :: r) σ) : bt_Go P d mi K pc L (vi x :: r) σ := by
  intro p e R s m args below meth c cells slots Q hC H locs ls hD
  exact lv_i2s hC.1.1 hC.1.2.1 hd rfl (k p e R s m args below meth c cells slots Q hC H locs ls (bt_Dy_s hD (bt_ok1 trivial (fun v hv => hD.2.1 v (List.mem_cons_of_mem _ hv)))))
theorem bt_s_dup {v : av_T} (hd : decode mi.2.1 pc = .ok (.dup, 1)) (hv : bt_cat v = 1) (k : bt_Go P d mi K (pc + 1) L (v :: v :: r) σ) : bt_Go P d mi K pc L (v :: r) σ := by
  intro p e R s m args below meth c cells slots Q hC H locs ls hD
  exact lv_dup hC.1.1 hC.1.2.1 hd (by rw [bt_cat_va, hv]) (k p e R s m args below meth c cells slots Q hC H locs ls (bt_Dy_s hD (bt_ok1 (hD.2.1 _ List.mem_cons_self) hD.2.1)))
theorem bt_s_dup2 {v w : av_T} (hd : decode mi.2.1 pc = .ok (.dup2, 1)) (hv : bt_cat v = 1) (hw : bt_cat w = 1) (k : bt_Go P d mi K (pc + 1) L (v :: w :: v :: w :: r) σ) : bt_Go P d mi K pc L (v :: w :: r) σ := by
  intro p e R s m args below meth c cells slots Q hC H locs ls hD
  exact lv_dup2_11 hC.1.1 hC.1.2.1 hd (by rw [bt_cat_va, hv]) (by rw [bt_cat_va, hw]) (k p e R s m args below meth c cells slots Q hC H locs ls (bt_Dy_s hD (bt_ok1 (hD.2.1 _ List.mem_cons_self) (bt_ok1 (hD.2.1 _ (List.mem_cons_of_mem _ List.mem_cons_self)) hD.2.1))))
theorem bt_s_pop {v : av_T} (hd : decode mi.2.1 pc = .ok (.pop, 1)) (hv : bt_cat v = 1) (k : bt_Go P d mi K (pc + 1) L r σ) : bt_Go P d mi K pc L (v :: r) σ := by
  intro p e R s m args below meth c cells slots Q hC H locs ls hD
  exact lv_pop hC.1.1 hC.1.2.1 hd (by rw [bt_cat_va, hv]) (k p e R s m args below meth c cells slots Q hC H locs ls (bt_Dy_s hD (fun v hv => hD.2.1 v (List.mem_cons_of_mem _ hv))))
theorem bt_s_goto {off : Int} {t : Nat} (hd : decode mi.2.1 pc = .ok (.goto off, 3)) (ht : (pc : Int) + off = (t : Int)) (k : bt_Go P d mi K t L r σ) : bt_Go P d mi K pc L r σ := by
  intro p e R s m args below meth c cells slots Q hC H locs ls hD
  exact lv_goto hC.1.1 hC.1.2.1 hd ht (k p e R s m args below meth c cells slots Q hC H locs ls hD)
theorem bt_s_if_eq {x : Int32} {off : Int} {t : Nat} (hd : decode mi.2.1 pc = .ok (.ifCond .eq off, 3)) (ht : (pc : Int) + off = (t : Int)) (k1 : x = 0 → bt_Go P d mi K t L r σ) (k2 : ¬ x = 0 → bt_Go P d mi K (pc + 3) L r σ) : bt_Go P d mi K pc L (vi x :: r) σ := by
  intro p e R s m args below meth c cells slots Q hC H locs ls hD
  have hD2 := bt_Dy_s hD (fun v hv => hD.2.1 v (List.mem_cons_of_mem _ hv))
  exact lv_if_eq hC.1.1 hC.1.2.1 hd ht (fun h => k1 h p e R s m args below meth c cells slots Q hC H locs ls hD2) (fun h => k2 h p e R s m args below meth c cells slots Q hC H locs ls hD2)
theorem bt_s_icmp_eq {x y : Int32} {off : Int} {t : Nat} (hd : decode mi.2.1 pc = .ok (.if_icmp .eq off, 3)) (ht : (pc : Int) + off = (t : Int)) (k1 : x = y → bt_Go P d mi K t L r σ) (k2 : ¬ x = y → bt_Go P d mi K (pc + 3) L r σ) : bt_Go P d mi K pc L (vi y :: vi x :: r) σ := by
  intro p e R s m args below meth c cells slots Q hC H locs ls hD
  have hD2 := bt_Dy_s hD (fun v hv => hD.2.1 v (List.mem_cons_of_mem _ (List.mem_cons_of_mem _ hv)))
  exact lv_icmp_eq hC.1.1 hC.1.2.1 hd ht (fun h => k1 h p e R s m args below meth c cells slots Q hC H locs ls hD2) (fun h => k2 h p e R s m args below meth c cells slots Q hC H locs ls hD2)
theorem bt_s_if_ne {x : Int32} {off : Int} {t : Nat} (hd : decode mi.2.1 pc = .ok (.ifCond .ne off, 3)) (ht : (pc : Int) + off = (t : Int)) (k1 : ¬ x = 0 → bt_Go P d mi K t L r σ) (k2 : x = 0 → bt_Go P d mi K (pc + 3) L r σ) : bt_Go P d mi K pc L (vi x :: r) σ := by
  intro p e R s m args below meth c cells slots Q hC H locs ls hD
  have hD2 := bt_Dy_s hD (fun v hv => hD.2.1 v (List.mem_cons_of_mem _ hv))
  exact lv_if_ne hC.1.1 hC.1.2.1 hd ht (fun h => k1 h p e R s m args below meth c cells slots Q hC H locs ls hD2) (fun h => k2 h p e R s m args below meth c cells slots Q hC H locs ls hD2)
theorem bt_s_icmp_ne {x y : Int32} {off : Int} {t : Nat} (hd : decode mi.2.1 pc = .ok (.if_icmp .ne off, 3)) (ht : (pc : Int) + off = (t : Int)) (k1 : ¬ x = y → bt_Go P d mi K t L r σ) (k2 : x = y → bt_Go P d mi K (pc + 3) L r σ) : bt_Go P d mi K pc L (vi y :: vi x :: r) σ := by
  intro p e R s m args below meth c cells slots Q hC H locs ls hD
  have hD2 := bt_Dy_s hD (fun v hv => hD.2.1 v (List.mem_cons_of_mem _ (List.mem_cons_of_mem _ hv)))
  exact lv_icmp_ne hC.1.1 hC.1.2.1 hd ht (fun h => k1 h p e R s m args below meth c cells slots Q hC H locs ls hD2) (fun h => k2 h p e R s m args below meth c cells slots Q hC H locs ls hD2)
theorem bt_s_if_lt {x : Int32} {off : Int} {t : Nat} (hd : decode mi.2.1 pc = .ok (.ifCond .lt off, 3)) (ht : (pc : Int) + off = (t : Int)) (k1 : x < 0 → bt_Go P d mi K t L r σ) (k2 : ¬ x < 0 → bt_Go P d mi K (pc + 3) L r σ) : bt_Go P d mi K pc L (vi x :: r) σ := by
  intro p e R s m args below meth c cells slots Q hC H locs ls hD
  have hD2 := bt_Dy_s hD (fun v hv => hD.2.1 v (List.mem_cons_of_mem _ hv))
  exact lv_if_lt hC.1.1 hC.1.2.1 hd ht (fun h => k1 h p e R s m args below meth c cells slots Q hC H locs ls hD2) (fun h => k2 h p e R s m args below meth c cells slots Q hC H locs ls hD2)
theorem bt_s_icmp_lt {x y : Int32} {off : Int} {t : Nat} (hd : decode mi.2.1 pc = .ok (.if_icmp .lt off, 3)) (ht : (pc : Int) + off = (t : Int)) (k1 : x < y → bt_Go P d mi K t L r σ) (k2 : ¬ x < y → bt_Go P d mi K (pc + 3) L r σ) : bt_Go P d mi K pc L (vi y :: vi x :: r) σ := by
  intro p e R s m args below meth c cells slots Q hC H locs ls hD
  have hD2 := bt_Dy_s hD (fun v hv => hD.2.1 v (List.mem_cons_of_mem _ (List.mem_cons_of_mem _ hv)))
  exact lv_icmp_lt hC.1.1 hC.1.2.1 hd ht (fun h => k1 h p e R s m args below meth c cells slots Q hC H locs ls hD2) (fun h => k2 h p e R s m args below meth c cells slots Q hC H locs ls hD2)
theorem bt_s_if_ge {x : Int32} {off : Int} {t : Nat} (hd : decode mi.2.1 pc = .ok (.ifCond .ge off, 3)) (ht : (pc : Int) + off = (t : Int)) (k1 : 0 ≤ x → bt_Go P d mi K t L r σ) (k2 : ¬ 0 ≤ x → bt_Go P d mi K (pc + 3) L r σ) : bt_Go P d mi K pc L (vi x :: r) σ := by
  intro p e R s m args below meth c cells slots Q hC H locs ls hD
  have hD2 := bt_Dy_s hD (fun v hv => hD.2.1 v (List.mem_cons_of_mem _ hv))
  exact lv_if_ge hC.1.1 hC.1.2.1 hd ht (fun h => k1 h p e R s m args below meth c cells slots Q hC H locs ls hD2) (fun h => k2 h p e R s m args below meth c cells slots Q hC H locs ls hD2)
theorem bt_s_icmp_ge {x y : Int32} {off : Int} {t : Nat} (hd : decode mi.2.1 pc = .ok (.if_icmp .ge off, 3)) (ht : (pc : Int) + off = (t : Int)) (k1 : y ≤ x → bt_Go P d mi K t L r σ) (k2 : ¬ y ≤ x → bt_Go P d mi K (pc + 3) L r σ) : bt_Go P d mi K pc L (vi y :: vi x :: r) σ := by
  intro p e R s m args below meth c cells slots Q hC H locs ls hD
  have hD2 := bt_Dy_s hD (fun v hv => hD.2.1 v (List.mem_cons_of_mem _ (List.mem_cons_of_mem _ hv)))
  exact lv_icmp_ge hC.1.1 hC.1.2.1 hd ht (fun h => k1 h p e R s m args below meth c cells slots Q hC H locs ls hD2) (fun h => k2 h p e R s m args below meth c cells slots Q hC H locs ls hD2)
theorem bt_s_if_gt {x : Int32} {off : Int} {t : Nat} (hd : decode mi.2.1 pc = .ok (.ifCond .gt off, 3)) (ht : (pc : Int) + off = (t : Int)) (k1 : 0 < x → bt_Go P d mi K t L r σ) (k2 : ¬ 0 < x → bt_Go P d mi K (pc + 3) L r σ) : bt_Go P d mi K pc L (vi x :: r) σ := by
  intro p e R s m args below meth c cells slots Q hC H locs ls hD
  have hD2 := bt_Dy_s hD (fun v hv => hD.2.1 v (List.mem_cons_of_mem _ hv))
  exact lv_if_gt hC.1.1 hC.1.2.1 hd ht (fun h => k1 h p e R s m args below meth c cells slots Q hC H locs ls hD2) (fun h => k2 h p e R s m args below meth c cells slots Q hC H locs ls hD2)
theorem bt_s_icmp_gt {x y : Int32} {off : Int} {t : Nat} (hd : decode mi.2.1 pc = .ok (.if_icmp .gt off, 3)) (ht : (pc : Int) + off = (t : Int)) (k1 : y < x → bt_Go P d mi K t L r σ) (k2 : ¬ y < x → bt_Go P d mi K (pc + 3) L r σ) : bt_Go P d mi K pc L (vi y :: vi x :: r) σ := by
  intro p e R s m args below meth c cells slots Q hC H locs ls hD
  have hD2 := bt_Dy_s hD (fun v hv => hD.2.1 v (List.mem_cons_of_mem _ (List.mem_cons_of_mem _ hv)))
  exact lv_icmp_gt hC.1.1 hC.1.2.1 hd ht (fun h => k1 h p e R s m args below meth c cells slots Q hC H locs ls hD2) (fun h => k2 h p e R s m args below meth c cells slots Q hC H locs ls hD2)
theorem bt_s_if_le {x : Int32} {off : Int} {t : Nat} (hd : decode mi.2.1 pc = .ok (.ifCond .le off, 3)) (ht : (pc : Int) + off = (t : Int)) (k1 : x ≤ 0 → bt_Go P d mi K t L r σ) (k2 : ¬ x ≤ 0 → bt_Go P d mi K (pc + 3) L r σ) : bt_Go P d mi K pc L (vi x :: r) σ := by
  intro p e R s m args below meth c cells slots Q hC H locs ls hD
  have hD2 := bt_Dy_s hD (fun v hv => hD.2.1 v (List.mem_cons_of_mem _ hv))
  exact lv_if_le hC.1.1 hC.1.2.1 hd ht (fun h => k1 h p e R s m args below meth c cells slots Q hC H locs ls hD2) (fun h => k2 h p e R s m args below meth c cells slots Q hC H locs ls hD2)
theorem bt_s_icmp_le {x y : Int32} {off : Int} {t : Nat} (hd : decode mi.2.1 pc = .ok (.if_icmp .le off, 3)) (ht : (pc : Int) + off = (t : Int)) (k1 : x ≤ y → bt_Go P d mi K t L r σ) (k2 : ¬ x ≤ y → bt_Go P d mi K (pc + 3) L r σ) : bt_Go P d mi K pc L (vi y :: vi x :: r) σ := by
  intro p e R s m args below meth c cells slots Q hC H locs ls hD
  have hD2 := bt_Dy_s hD (fun v hv => hD.2.1 v (List.mem_cons_of_mem _ (List.mem_cons_of_mem _ hv)))
  exact lv_icmp_le hC.1.1 hC.1.2.1 hd ht (fun h => k1 h p e R s m args below meth c cells slots Q hC H locs ls hD2) (fun h => k2 h p e R s m args below meth c cells slots Q hC H locs ls hD2)
theorem bt_s_ifnull {x : Option (Nat × Nat)} {off : Int} {t : Nat} (hd : decode mi.2.1 pc = .ok (.ifnull off, 3)) (ht : (pc : Int) + off = (t : Int)) (k1 : x = none → bt_Go P d mi K t L r σ) (k2 : ¬ x = none → bt_Go P d mi K (pc + 3) L r σ) : bt_Go P d mi K pc L (.inr (.inr x) :: r) σ := by
  intro p e R s m args below meth c cells slots Q hC H locs ls hD
  have hD2 := bt_Dy_s hD (fun v hv => hD.2.1 v (List.mem_cons_of_mem _ hv))
  cases x with
  | none => exact lv_ifnullN hC.1.1 hC.1.2.1 hd ht (k1 rfl p e R s m args below meth c cells slots Q hC H locs ls hD2)
  | some q => exact lv_ifnull hC.1.1 hC.1.2.1 hd (k2 (fun z => by cases z) p e R s m args below meth c cells slots Q hC H locs ls hD2)
theorem bt_s_ifnonnull {x : Option (Nat × Nat)} {off : Int} {t : Nat} (hd : decode mi.2.1 pc = .ok (.ifnonnull off, 3)) (ht : (pc : Int) + off = (t : Int)) (k1 : ¬ x = none → bt_Go P d mi K t L r σ) (k2 : x = none → bt_Go P d mi K (pc + 3) L r σ) : bt_Go P d mi K pc L (.inr (.inr x) :: r) σ := by
  intro p e R s m args below meth c cells slots Q hC H locs ls hD
  have hD2 := bt_Dy_s hD (fun v hv => hD.2.1 v (List.mem_cons_of_mem _ hv))
  cases x with
  | none => exact lv_ifnonnullN hC.1.1 hC.1.2.1 hd (k2 rfl p e R s m args below meth c cells slots Q hC H locs ls hD2)
  | some q => exact lv_ifnonnull hC.1.1 hC.1.2.1 hd ht (k1 (fun z => by cases z) p e R s m args below meth c cells slots Q hC H locs ls hD2)
end BTS
end
section
/-! THE ABSTRACT MACHINE IS SOUND, 3: the world's cells -/
theorem bt_valid {k i : Nat} (h : bt_ok (k, i)) (hk : k < 100) : i < bt_cnt k ∧ k < 70 := by
  have h1 : i < bt_cnt k := by
    rcases h with h | h
    · exact h
    · exact absurd h.1 (by show ¬ 100 ≤ k; omega)
  refine ⟨h1, ?_⟩
  rcases Nat.lt_or_ge k 70 with q | q
  · exact q
  · rw [bt_cnt_big k q] at h1; omega
theorem bt_wl_at (P : bt_PT) (σ : st_T) {k i : Nat} (h : i < bt_cnt k ∧ k < 70) : (bt_wl P σ)[bt_bas k + i]? = some (bt_ad P k i, bt_ent P σ (k, i)) := by
  unfold bt_wl
  rw [List.getElem?_map, bt_pos k h.2 i h.1]
  rfl
theorem bt_D_of {P : bt_PT} (h : bt_okP P) (σ : st_T) : va_D (bt_A P) (bt_wl P σ) := by
  have key : ∀ (n : Nat) (q : Nat × va_E), (bt_wl P σ)[n]? = some q → ∃ a, bt_NMS[n]? = some a ∧ q = (bt_ad P a.1 a.2, bt_ent P σ a) := by
    intro n q hq
    unfold bt_wl at hq
    rw [List.getElem?_map] at hq
    cases ha : bt_NMS[n]? with
    | none => rw [ha] at hq; cases hq
    | some a => rw [ha] at hq; cases hq; exact ⟨a, rfl, rfl⟩
  have hn : ∀ (n : Nat) (a : Nat × Nat), bt_NMS[n]? = some a → bt_bas a.1 + a.2 = n := by
    intro n a ha
    have hlt : n < 128 := by
      have := (List.getElem?_eq_some_iff.mp ha).1
      rw [bt_NMS_len] at this; exact this
    have h1 := bt_pos_inv n hlt
    rw [ha] at h1
    exact Nat.eq_of_beq_eq_true h1
  refine ⟨fun i j x y hi hj hxy => ?_, fun n q hq => ?_⟩
  · obtain ⟨a, h1, rfl⟩ := key i x hi
    obtain ⟨b, h2, rfl⟩ := key j y hj
    have e := h.1 a (List.mem_of_getElem? h1) b (List.mem_of_getElem? h2) hxy
    subst e
    rw [← hn i a h1, ← hn j a h2]
  · obtain ⟨a, h1, rfl⟩ := key n q hq
    exact h.2 a (List.mem_of_getElem? h1)
theorem bt_ent_congr (P : bt_PT) {σ σ' : st_T} {q : Nat × Nat} (h1 : σ.1 q.1 q.2 = σ'.1 q.1 q.2) (h2 : σ.2 q.1 q.2 = σ'.2 q.1 q.2) : bt_ent P σ q = bt_ent P σ' q := by
  have h3 : ∀ c, bt_fv P σ.1 c q.1 q.2 = bt_fv P σ'.1 c q.1 q.2 := by
    intro c
    funext j
    unfold bt_fv
    rw [h1]
  unfold bt_ent
  rw [h1, h2]
  split <;> first | rfl | (rw [h3])
theorem bt_wl_set (P : bt_PT) {σ σ' : st_T} {k i : Nat} (h : i < bt_cnt k ∧ k < 70) (h1 : ∀ a b, ¬ (a = k ∧ b = i) → σ.1 a b = σ'.1 a b) (h2 : ∀ a b, ¬ (a = k ∧ b = i) → σ.2 a b = σ'.2 a b) {e : va_E} (he : e = bt_ent P σ' (k, i)) : (bt_wl P σ).set (bt_bas k + i) (bt_ad P k i, e) = bt_wl P σ' := by
  subst he
  have hp := bt_pos k h.2 i h.1
  apply List.ext_getElem?
  intro n
  by_cases hn : n = bt_bas k + i
  · subst hn
    have hl : bt_bas k + i < (bt_wl P σ).length := by
      unfold bt_wl; rw [List.length_map]; exact (List.getElem?_eq_some_iff.mp hp).1
    rw [List.getElem?_set_self hl, bt_wl_at P σ' h]
  · rw [List.getElem?_set_ne (fun z => hn z.symm)]
    unfold bt_wl
    rw [List.getElem?_map, List.getElem?_map]
    cases ha : bt_NMS[n]? with
    | none => rfl
    | some a =>
      have hlt : n < 128 := by
        have := (List.getElem?_eq_some_iff.mp ha).1
        rw [bt_NMS_len] at this; exact this
      have hz := bt_pos_inv n hlt
      rw [ha] at hz
      have hz := Nat.eq_of_beq_eq_true hz
      have hne : ¬ (a.1 = k ∧ a.2 = i) := fun z => hn (by rw [← hz, z.1, z.2])
      show some (bt_ad P a.1 a.2, bt_ent P σ a) = some (bt_ad P a.1 a.2, bt_ent P σ' a)
      rw [bt_ent_congr P (h1 _ _ hne) (h2 _ _ hne)]
theorem ui_ne {I : m_I} {k i j : Nat} {v : Int32} {a b : Nat} (h : ¬ (a = k ∧ b = i)) : I a b = ui I k i j v a b := by
  funext c
  unfold ui
  by_cases h1 : a = k
  · have h2 : ¬ b = i := fun z => h ⟨h1, z⟩
    rw [if_pos h1, if_neg h2]
  · rw [if_neg h1]
theorem ul_ne {I : m_L} {k i j : Nat} {v : Int64} {a b : Nat} (h : ¬ (a = k ∧ b = i)) : I a b = ul I k i j v a b := by
  funext c
  unfold ul
  by_cases h1 : a = k
  · have h2 : ¬ b = i := fun z => h ⟨h1, z⟩
    rw [if_pos h1, if_neg h2]
  · rw [if_neg h1]
theorem uc_ne {I : m_I} {k i : Nat} {f : Nat → Int32} {a b : Nat} (h : ¬ (a = k ∧ b = i)) : I a b = uc I k i f a b := by
  funext c
  unfold uc
  by_cases h1 : a = k
  · have h2 : ¬ b = i := fun z => h ⟨h1, z⟩
    rw [if_pos h1, if_neg h2]
  · rw [if_neg h1]
theorem ud_ne {I : m_L} {k i : Nat} {f : Nat → Int64} {a b : Nat} (h : ¬ (a = k ∧ b = i)) : I a b = ud I k i f a b := by
  funext c
  unfold ud
  by_cases h1 : a = k
  · have h2 : ¬ b = i := fun z => h ⟨h1, z⟩
    rw [if_pos h1, if_neg h2]
  · rw [if_neg h1]
theorem ui_row (I : m_I) (k i j : Nat) (v : Int32) : ui I k i j v k i = upd (I k i) j v := by
  funext c
  simp [ui, upd]
theorem ul_row (I : m_L) (k i j : Nat) (v : Int64) : ul I k i j v k i = vp_updL (I k i) j v := by
  funext c
  simp [ul, vp_updL]
theorem uc_row (I : m_I) (k i : Nat) (f : Nat → Int32) : uc I k i f k i = f := by
  funext c
  simp [uc]
theorem ud_row (I : m_L) (k i : Nat) (f : Nat → Int64) : ud I k i f k i = f := by
  funext c
  simp [ud]
theorem bt_ent0 (P : bt_PT) (σ : st_T) {k i c : Nat} (h : bt_shp k = (0, c)) : bt_ent P σ (k, i) = .inr (c, (List.range (bt_nf c)).map (bt_fv P σ.1 c k i)) := by
  unfold bt_ent; rw [h]; rfl
theorem bt_ent1 (P : bt_PT) (σ : st_T) {k i n : Nat} (h : bt_shp k = (1, n)) : bt_ent P σ (k, i) = .inl (bt_dA P 0, n, .inl (σ.1 k i)) := by
  unfold bt_ent; rw [h]; rfl
theorem bt_ent2 (P : bt_PT) (σ : st_T) {k i n : Nat} (h : bt_shp k = (2, n)) : bt_ent P σ (k, i) = .inl (bt_dA P 1, n, .inr (.inl (σ.2 k i))) := by
  unfold bt_ent; rw [h]; rfl
theorem bt_ent3 (P : bt_PT) (σ : st_T) {k i n : Nat} (h : bt_shp k = (3, n)) : bt_ent P σ (k, i) = .inl (bt_dA P 2, n, .inl (σ.1 k i)) := by
  unfold bt_ent; rw [h]; rfl
theorem bt_ent4 (P : bt_PT) (σ : st_T) {k i n : Nat} (h : bt_shp k = (4, n)) : bt_ent P σ (k, i) = .inl (bt_dA P 3, n, .inl (σ.1 k i)) := by
  unfold bt_ent; rw [h]; rfl
theorem bt_ent5 (P : bt_PT) (σ : st_T) {k i n : Nat} (h : bt_shp k = (5, n)) : bt_ent P σ (k, i) = .inl (bt_dA P 4, n, .inr (.inr (.inr (.inr (fun j => (bt_RF k i j).map (bt_adr P)))))) := by
  unfold bt_ent; rw [h]; rfl
theorem bt_ent6 (P : bt_PT) (σ : st_T) {k i n : Nat} (h : bt_shp k = (6, n)) : bt_ent P σ (k, i) = .inl (bt_dA P 5, n, .inr (.inr (.inr (.inr (fun j => (bt_RF k i j).map (bt_adr P)))))) := by
  unfold bt_ent; rw [h]; rfl
theorem bt_shp_eq {k t : Nat} (h : (bt_shp k).1 = t) : bt_shp k = (t, (bt_shp k).2) := by rw [← h]
theorem bt_adr_lt (P : bt_PT) {k i : Nat} (h : k < 100) : bt_adr P (k, i) = bt_ad P k i := by
  unfold bt_adr; rw [if_neg (by show ¬ 100 ≤ k; omega)]
theorem bt_va_rf (P : bt_PT) (x : Option (Nat × Nat)) : va_rf (x.map (bt_adr P)) = bt_va P (.inr (.inr x)) := by
  cases x <;> rfl
theorem bt_RF_val {k i j : Nat} (h : i < bt_cnt k ∧ k < 70) (hj : j < (if (bt_shp k).1 = 0 then bt_nf (bt_shp k).2 else (bt_shp k).2)) : bt_okv (.inr (.inr (bt_RF k i j))) := by
  have h1 := bt_RF_ok k h.2 i h.1 j hj
  refine bt_oka (fun q hq => ?_)
  rw [hq] at h1
  exact Or.inl (Nat.le_of_ble_eq_true h1)
theorem bt_rset {f : Nat → Value} {n j : Nat} {v : Value} : ((List.range n).map f).set j v = (List.range n).map (fun t => if t = j then v else f t) := by
  apply List.ext_getElem?
  intro t
  rw [List.getElem?_map]
  by_cases ht : t = j
  · subst ht
    by_cases hl : t < n
    · rw [List.getElem?_set_self (by simpa using hl), List.getElem?_range hl]
      simp
    · rw [List.getElem?_eq_none (by simp; omega), List.getElem?_eq_none (by simp; omega)]
      rfl
  · rw [List.getElem?_set_ne (fun z => ht z.symm), List.getElem?_map]
    by_cases hl : t < n
    · rw [List.getElem?_range hl]
      simp [ht]
    · rw [List.getElem?_eq_none (by simp; omega)]
      rfl
theorem bt_fv_put (P : bt_PT) (I : m_I) {c k i j : Nat} {x : Int32} (hj : bt_fk c j ≠ 2) : (fun t => if t = j then Value.int x else bt_fv P I c k i t) = bt_fv P (ui I k i j x) c k i := by
  funext t
  unfold bt_fv
  rw [ui_row]
  by_cases ht : t = j
  · subst ht
    rw [if_pos rfl, if_neg hj]
    simp [upd]
  · rw [if_neg ht]
    simp [upd, ht]
section BTH
variable {P : bt_PT} {d : Nat} {mi : bt_MI} {K : Option av_T → st_T → Prop} {pc : Nat} {L : List (Option av_T)} {r : List av_T} {σ : st_T}
theorem bt_dr1 {v : av_T} (h : ∀ w ∈ v :: r, bt_okv w) : ∀ w ∈ r, bt_okv w := fun w hw => h w (List.mem_cons_of_mem _ hw)
theorem bt_s_getfield {idx c j k i : Nat} (hd : decode mi.2.1 pc = .ok (.getfield idx, 3)) (hl : bt_lkF mi.1.cls idx c j false) (hk : k < 100) (hs : bt_shp k = (0, c)) (hj : j < bt_nf c)
    (k1 : bt_fk c j = 2 → bt_Go P d mi K (pc + 3) L (.inr (.inr (bt_RF k i j)) :: r) σ) (k2 : ¬ bt_fk c j = 2 → bt_Go P d mi K (pc + 3) L (vi (σ.1 k i j) :: r) σ) : bt_Go P d mi K pc L (vr k i :: r) σ := by
  intro p e R s m args below meth c0 cells slots Q hC H locs ls hD
  obtain ⟨hx, hb, hml, hr, hlo, hown, hts, hK, hSF, hokP, hNW⟩ := id hC.1
  obtain ⟨C, T, N, ty, hc, hN, hin, hty, hnm, hT, hlink, -⟩ := hl
  have hv := bt_valid (hD.2.1 _ List.mem_cons_self) hk
  have he := bt_wl_at P σ hv
  rw [bt_ent0 P σ hs] at he
  have hP := hD.2.2.2.1
  show W p (bt_l P) e R s m args below meth c0 H locs cells slots Q (F0 m pc ls (Value.ref (bt_adr P (k, i)) :: r.map (bt_va P)))
  rw [bt_adr_lt P hk]
  have hfs : ((List.range (bt_nf c)).map (bt_fv P σ.1 c k i))[j]? = some (bt_fv P σ.1 c k i j) := by
    rw [List.getElem?_map, List.getElem?_range hj]; rfl
  refine va_get (D := bt_D P) (ci := c) (C := C) (T := T) (N := N) hx hb hts hin hown hK hP _ he hc j (by omega) (hts _ hlink) (by rw [hT]; exact fun _ h => h) hfs hd ?_
  by_cases h2 : bt_fk c j = 2
  · have hz := k1 h2 p e R s m args below meth c0 cells slots Q hC H locs ls (bt_Dy_s hD (bt_ok1 (bt_RF_val hv (by rw [hs]; exact hj)) (bt_dr1 hD.2.1)))
    have e1 : bt_fv P σ.1 c k i j = bt_va P (.inr (.inr (bt_RF k i j))) := by
      unfold bt_fv; rw [if_pos h2, bt_va_rf]
    rw [e1]
    exact hz
  · have hz := k2 h2 p e R s m args below meth c0 cells slots Q hC H locs ls (bt_Dy_s hD (bt_ok1 (bt_oki _) (bt_dr1 hD.2.1)))
    have e1 : bt_fv P σ.1 c k i j = bt_va P (vi (σ.1 k i j)) := by
      unfold bt_fv; rw [if_neg h2]; rfl
    rw [e1]
    exact hz
theorem bt_s_putfield {idx c j k i : Nat} {x : Int32} (hd : decode mi.2.1 pc = .ok (.putfield idx, 3)) (hl : bt_lkF mi.1.cls idx c j true) (hk : k < 100) (hs : bt_shp k = (0, c)) (hj : j < bt_nf c)
    (hz : bt_fk c j = 0 ∨ (bt_fk c j = 1 ∧ (x = 0 ∨ x = 1))) (k1 : bt_Go P d mi K (pc + 3) L r (ui σ.1 k i j x, σ.2)) : bt_Go P d mi K pc L (vi x :: vr k i :: r) σ := by
  intro p e R s m args below meth c0 cells slots Q hC H locs ls hD
  obtain ⟨hx, hb, hml, hr, hlo, hown, hts, hK, hSF, hokP, hNW⟩ := id hC.1
  obtain ⟨C, T, N, ty, hc, hN, hin, hty, hnm, hT, hlink, hput⟩ := hl
  obtain ⟨hfin, hkind⟩ := hput rfl
  have hv := bt_valid (hD.2.1 _ (List.mem_cons_of_mem _ List.mem_cons_self)) hk
  have he := bt_wl_at P σ hv
  rw [bt_ent0 P σ hs] at he
  have hP := hD.2.2.2.1
  show W p (bt_l P) e R s m args below meth c0 H locs cells slots Q (F0 m pc ls (Value.int x :: Value.ref (bt_adr P (k, i)) :: r.map (bt_va P)))
  rw [bt_adr_lt P hk]
  have hnar : narrow (ty j) (.int x) = .int x ∧ fits (ty j) (.int x) = true := by
    rcases hkind with ⟨h1, h2⟩ | ⟨h1, h2⟩
    · rw [h2]; exact ⟨rfl, rfl⟩
    · rw [h2]
      rcases hz with h3 | ⟨-, h3⟩
      · rw [h1] at h3; cases h3
      · rcases h3 with rfl | rfl <;> exact ⟨rfl, rfl⟩
  have hne : bt_fk c j ≠ 2 := by
    rcases hkind with ⟨h1, h2⟩ | ⟨h1, h2⟩ <;> rw [h1] <;> decide
  refine va_put (D := bt_D P) (ci := c) (C := C) (T := T) (N := N) hx hb hts hin ty hty hnm hown hK hP (bt_D_of hokP σ) hD.2.2.2.2 _ he hc j (by omega) (hts _ hlink) (by rw [hT]; exact fun _ h => h) hfin (hty j (by omega)) hnar.1 hnar.2 (by simpa using hj) hd (fun H1 locs1 hP1 _ hS1 => ?_)
  rw [bt_rset, bt_fv_put P σ.1 hne, bt_wl_set P (σ := σ) (σ' := (ui σ.1 k i j x, σ.2)) hv (fun a b h => ui_ne h) (fun _ _ _ => rfl) (bt_ent0 P _ hs).symm] at hP1
  exact k1 p e R s m args below meth c0 cells slots Q hC H1 locs1 ls ⟨hD.1, bt_dr1 (bt_dr1 hD.2.1), hD.2.2.1, hP1, hS1⟩
theorem bt_s_getstatic {idx j : Nat} (hd : decode mi.2.1 pc = .ok (.getstatic idx, 3)) (hl : bt_lkG mi.1.cls idx j) (k1 : bt_Go P d mi K (pc + 3) L (vr (100 + j) 0 :: r) σ) : bt_Go P d mi K pc L r σ := by
  intro p e R s m args below meth c0 cells slots Q hC H locs ls hD
  obtain ⟨hx, hb, hml, hr, hlo, hown, hts, hK, hSF, hokP, hNW⟩ := id hC.1
  obtain ⟨hj, hlink⟩ := hl
  refine va_gets hx hb (hSF.1 j hj) hD.2.2.2.2 hown (hts _ hlink) (fun _ h => h) hd ?_
  have hz := k1 p e R s m args below meth c0 cells slots Q hC H locs ls (bt_Dy_s hD (bt_ok1 (Or.inr ⟨by show 100 ≤ 100 + j; omega, by show 100 + j < 104; omega⟩) hD.2.1))
  have e1 : bt_va P (vr (100 + j) 0) = .ref (bt_stA P j) := by
    show Value.ref (bt_adr P (100 + j, 0)) = _
    unfold bt_adr
    rw [if_pos (by show 100 ≤ 100 + j; omega)]
    rw [show (100 + j, 0).1 - 100 = j from by show 100 + j - 100 = j; omega]
  rw [← e1]
  exact hz
theorem bt_st_ok {k i : Nat} (h : bt_ok (k, i)) (hk : ¬ k < 100) : k - 100 < 4 := by
  rcases h with h | h
  · have h1 : i < bt_cnt k := h
    rw [bt_cnt_big k (by omega)] at h1; omega
  · have := h.2
    have : k < 104 := this
    omega
theorem bt_adr_st (P : bt_PT) {k i : Nat} (hk : ¬ k < 100) : bt_adr P (k, i) = bt_stA P (k - 100) := by
  unfold bt_adr; rw [if_pos (by show 100 ≤ k; omega)]
theorem bt_s_alen_st {k i : Nat} (hd : decode mi.2.1 pc = .ok (.arraylength, 1)) (hk : ¬ k < 100) (k1 : bt_Go P d mi K (pc + 1) L (vi (Int32.ofNat (bt_sn P (k - 100))) :: r) σ) : bt_Go P d mi K pc L (vr k i :: r) σ := by
  intro p e R s m args below meth c0 cells slots Q hC H locs ls hD
  obtain ⟨hx, hb, hml, hr, hlo, hown, hts, hK, hSF, hokP, hNW⟩ := id hC.1
  show W p (bt_l P) e R s m args below meth c0 H locs cells slots Q (F0 m pc ls (Value.ref (bt_adr P (k, i)) :: r.map (bt_va P)))
  rw [bt_adr_st P hk]
  exact va_tlen hx hb (hSF.2 (k - 100) (bt_st_ok (hD.2.1 _ List.mem_cons_self) hk)) hD.2.2.2.2 rfl hd (k1 p e R s m args below meth c0 cells slots Q hC H locs ls (bt_Dy_s hD (bt_ok1 (bt_oki _) (bt_dr1 hD.2.1))))
theorem bt_s_iald_st {k i : Nat} {j : Int32} (hd : decode mi.2.1 pc = .ok (.iaload, 1)) (hk : ¬ k < 100) (hin : vp_in j (bt_sn P (k - 100))) (k1 : bt_Go P d mi K (pc + 1) L (vi (bt_sv P (k - 100) (tn j)) :: r) σ) : bt_Go P d mi K pc L (vi j :: vr k i :: r) σ := by
  intro p e R s m args below meth c0 cells slots Q hC H locs ls hD
  obtain ⟨hx, hb, hml, hr, hlo, hown, hts, hK, hSF, hokP, hNW⟩ := id hC.1
  show W p (bt_l P) e R s m args below meth c0 H locs cells slots Q (F0 m pc ls (Value.int j :: Value.ref (bt_adr P (k, i)) :: r.map (bt_va P)))
  rw [bt_adr_st P hk]
  exact va_ti hx hb (hSF.2 (k - 100) (bt_st_ok (hD.2.1 _ (List.mem_cons_of_mem _ List.mem_cons_self)) hk)) hD.2.2.2.2 hin rfl hd (k1 p e R s m args below meth c0 cells slots Q hC H locs ls (bt_Dy_s hD (bt_ok1 (bt_oki _) (bt_dr1 (bt_dr1 hD.2.1)))))
theorem bt_s_iaload {k i n : Nat} {j : Int32} (hd : decode mi.2.1 pc = .ok (.iaload, 1)) (hk : k < 100) (hs : bt_shp k = (1, n)) (hin : vp_in j n) (k1 : bt_Go P d mi K (pc + 1) L (vi (σ.1 k i (tn j)) :: r) σ) : bt_Go P d mi K pc L (vi j :: vr k i :: r) σ := by
  intro p e R s m args below meth c0 cells slots Q hC H locs ls hD
  obtain ⟨hx, hb, hml, hr, hlo, hown, hts, hK, hSF, hokP, hNW⟩ := id hC.1
  have hv := bt_valid (hD.2.1 _ (List.mem_cons_of_mem _ List.mem_cons_self)) hk
  have he := bt_wl_at P σ hv
  rw [bt_ent1 P σ hs] at he
  show W p (bt_l P) e R s m args below meth c0 H locs cells slots Q (F0 m pc ls (Value.int j :: Value.ref (bt_adr P (k, i)) :: r.map (bt_va P)))
  rw [bt_adr_lt P hk]
  exact va_iald hx hb hK hD.2.2.2.1 _ 0 he rfl hin hd (k1 p e R s m args below meth c0 cells slots Q hC H locs ls (bt_Dy_s hD (bt_ok1 trivial (bt_dr1 (bt_dr1 hD.2.1)))))
theorem bt_s_laload {k i n : Nat} {j : Int32} (hd : decode mi.2.1 pc = .ok (.laload, 1)) (hk : k < 100) (hs : bt_shp k = (2, n)) (hin : vp_in j n) (k1 : bt_Go P d mi K (pc + 1) L (vl (σ.2 k i (tn j)) :: r) σ) : bt_Go P d mi K pc L (vi j :: vr k i :: r) σ := by
  intro p e R s m args below meth c0 cells slots Q hC H locs ls hD
  obtain ⟨hx, hb, hml, hr, hlo, hown, hts, hK, hSF, hokP, hNW⟩ := id hC.1
  have hv := bt_valid (hD.2.1 _ (List.mem_cons_of_mem _ List.mem_cons_self)) hk
  have he := bt_wl_at P σ hv
  rw [bt_ent2 P σ hs] at he
  show W p (bt_l P) e R s m args below meth c0 H locs cells slots Q (F0 m pc ls (Value.int j :: Value.ref (bt_adr P (k, i)) :: r.map (bt_va P)))
  rw [bt_adr_lt P hk]
  exact va_lald hx hb hK hD.2.2.2.1 _ 1 he rfl hin hd (k1 p e R s m args below meth c0 cells slots Q hC H locs ls (bt_Dy_s hD (bt_ok1 trivial (bt_dr1 (bt_dr1 hD.2.1)))))
theorem bt_s_baload {k i n : Nat} {j : Int32} (hd : decode mi.2.1 pc = .ok (.baload, 1)) (hk : k < 100) (hs : bt_shp k = (3, n)) (hin : vp_in j n) (k1 : bt_Go P d mi K (pc + 1) L (vi (σ.1 k i (tn j)) :: r) σ) : bt_Go P d mi K pc L (vi j :: vr k i :: r) σ := by
  intro p e R s m args below meth c0 cells slots Q hC H locs ls hD
  obtain ⟨hx, hb, hml, hr, hlo, hown, hts, hK, hSF, hokP, hNW⟩ := id hC.1
  have hv := bt_valid (hD.2.1 _ (List.mem_cons_of_mem _ List.mem_cons_self)) hk
  have he := bt_wl_at P σ hv
  rw [bt_ent3 P σ hs] at he
  show W p (bt_l P) e R s m args below meth c0 H locs cells slots Q (F0 m pc ls (Value.int j :: Value.ref (bt_adr P (k, i)) :: r.map (bt_va P)))
  rw [bt_adr_lt P hk]
  exact va_bald hx hb hK hD.2.2.2.1 _ 2 he rfl hin hd (k1 p e R s m args below meth c0 cells slots Q hC H locs ls (bt_Dy_s hD (bt_ok1 trivial (bt_dr1 (bt_dr1 hD.2.1)))))
theorem bt_s_saload {k i n : Nat} {j : Int32} (hd : decode mi.2.1 pc = .ok (.saload, 1)) (hk : k < 100) (hs : bt_shp k = (4, n)) (hin : vp_in j n) (k1 : bt_Go P d mi K (pc + 1) L (vi (σ.1 k i (tn j)) :: r) σ) : bt_Go P d mi K pc L (vi j :: vr k i :: r) σ := by
  intro p e R s m args below meth c0 cells slots Q hC H locs ls hD
  obtain ⟨hx, hb, hml, hr, hlo, hown, hts, hK, hSF, hokP, hNW⟩ := id hC.1
  have hv := bt_valid (hD.2.1 _ (List.mem_cons_of_mem _ List.mem_cons_self)) hk
  have he := bt_wl_at P σ hv
  rw [bt_ent4 P σ hs] at he
  show W p (bt_l P) e R s m args below meth c0 H locs cells slots Q (F0 m pc ls (Value.int j :: Value.ref (bt_adr P (k, i)) :: r.map (bt_va P)))
  rw [bt_adr_lt P hk]
  exact va_sald hx hb hK hD.2.2.2.1 _ 3 he rfl hin hd (k1 p e R s m args below meth c0 cells slots Q hC H locs ls (bt_Dy_s hD (bt_ok1 trivial (bt_dr1 (bt_dr1 hD.2.1)))))
theorem bt_s_iastore {k i n : Nat} {j : Int32} {v : Int32} (hd : decode mi.2.1 pc = .ok (.iastore, 1)) (hk : k < 100) (hs : bt_shp k = (1, n)) (hin : vp_in j n) (k1 : bt_Go P d mi K (pc + 1) L r (ui σ.1 k i (tn j) v, σ.2)) : bt_Go P d mi K pc L (vi v :: vi j :: vr k i :: r) σ := by
  intro p e R s m args below meth c0 cells slots Q hC H locs ls hD
  obtain ⟨hx, hb, hml, hr, hlo, hown, hts, hK, hSF, hokP, hNW⟩ := id hC.1
  have hv := bt_valid (hD.2.1 _ (List.mem_cons_of_mem _ (List.mem_cons_of_mem _ List.mem_cons_self))) hk
  have he := bt_wl_at P σ hv
  rw [bt_ent1 P σ hs] at he
  show W p (bt_l P) e R s m args below meth c0 H locs cells slots Q (F0 m pc ls (Value.int v :: Value.int j :: Value.ref (bt_adr P (k, i)) :: r.map (bt_va P)))
  rw [bt_adr_lt P hk]
  refine va_iast hx hb hK hD.2.2.2.1 (bt_D_of hokP σ) hD.2.2.2.2 _ 0 he rfl hin hd (fun H1 locs1 hP1 _ hS1 => ?_)
  rw [bt_wl_set P (σ := σ) (σ' := (ui σ.1 k i (tn j) v, σ.2)) hv (fun a b h => ui_ne h) (fun _ _ _ => rfl) (by rw [bt_ent1 P _ hs]; dsimp only; rw [ui_row])] at hP1
  exact k1 p e R s m args below meth c0 cells slots Q hC H1 locs1 ls ⟨hD.1, bt_dr1 (bt_dr1 (bt_dr1 hD.2.1)), hD.2.2.1, hP1, hS1⟩
theorem bt_s_bastore {k i n : Nat} {j : Int32} {v : Int32} (hd : decode mi.2.1 pc = .ok (.bastore, 1)) (hk : k < 100) (hs : bt_shp k = (3, n)) (hin : vp_in j n) (k1 : bt_Go P d mi K (pc + 1) L r (ui σ.1 k i (tn j) (v.toInt8.toInt32), σ.2)) : bt_Go P d mi K pc L (vi v :: vi j :: vr k i :: r) σ := by
  intro p e R s m args below meth c0 cells slots Q hC H locs ls hD
  obtain ⟨hx, hb, hml, hr, hlo, hown, hts, hK, hSF, hokP, hNW⟩ := id hC.1
  have hv := bt_valid (hD.2.1 _ (List.mem_cons_of_mem _ (List.mem_cons_of_mem _ List.mem_cons_self))) hk
  have he := bt_wl_at P σ hv
  rw [bt_ent3 P σ hs] at he
  show W p (bt_l P) e R s m args below meth c0 H locs cells slots Q (F0 m pc ls (Value.int v :: Value.int j :: Value.ref (bt_adr P (k, i)) :: r.map (bt_va P)))
  rw [bt_adr_lt P hk]
  refine va_bast hx hb hK hD.2.2.2.1 (bt_D_of hokP σ) hD.2.2.2.2 _ 2 he rfl hin hd (fun H1 locs1 hP1 _ hS1 => ?_)
  rw [vp_nar_byte] at hP1
  rw [bt_wl_set P (σ := σ) (σ' := (ui σ.1 k i (tn j) (v.toInt8.toInt32), σ.2)) hv (fun a b h => ui_ne h) (fun _ _ _ => rfl) (by rw [bt_ent3 P _ hs]; dsimp only; rw [ui_row])] at hP1
  exact k1 p e R s m args below meth c0 cells slots Q hC H1 locs1 ls ⟨hD.1, bt_dr1 (bt_dr1 (bt_dr1 hD.2.1)), hD.2.2.1, hP1, hS1⟩
theorem bt_s_sastore {k i n : Nat} {j : Int32} {v : Int32} (hd : decode mi.2.1 pc = .ok (.sastore, 1)) (hk : k < 100) (hs : bt_shp k = (4, n)) (hin : vp_in j n) (k1 : bt_Go P d mi K (pc + 1) L r (ui σ.1 k i (tn j) (v.toInt16.toInt32), σ.2)) : bt_Go P d mi K pc L (vi v :: vi j :: vr k i :: r) σ := by
  intro p e R s m args below meth c0 cells slots Q hC H locs ls hD
  obtain ⟨hx, hb, hml, hr, hlo, hown, hts, hK, hSF, hokP, hNW⟩ := id hC.1
  have hv := bt_valid (hD.2.1 _ (List.mem_cons_of_mem _ (List.mem_cons_of_mem _ List.mem_cons_self))) hk
  have he := bt_wl_at P σ hv
  rw [bt_ent4 P σ hs] at he
  show W p (bt_l P) e R s m args below meth c0 H locs cells slots Q (F0 m pc ls (Value.int v :: Value.int j :: Value.ref (bt_adr P (k, i)) :: r.map (bt_va P)))
  rw [bt_adr_lt P hk]
  refine va_sast hx hb hK hD.2.2.2.1 (bt_D_of hokP σ) hD.2.2.2.2 _ 3 he rfl hin hd (fun H1 locs1 hP1 _ hS1 => ?_)
  rw [vp_nar_short] at hP1
  rw [bt_wl_set P (σ := σ) (σ' := (ui σ.1 k i (tn j) (v.toInt16.toInt32), σ.2)) hv (fun a b h => ui_ne h) (fun _ _ _ => rfl) (by rw [bt_ent4 P _ hs]; dsimp only; rw [ui_row])] at hP1
  exact k1 p e R s m args below meth c0 cells slots Q hC H1 locs1 ls ⟨hD.1, bt_dr1 (bt_dr1 (bt_dr1 hD.2.1)), hD.2.2.1, hP1, hS1⟩
theorem bt_s_lastore {k i n : Nat} {j : Int32} {v : Int64} (hd : decode mi.2.1 pc = .ok (.lastore, 1)) (hk : k < 100) (hs : bt_shp k = (2, n)) (hin : vp_in j n) (k1 : bt_Go P d mi K (pc + 1) L r (σ.1, ul σ.2 k i (tn j) v)) : bt_Go P d mi K pc L (vl v :: vi j :: vr k i :: r) σ := by
  intro p e R s m args below meth c0 cells slots Q hC H locs ls hD
  obtain ⟨hx, hb, hml, hr, hlo, hown, hts, hK, hSF, hokP, hNW⟩ := id hC.1
  have hv := bt_valid (hD.2.1 _ (List.mem_cons_of_mem _ (List.mem_cons_of_mem _ List.mem_cons_self))) hk
  have he := bt_wl_at P σ hv
  rw [bt_ent2 P σ hs] at he
  show W p (bt_l P) e R s m args below meth c0 H locs cells slots Q (F0 m pc ls (Value.long v :: Value.int j :: Value.ref (bt_adr P (k, i)) :: r.map (bt_va P)))
  rw [bt_adr_lt P hk]
  refine va_last hx hb hK hD.2.2.2.1 (bt_D_of hokP σ) hD.2.2.2.2 _ 1 he rfl hin hd (fun H1 locs1 hP1 _ hS1 => ?_)
  rw [bt_wl_set P (σ := σ) (σ' := (σ.1, ul σ.2 k i (tn j) v)) hv (fun _ _ _ => rfl) (fun a b h => ul_ne h) (by rw [bt_ent2 P _ hs]; dsimp only; rw [ul_row])] at hP1
  exact k1 p e R s m args below meth c0 cells slots Q hC H1 locs1 ls ⟨hD.1, bt_dr1 (bt_dr1 (bt_dr1 hD.2.1)), hD.2.2.1, hP1, hS1⟩
theorem bt_s_aaload {k i : Nat} {j : Int32} (hd : decode mi.2.1 pc = .ok (.aaload, 1)) (hk : k < 100) (hs : (bt_shp k).1 = 5 ∨ (bt_shp k).1 = 6) (hin : vp_in j (bt_shp k).2) (k1 : bt_Go P d mi K (pc + 1) L (.inr (.inr (bt_RF k i (tn j))) :: r) σ) : bt_Go P d mi K pc L (vi j :: vr k i :: r) σ := by
  intro p e R s m args below meth c0 cells slots Q hC H locs ls hD
  obtain ⟨hx, hb, hml, hr, hlo, hown, hts, hK, hSF, hokP, hNW⟩ := id hC.1
  have hv := bt_valid (hD.2.1 _ (List.mem_cons_of_mem _ List.mem_cons_self)) hk
  have he := bt_wl_at P σ hv
  have hlt : tn j < (bt_shp k).2 := Nat.not_le.mp fun q => hin (Or.inr q)
  have hz := k1 p e R s m args below meth c0 cells slots Q hC H locs ls (bt_Dy_s hD (bt_ok1 (bt_RF_val hv (by rw [if_neg (by rcases hs with h | h <;> rw [h] <;> decide)]; exact hlt)) (bt_dr1 (bt_dr1 hD.2.1))))
  show W p (bt_l P) e R s m args below meth c0 H locs cells slots Q (F0 m pc ls (Value.int j :: Value.ref (bt_adr P (k, i)) :: r.map (bt_va P)))
  rw [bt_adr_lt P hk]
  have hz : W p (bt_l P) e R s m args below meth c0 H locs cells slots Q (F0 m (pc + 1) ls (va_rf ((bt_RF k i (tn j)).map (bt_adr P)) :: r.map (bt_va P))) := by rw [bt_va_rf]; exact hz
  rcases hs with hs | hs
  · rw [bt_ent5 P σ (bt_shp_eq hs)] at he
    exact W.aald (v := va_rf ((bt_RF k i (tn j)).map (bt_adr P))) (ty := .array .int) hx hb (hD.2.2.2.1 _ _ he) ((hK.2 4 (bt_dA P 4, .array .int) rfl).1 (bt_shp k).2 (fun j => va_rf ((bt_RF k i j).map (bt_adr P)))) rfl (fun q => by cases q) (by show ¬ (j < 0 ∨ (arrV _ _ _).slots.size ≤ _); rw [arrV_size]; exact hin) (by show (arrV _ _ _).slots[_]? = _; rw [arrV_read _ _ hlt]) rfl rfl hd hz
  · rw [bt_ent6 P σ (bt_shp_eq hs)] at he
    exact va_aldq (C := "BellTrees$Shelf") hx hb hK hD.2.2.2.1 _ 5 he rfl hin hd hz
theorem bt_s_alen {k i : Nat} (hd : decode mi.2.1 pc = .ok (.arraylength, 1)) (hk : k < 100) (hs : ¬ (bt_shp k).1 = 0) (k1 : bt_Go P d mi K (pc + 1) L (vi (Int32.ofNat (bt_shp k).2) :: r) σ) : bt_Go P d mi K pc L (vr k i :: r) σ := by
  intro p e R s m args below meth c0 cells slots Q hC H locs ls hD
  obtain ⟨hx, hb, hml, hr, hlo, hown, hts, hK, hSF, hokP, hNW⟩ := id hC.1
  have hv := bt_valid (hD.2.1 _ List.mem_cons_self) hk
  have he := bt_wl_at P σ hv
  have hz := k1 p e R s m args below meth c0 cells slots Q hC H locs ls (bt_Dy_s hD (bt_ok1 (bt_oki _) (bt_dr1 hD.2.1)))
  show W p (bt_l P) e R s m args below meth c0 H locs cells slots Q (F0 m pc ls (Value.ref (bt_adr P (k, i)) :: r.map (bt_va P)))
  rw [bt_adr_lt P hk]
  have hsh : (bt_shp k).1 = 1 ∨ (bt_shp k).1 = 2 ∨ (bt_shp k).1 = 3 ∨ (bt_shp k).1 = 4 ∨ (bt_shp k).1 = 5 ∨ (bt_shp k).1 = 6 := by
    have h : ∀ k, k < 70 → (bt_shp k).1 = 0 ∨ (bt_shp k).1 = 1 ∨ (bt_shp k).1 = 2 ∨ (bt_shp k).1 = 3 ∨ (bt_shp k).1 = 4 ∨ (bt_shp k).1 = 5 ∨ (bt_shp k).1 = 6 := by decide +kernel
    rcases h k hv.2 with q | q
    · exact absurd q hs
    · exact q
  rcases hsh with h | h | h | h | h | h
  · rw [bt_ent1 P σ (bt_shp_eq h)] at he
    exact va_alen hx hb hK hD.2.2.2.1 _ 0 he (ty := .int) rfl rfl hd hz
  · rw [bt_ent2 P σ (bt_shp_eq h)] at he
    exact va_alen hx hb hK hD.2.2.2.1 _ 1 he (ty := .long) rfl rfl hd hz
  · rw [bt_ent3 P σ (bt_shp_eq h)] at he
    exact va_alen hx hb hK hD.2.2.2.1 _ 2 he (ty := .byte) rfl rfl hd hz
  · rw [bt_ent4 P σ (bt_shp_eq h)] at he
    exact va_alen hx hb hK hD.2.2.2.1 _ 3 he (ty := .short) rfl rfl hd hz
  · rw [bt_ent5 P σ (bt_shp_eq h)] at he
    exact va_alen hx hb hK hD.2.2.2.1 _ 4 he (ty := .array .int) rfl rfl hd hz
  · rw [bt_ent6 P σ (bt_shp_eq h)] at he
    exact va_alen hx hb hK hD.2.2.2.1 _ 5 he (ty := .object "BellTrees$Shelf") rfl rfl hd hz
theorem bt_s_cpyi {idx k1 i1 k2 i2 n1 n2 : Nat} {sp dp n : Int32} (hd : decode mi.2.1 pc = .ok (.invokestatic idx, 3)) (hl : bt_lkC mi.1.cls idx) (hk1 : k1 < 100) (hk2 : k2 < 100) (hs1 : bt_shp k1 = (1, n1)) (hs2 : bt_shp k2 = (1, n2)) (hw : bt_words r ≤ 8) (h1 : ¬ sp < 0) (h2 : ¬ dp < 0) (h3 : ¬ n < 0) (h4 : tn sp + tn n ≤ n1) (h5 : tn dp + tn n ≤ n2) (k0 : bt_Go P d mi K (pc + 3) L r (uc σ.1 k2 i2 (va_cpy (σ.1 k1 i1) (σ.1 k2 i2) (tn sp) (tn dp) (tn n)), σ.2)) : bt_Go P d mi K pc L (vi n :: vi dp :: vr k2 i2 :: vi sp :: vr k1 i1 :: r) σ := by
  intro p e R s m args below meth c0 cells slots Q hC H locs ls hD
  obtain ⟨hx, hb, hml, hr, hlo, hown, hts, hK, hSF, hokP, hNW⟩ := id hC.1
  obtain ⟨l1, l2, l3, l4⟩ := hl
  have hv1 := bt_valid (hD.2.1 _ (List.mem_cons_of_mem _ (List.mem_cons_of_mem _ (List.mem_cons_of_mem _ (List.mem_cons_of_mem _ List.mem_cons_self))))) hk1
  have hv2 := bt_valid (hD.2.1 _ (List.mem_cons_of_mem _ (List.mem_cons_of_mem _ List.mem_cons_self))) hk2
  have he1 := bt_wl_at P σ hv1
  have he2 := bt_wl_at P σ hv2
  rw [bt_ent1 P σ hs1] at he1
  rw [bt_ent1 P σ hs2] at he2
  show W p (bt_l P) e R s m args below meth c0 H locs cells slots Q (F0 m pc ls (Value.int n :: Value.int dp :: Value.ref (bt_adr P (k2, i2)) :: Value.int sp :: Value.ref (bt_adr P (k1, i1)) :: r.map (bt_va P)))
  rw [bt_adr_lt P hk1, bt_adr_lt P hk2]
  have hwd : ∀ q : List av_T, ((q.map (bt_va P)).map fun v => v.category).sum = bt_words q := by
    intro q
    induction q with
    | nil => rfl
    | cons a q ih => simp only [List.map_cons, List.sum_cons, bt_words, bt_cat_va, ih]
  refine va_copyi hx hb (hml.trans hD.1.1.symm) hown (hts _ l1) (hts _ l2) (hts _ l3) (hts _ l4) hK hD.2.2.2.1 (bt_D_of hokP σ) hD.2.2.2.2 _ _ 0 0 he1 he2 rfl rfl rfl h1 h2 h3 h4 h5 (fun _ _ => rfl) (Nat.le_trans (Nat.succ_le_succ (Nat.zero_le d)) hC.2.1) ?_ hd (fun H1 locs1 hP1 _ hS1 => ?_)
  · have h6 := hC.2.2.1
    rw [hwd r]
    have h7 : nativeFrameWords "java/lang/System" "arraycopy" 5 ≤ 20 := by decide +kernel
    omega
  · rw [bt_wl_set P (σ := σ) (σ' := (uc σ.1 k2 i2 (va_cpy (σ.1 k1 i1) (σ.1 k2 i2) (tn sp) (tn dp) (tn n)), σ.2)) hv2 (fun a b h => uc_ne h) (fun _ _ _ => rfl) (by rw [bt_ent1 P _ hs2]; dsimp only; rw [uc_row])] at hP1
    exact k0 p e R s m args below meth c0 cells slots Q hC H1 locs1 ls ⟨hD.1, bt_dr1 (bt_dr1 (bt_dr1 (bt_dr1 (bt_dr1 hD.2.1)))), hD.2.2.1, hP1, hS1⟩
theorem bt_s_cpyl {idx k1 i1 k2 i2 n1 n2 : Nat} {sp dp n : Int32} (hd : decode mi.2.1 pc = .ok (.invokestatic idx, 3)) (hl : bt_lkC mi.1.cls idx) (hk1 : k1 < 100) (hk2 : k2 < 100) (hs1 : bt_shp k1 = (2, n1)) (hs2 : bt_shp k2 = (2, n2)) (hw : bt_words r ≤ 8) (h1 : ¬ sp < 0) (h2 : ¬ dp < 0) (h3 : ¬ n < 0) (h4 : tn sp + tn n ≤ n1) (h5 : tn dp + tn n ≤ n2) (k0 : bt_Go P d mi K (pc + 3) L r (σ.1, ud σ.2 k2 i2 (va_cpy (σ.2 k1 i1) (σ.2 k2 i2) (tn sp) (tn dp) (tn n)))) : bt_Go P d mi K pc L (vi n :: vi dp :: vr k2 i2 :: vi sp :: vr k1 i1 :: r) σ := by
  intro p e R s m args below meth c0 cells slots Q hC H locs ls hD
  obtain ⟨hx, hb, hml, hr, hlo, hown, hts, hK, hSF, hokP, hNW⟩ := id hC.1
  obtain ⟨l1, l2, l3, l4⟩ := hl
  have hv1 := bt_valid (hD.2.1 _ (List.mem_cons_of_mem _ (List.mem_cons_of_mem _ (List.mem_cons_of_mem _ (List.mem_cons_of_mem _ List.mem_cons_self))))) hk1
  have hv2 := bt_valid (hD.2.1 _ (List.mem_cons_of_mem _ (List.mem_cons_of_mem _ List.mem_cons_self))) hk2
  have he1 := bt_wl_at P σ hv1
  have he2 := bt_wl_at P σ hv2
  rw [bt_ent2 P σ hs1] at he1
  rw [bt_ent2 P σ hs2] at he2
  show W p (bt_l P) e R s m args below meth c0 H locs cells slots Q (F0 m pc ls (Value.int n :: Value.int dp :: Value.ref (bt_adr P (k2, i2)) :: Value.int sp :: Value.ref (bt_adr P (k1, i1)) :: r.map (bt_va P)))
  rw [bt_adr_lt P hk1, bt_adr_lt P hk2]
  have hwd : ∀ q : List av_T, ((q.map (bt_va P)).map fun v => v.category).sum = bt_words q := by
    intro q
    induction q with
    | nil => rfl
    | cons a q ih => simp only [List.map_cons, List.sum_cons, bt_words, bt_cat_va, ih]
  refine va_copyl hx hb (hml.trans hD.1.1.symm) hown (hts _ l1) (hts _ l2) (hts _ l3) (hts _ l4) hK hD.2.2.2.1 (bt_D_of hokP σ) hD.2.2.2.2 _ _ 1 1 he1 he2 rfl rfl rfl h1 h2 h3 h4 h5 (fun _ _ => rfl) (Nat.le_trans (Nat.succ_le_succ (Nat.zero_le d)) hC.2.1) ?_ hd (fun H1 locs1 hP1 _ hS1 => ?_)
  · have h6 := hC.2.2.1
    rw [hwd r]
    have h7 : nativeFrameWords "java/lang/System" "arraycopy" 5 ≤ 20 := by decide +kernel
    omega
  · rw [bt_wl_set P (σ := σ) (σ' := (σ.1, ud σ.2 k2 i2 (va_cpy (σ.2 k1 i1) (σ.2 k2 i2) (tn sp) (tn dp) (tn n)))) hv2 (fun _ _ _ => rfl) (fun a b h => ud_ne h) (by rw [bt_ent2 P _ hs2]; dsimp only; rw [ud_row])] at hP1
    exact k0 p e R s m args below meth c0 cells slots Q hC H1 locs1 ls ⟨hD.1, bt_dr1 (bt_dr1 (bt_dr1 (bt_dr1 (bt_dr1 hD.2.1)))), hD.2.2.1, hP1, hS1⟩
end BTH
end
section
/-! THE ABSTRACT MACHINE IS SOUND, 4: calls, ends, switches; all instructions; a method's contract -/
theorem bt_SF_moved {P : bt_PT} {u U : State} {H : Heap} (hvm : u.vm.Alike U.vm) (h : bt_SF P u H) : bt_SF P U H := ⟨fun j hj => va_Z.moved hvm (h.1 j hj), fun j hj => va_T.moved hvm (h.2 j hj)⟩
theorem bt_SF_kept {P : bt_PT} {U : State} {H H1 : Heap} (h : bt_SF P U H) (hq : ∀ a : Nat, a < H.size → ¬ bt_A P a → H1[a]? = H[a]?) : bt_SF P U H1 := ⟨fun j hj => (h.1 j hj).kept hq, fun j hj => (h.2 j hj).kept hq⟩
theorem bt_NW_warm {s U : State} (hW : s.WarmedH U.vm) (h : bt_NW s) : bt_NW U := fun q hq => va_Nw.warmM hW (h q hq)
theorem bt_goodM {mi : bt_MI} {n : Nat} (h : bt_lkM mi n) : GoodIn bt_gw (Cond.code mi.1 mi.2.1 mi.2.2.1 mi.2.2.2 :: bt_gw) := fun w hw => by
  rcases List.mem_cons.mp hw with rfl | hw
  · exact ⟨h.1, bt_gw_good _ h.1⟩
  · exact ⟨hw, bt_gw_good _ hw⟩
theorem bt_blind (P : bt_PT) (as : List av_T) (σ : st_T) : FrameBlind (bt_Pc P as σ) := fun a U g mk h => by
  obtain ⟨h1, h2, h3, h4, h5, h6, h7⟩ := h
  exact ⟨h1, h2, h3, va_K.moved (u := U) (U := U.calling g mk a) (Vm.Alike.refl U.vm) h4, bt_SF_moved (u := U) (U := U.calling g mk a) (Vm.Alike.refl U.vm) h5, h6, fun q hq => va_Nw.same rfl (show U.vm = (U.calling g mk a).vm from rfl) (h7 q hq)⟩
section BTC
variable {p : Program} {l : Launch} {e : Env} {R : Room} {s : State} {m : MethodId} {args : Array Value} {below : List Frame} {meth : Method} {c : Code} {H : Heap} {locs : List Loc} {cells slots : Nat} {Q : State → Prop}
theorem bt_cont {P : bt_PT} {K : Option av_T → st_T → Prop} {a : Array Value} {rest st0 : List Value} {pc : Nat} {ls : Array Slot} (hr : va_Run p l e R s m args below meth c H locs cells slots 0 0 (F0 m pc ls st0) rest (bt_Qc P K a) (bt_A P)) (hS : va_S (bt_A P) s.heap H locs)
    (kk : ∀ (r : Option av_T) (σ : st_T) (H1 : Heap) (locs1 : List Loc), K r σ → (∀ v, r = some v → bt_okv v) → va_P (bt_D P) bt_cl (bt_wl P σ) H1 → va_S (bt_A P) s.heap H1 locs1 → W p l e R s m args below meth c H1 locs1 cells slots Q (F0 m (pc + 3) ls (r.toList.map (bt_va P) ++ rest))) : W p l e R s m args below meth c H locs cells slots Q (F0 m pc ls st0) := by
  intro T hT X
  obtain ⟨v, st₀, t, T', L, h0, X', hL, e1, e2, ⟨⟨r, σ, hv, hp, ho, hb⟩, hz, hk⟩, st⟩ := hr T hT X
  cases hv
  rw [h0] at hz hk
  have hb' : va_P (bt_D P) bt_cl (bt_wl P σ) T'.heap := by rw [e1]; exact hb
  obtain ⟨t2, a1, b1⟩ := kk r σ T'.heap (locs ++ L) hp ho hb'
    ⟨Nat.le_trans hS.1 (by rw [e1]; exact hz), fun q h1 h2 => by rw [e1, hk q (Nat.lt_of_lt_of_le h1 hS.1) h2]; exact hS.2.1 q h1 h2, fun q hq => by
      rcases List.mem_append.mp hq with h | h
      · exact hS.2.2 q h
      · exact hL q h⟩ T' rfl X'
  refine ⟨t2, st t2 ?_, b1⟩
  have e3 : (r.map (bt_va P)).toList ++ rest = r.toList.map (bt_va P) ++ rest := by cases r <;> rfl
  rw [e3]
  exact a1
end BTC
theorem bt_kc_inv {ret : Option FieldType} {Nx : List av_T → st_T → Prop} {r : Option av_T} {σ : st_T} (h : bt_kc ret Nx r σ) : Nx r.toList σ := by
  unfold bt_kc at h
  split at h <;> rcases r with _ | (x | x | x) <;> first | exact h.elim | exact h
theorem bt_sumw (P : bt_PT) : ∀ q : List av_T, ((q.map (bt_va P)).map fun v => v.category).sum = bt_words q
  | [] => rfl
  | a :: q => by simp only [List.map_cons, List.sum_cons, bt_words, bt_cat_va, bt_sumw P q]
section BTD
variable {P : bt_PT} {d : Nat} {mi : bt_MI} {K : Option av_T → st_T → Prop} {pc : Nat} {L : List (Option av_T)} {r : List av_T} {σ : st_T}
theorem bt_ok_at {a b r : List av_T} (h : ∀ v ∈ a ++ b ++ r, bt_okv v) : ∀ v ∈ r, bt_okv v := fun v hv => h v (List.mem_append_right _ hv)
theorem bt_Pc_now {p : Program} {s : State} {m : MethodId} {args : Array Value} {meth : Method} {c : Code} {H : Heap} {locs : List Loc} {as : List av_T} (hC : bt_Cx P mi p s m args meth c) (hP : va_P (bt_D P) bt_cl (bt_wl P σ) H) (hS : va_S (bt_A P) s.heap H locs) (ho : ∀ v ∈ as, bt_okv v) {U : State} (hU : U.heap = H) (hW : s.WarmedH U.vm) : bt_Pc P as σ (as.map (bt_va P)).toArray U := by
  obtain ⟨hx, hb, hml, hr, hlo, hown, hts, hK, hSF, hokP, hNW⟩ := hC
  subst hU
  exact ⟨rfl, ho, hP, va_K.moved hW.alike hK, bt_SF_moved hW.alike (bt_SF_kept hSF (fun a h1 h2 => hS.2.1 a h1 h2)), hokP, bt_NW_warm hW hNW⟩
/-- a virtual call: receiver (k, i), arguments as (the last on top) -/
theorem bt_s_callV {idx n c k i : Nat} {cm : bt_MI} {as : List av_T} {Nx : List av_T → st_T → Prop} (hd : decode mi.2.1 pc = .ok (.invokevirtual idx, 3)) (hl : bt_lkV mi.1.cls idx cm n c) (hn : (vr k i :: as).length = n) (hw : bt_words r ≤ 8) (hk : k < 100) (hs : bt_shp k = (0, c))
    (hWP : bt_WP P d cm (vr k i :: as) σ (bt_kc cm.2.2.2 Nx)) (hN : ∀ v σ', Nx v σ' → (∀ w ∈ v, bt_okv w) → bt_Go P d mi K (pc + 3) L (v ++ r) σ') : bt_Go P d mi K pc L ((vr k i :: as).reverse ++ r) σ := by
  intro p e R s m args below meth c0 cells slots Q hC H locs ls hD
  obtain ⟨hx, hb, hml, hr, hlo, hown, hts, hK, hSF, hokP, hNW⟩ := id hC.1
  obtain ⟨⟨n1, T, N, en, hc, hM⟩, l1, l2, l3⟩ := hl
  have hoS := hD.2.1
  have hoR : ∀ v ∈ r, bt_okv v := fun v hv => hoS v (List.mem_append_right _ hv)
  have hoA : ∀ v ∈ vr k i :: as, bt_okv v := fun v hv => hoS v (List.mem_append_left _ (List.mem_reverse.mpr hv))
  have hv := bt_valid (hoA _ List.mem_cons_self) hk
  have he := bt_wl_at P σ hv
  rw [bt_ent0 P σ hs] at he
  have hlen : (as.map (bt_va P)).length = n1 := by
    rw [List.length_map]
    have : as.length + 1 = n := hn
    omega
  have hgood : GoodIn bt_gw (wsV mi.1.cls idx cm.1.cls cm.1 (Cond.code cm.1 cm.2.1 cm.2.2.1 cm.2.2.2 :: bt_gw)) := fun w hw => by
    unfold wsV at hw
    rcases List.mem_append.mp hw with h | h
    · have hin : w ∈ bt_gw := by
        simp only [List.mem_cons, List.not_mem_nil, or_false] at h
        rcases h with rfl | rfl | rfl | rfl
        · exact l1
        · exact l2
        · exact l3
        · exact hM.2.1
      exact ⟨hin, bt_gw_good _ hin⟩
    · exact bt_goodM hM w h
  have hfr := hC.2.1
  have hlc := hC.2.2.1
  have hmx := hM.2.2.2
  have hrun := va_runV (l := bt_l P) (R := R) (s := s) (e := e) (args := args) (below := below) (meth := meth) (c := c0) (H := H) (locs := locs) (cells := cells) (slots := slots) (p := p) (m := m) (b := bt_ad P k i) (As := as.map (bt_va P)) (rest := r.map (bt_va P)) (g := F0 m pc ls (((vr k i :: as).reverse ++ r).map (bt_va P))) (Ts := bt_gw) (own := mi.1.cls) (nL := mi.2.2.1) ⟨hx, hb, hml, hown, hts⟩ hWP
    (cwV n1 hts hgood rfl rfl rfl ⟨rfl, hM.2.2.1⟩ ⟨by show d + 1 ≤ R.frames; exact hfr, by show 8 + (cm.2.2.1 + 11) + 40 * d ≤ R.locals; omega⟩)
    ⟨bt_blind P _ σ, va_recv hK hD.2.2.2.1 hc he, fun U hU hW => by
      have h := bt_Pc_now (σ := σ) hC.1 hD.2.2.2.1 hD.2.2.2.2 hoA hU hW
      have e1 : ((vr k i :: as).map (bt_va P)).toArray = (Value.ref (bt_ad P k i) :: as.map (bt_va P)).toArray := by
        show (Value.ref (bt_adr P (k, i)) :: as.map (bt_va P)).toArray = _
        rw [bt_adr_lt P hk]
      rw [e1] at h
      exact h⟩ rfl hlen hD.1.1
    (by show ((vr k i :: as).reverse ++ r).map (bt_va P) = _
        rw [List.map_append, List.reverse_cons, List.map_append, List.append_assoc, List.map_reverse]
        show _ ++ ([Value.ref (bt_adr P (k, i))] ++ _) = _
        rw [bt_adr_lt P hk]; rfl)
    (lv_room (by rw [bt_sumw]; exact hw)) hd ⟨by rw [Nat.add_zero]; exact hC.2.2.2.1.1, by rw [Nat.add_zero]; exact hC.2.2.2.1.2⟩
  refine bt_cont hrun hD.2.2.2.2 (fun r0 σ' H1 locs1 hK1 ho1 hP1 hS1 => ?_)
  have hNx := bt_kc_inv hK1
  have hov : ∀ w ∈ r0.toList, bt_okv w := fun w hw => ho1 w (by cases r0 with | none => cases hw | some z => rw [List.mem_singleton.mp hw])
  have hgo := hN _ _ hNx hov p e R s m args below meth c0 cells slots Q hC H1 locs1 ls ⟨hD.1, fun v hv => (List.mem_append.mp hv).elim (hov v) (hoR v), hD.2.2.1, hP1, hS1⟩
  rw [List.map_append] at hgo
  exact hgo
/-- a static call -/
theorem bt_s_callS {idx n : Nat} {cm : bt_MI} {as : List av_T} {Nx : List av_T → st_T → Prop} (hd : decode mi.2.1 pc = .ok (.invokestatic idx, 3)) (hl : bt_lkS mi.1.cls idx cm n) (hn : as.length = n) (hw : bt_words r ≤ 8)
    (hWP : bt_WP P d cm as σ (bt_kc cm.2.2.2 Nx)) (hN : ∀ v σ', Nx v σ' → (∀ w ∈ v, bt_okv w) → bt_Go P d mi K (pc + 3) L (v ++ r) σ') : bt_Go P d mi K pc L (as.reverse ++ r) σ := by
  intro p e R s m args below meth c0 cells slots Q hC H locs ls hD
  obtain ⟨hx, hb, hml, hr, hlo, hown, hts, hK, hSF, hokP, hNW⟩ := id hC.1
  obtain ⟨hM, l1, l2⟩ := hl
  have hoS := hD.2.1
  have hoR : ∀ v ∈ r, bt_okv v := fun v hv => hoS v (List.mem_append_right _ hv)
  have hoA : ∀ v ∈ as, bt_okv v := fun v hv => hoS v (List.mem_append_left _ (List.mem_reverse.mpr hv))
  have hlen : (as.map (bt_va P)).length = n := by rw [List.length_map]; exact hn
  have hfr := hC.2.1
  have hlc := hC.2.2.1
  have hmx := hM.2.2.2
  have hRm : (bt_rm d).frames + 1 ≤ R.frames ∧ 8 + (cm.2.2.1 + 11) + (bt_rm d).locals ≤ R.locals := ⟨by show d + 1 ≤ R.frames; exact hfr, by show 8 + (cm.2.2.1 + 11) + 40 * d ≤ R.locals; omega⟩
  have hpre : PreS s H (bt_Pc P as σ) (as.map (bt_va P)) := ⟨bt_blind P _ σ, fun U hU hW => bt_Pc_now (σ := σ) hC.1 hD.2.2.2.1 hD.2.2.2.2 hoA hU hW⟩
  have hst : (as.reverse ++ r).map (bt_va P) = (as.map (bt_va P)).reverse ++ r.map (bt_va P) := by rw [List.map_append, List.map_reverse]
  have hrun : va_Run p (bt_l P) e R s m args below meth c0 H locs cells slots 0 0 (F0 m pc ls ((as.reverse ++ r).map (bt_va P))) (r.map (bt_va P)) (bt_Qc P (bt_kc cm.2.2.2 Nx) (as.map (bt_va P)).toArray) (bt_A P) := by
    rcases l1 with l1 | ⟨host, l1⟩
    · have hgood : GoodIn bt_gw (va_wsS mi.1.cls idx cm.1 (Cond.code cm.1 cm.2.1 cm.2.2.1 cm.2.2.2 :: bt_gw)) := fun w hw => by
        unfold va_wsS at hw
        rcases List.mem_append.mp hw with h | h
        · have hin : w ∈ bt_gw := by
            simp only [List.mem_cons, List.not_mem_nil, or_false] at h
            rcases h with rfl | rfl | rfl
            · exact l1
            · exact l2
            · exact hM.2.1
          exact ⟨hin, bt_gw_good _ hin⟩
        · exact bt_goodM hM w h
      exact va_runS (l := bt_l P) (Ts := bt_gw) (own := mi.1.cls) (nL := mi.2.2.1) ⟨hx, hb, hml, hown, hts⟩ hWP (va_cwS n hts hgood rfl rfl rfl hM.2.2.1 hRm) hpre rfl hlen hD.1.1 hst (lv_room (by rw [bt_sumw]; exact hw)) hd ⟨by rw [Nat.add_zero]; exact hC.2.2.2.1.1, by rw [Nat.add_zero]; exact hC.2.2.2.1.2⟩
    · exact va_runSN (l := bt_l P) (Ts := bt_gw) (own := mi.1.cls) (nL := mi.2.2.1) (host := host) ⟨hx, hb, hml, hown, hts⟩ hWP ⟨va_cnB n hts (bt_goodM hM) rfl rfl rfl (hNW _ l1) (hts _ hM.2.1) hM.2.2.1 hRm, hts _ l2, trivial⟩ hpre rfl hlen hD.1.1 hst (lv_room (by rw [bt_sumw]; exact hw)) hd ⟨by rw [Nat.add_zero]; exact hC.2.2.2.1.1, by rw [Nat.add_zero]; exact hC.2.2.2.1.2⟩
  refine bt_cont hrun hD.2.2.2.2 (fun r0 σ' H1 locs1 hK1 ho1 hP1 hS1 => ?_)
  have hNx := bt_kc_inv hK1
  have hov : ∀ w ∈ r0.toList, bt_okv w := fun w hw => ho1 w (by cases r0 with | none => cases hw | some z => rw [List.mem_singleton.mp hw])
  have hgo := hN _ _ hNx hov p e R s m args below meth c0 cells slots Q hC H1 locs1 ls ⟨hD.1, fun v hv => (List.mem_append.mp hv).elim (hov v) (hoR v), hD.2.2.1, hP1, hS1⟩
  rw [List.map_append] at hgo
  exact hgo
/-- the method's end -/
theorem bt_s_ret {v : Option av_T} (hd : bt_isret mi.2.1 pc v) (ht : bt_rty mi.2.2.2 v) (hK : K v σ) : bt_Go P d mi K pc L v.toList σ := by
  intro p e R s m args below meth c0 cells slots Q hC H locs ls hD
  exact hC.2.2.2.2 v σ H locs pc ls hK (fun w hw => hD.2.1 w (by rw [hw]; exact List.mem_cons_self)) hD.2.2.2.1 hD.2.2.2.2 hd ht
theorem bt_s_table {dflt lo hi : Int} {offs : Array Int} {len t : Nat} {sw : List (Int32 × Nat)} {x : Int32} {Nx : Nat → Prop} (hd : decode mi.2.1 pc = .ok (.tableswitch dflt lo hi offs, len)) (hck : bt_ck mi.2.2.1 pc (.tableswitch dflt lo hi offs, len, (t, 0), (0, 0), sw, mi) = true) (hN : ∀ t, Nx t → bt_Go P d mi K t L r σ) (h : bt_sw x Nx t sw) : bt_Go P d mi K pc L (vi x :: r) σ := by
  intro p e R s m args below meth c0 cells slots Q hC H locs ls hD
  obtain ⟨hx, hb, hml, hr, hlo, hown, hts, hK, hSF, hokP, hNW⟩ := id hC.1
  have hD2 := bt_Dy_s hD (bt_dr1 hD.2.1)
  simp only [bt_ck, Bool.and_eq_true, decide_eq_true_eq] at hck
  obtain ⟨⟨⟨⟨⟨h1, h2⟩, h3⟩, h4⟩, h5⟩, h6⟩ := hck
  rcases bt_sw_inv x Nx t sw h with ⟨q, hq, hqx, -, hNx, -⟩ | ⟨hno, hNx⟩
  · have h7 := List.all_eq_true.mp h5 q hq
    simp only [Bool.and_eq_true, decide_eq_true_eq] at h7
    obtain ⟨⟨h8, h9⟩, h10⟩ := h7
    rw [hqx] at h8 h9 h10
    cases ho : offs[(x.toInt - lo).toNat]? with
    | none => rw [ho] at h10; cases h10
    | some o =>
      rw [ho] at h10
      exact lv_tableIn hx hb hd (by omega) (by omega) ho (Option.some.inj h10) (hN _ hNx p e R s m args below meth c0 cells slots Q hC H locs ls hD2)
  · refine lv_tableOut hx hb hd ?_ h1 (hN _ hNx p e R s m args below meth c0 cells slots Q hC H locs ls hD2)
    rcases Int.lt_or_le x.toInt lo with q1 | q1
    · exact Or.inl q1
    rcases Int.lt_or_le hi x.toInt with q2 | q2
    · exact Or.inr q2
    exfalso
    have h7 := List.all_eq_true.mp h6 (x.toInt - lo).toNat (List.mem_range.mpr (by omega))
    obtain ⟨q, hq, hqe⟩ := List.any_eq_true.mp h7
    have hqe := of_decide_eq_true hqe
    exact hno q hq (Int32.toInt_inj.mp (by omega))
theorem bt_s_look {dflt : Int} {ps : Array (Int × Int)} {len t : Nat} {sw : List (Int32 × Nat)} {x : Int32} {Nx : Nat → Prop} (hd : decode mi.2.1 pc = .ok (.lookupswitch dflt ps, len)) (hck : bt_ck mi.2.2.1 pc (.lookupswitch dflt ps, len, (t, 0), (0, 0), sw, mi) = true) (hN : ∀ t, Nx t → bt_Go P d mi K t L r σ) (h : bt_sw x Nx t sw) : bt_Go P d mi K pc L (vi x :: r) σ := by
  intro p e R s m args below meth c0 cells slots Q hC H locs ls hD
  obtain ⟨hx, hb, hml, hr, hlo, hown, hts, hK, hSF, hokP, hNW⟩ := id hC.1
  have hD2 := bt_Dy_s hD (bt_dr1 hD.2.1)
  simp only [bt_ck, Bool.and_eq_true, decide_eq_true_eq] at hck
  obtain ⟨⟨⟨h1, h2⟩, h3⟩, h4⟩ := hck
  have key : ∀ (a : List (Int × Int)) (w : List (Int32 × Nat)), a.length = w.length → ((a.zip w).all (fun z => decide (z.2.1.toInt = z.1.1) && decide ((pc : Int) + z.1.2 = (z.2.2 : Int)))) = true → bt_sw x Nx t w → ∃ tgt : Nat, Nx tgt ∧ (pc : Int) + Op.lookupswitch.offset a dflt x.toInt = (tgt : Int) := by
    intro a
    induction a with
    | nil =>
      intro w hlen _ hsw
      cases w with
      | nil => exact ⟨t, hsw, by rw [← h1]; rfl⟩
      | cons q w => cases hlen
    | cons z a ih =>
      intro w hlen hall hsw
      cases w with
      | nil => cases hlen
      | cons q w =>
        rw [List.zip_cons_cons, List.all_cons] at hall
        simp only [Bool.and_eq_true, decide_eq_true_eq] at hall
        obtain ⟨⟨g1, g2⟩, g3⟩ := hall
        by_cases ex : x = q.1
        · refine ⟨q.2, hsw.1 ex, ?_⟩
          rw [← g2]
          congr 1
          subst ex
          obtain ⟨za, zo⟩ := z
          simp only [Op.lookupswitch.offset]
          dsimp only at g1
          rw [if_pos (by rw [g1] <;> simp)]
        · obtain ⟨tgt, f1, f2⟩ := ih w (by simpa using hlen) (by simpa using g3) (hsw.2 ex)
          refine ⟨tgt, f1, ?_⟩
          rw [← f2]
          obtain ⟨za, zo⟩ := z
          rw [lv_osw (k := q.1) ex g1]
  obtain ⟨tgt, f1, f2⟩ := key ps.toList sw h3 h4 h
  exact lv_lookup hx hb hd h2 rfl f2 (hN _ f1 p e R s m args below meth c0 cells slots Q hC H locs ls hD2)
end BTD
end
section
/-! THE ABSTRACT MACHINE IS SOUND, 5: every instruction; many; a contract from its body -/
theorem bt_beqT {a b : Nat} (h : Nat.beq a b = true) : a = b := Nat.eq_of_beq_eq_true h
theorem bt_and {a b : Bool} (h : (a && b) = true) : a = true ∧ b = true := by cases a <;> cases b <;> first | exact ⟨rfl, rfl⟩ | cases h
theorem bt_or {a b : Bool} (h : (a || b) = true) : a = true ∨ b = true := by cases a <;> cases b <;> first | exact Or.inl rfl | exact Or.inr rfl | cases h
theorem bt_le100 {k : Nat} (h : Nat.ble (k + 1) 100 = true) : k < 100 := Nat.le_of_ble_eq_true h
theorem bt_shpP {k t : Nat} (h : (bt_shp k).1 = t) : bt_shp k = (t, (bt_shp k).2) := by rw [← h]
theorem bt_isob_inv {v : av_T} {c : Nat} (h : bt_isob v c = true) : ∃ k i, v = vr k i ∧ k < 100 ∧ bt_shp k = (0, c) := by
  rcases v with x | x | (_ | q)
  · cases h
  · cases h
  · cases h
  · obtain ⟨h1, h2⟩ := bt_and h
    obtain ⟨h3, h4⟩ := bt_and h1
    refine ⟨q.1, q.2, rfl, bt_le100 h2, ?_⟩
    rw [← bt_beqT h3, ← bt_beqT h4]
theorem bt_bfalse {a b : Nat} (h : Nat.beq a b = false) : ¬ a = b := fun e => by
  subst e
  rw [Nat.beq_refl] at h
  cases h
theorem bt_blefalse {a b : Nat} (h : Nat.ble a b = false) : ¬ a ≤ b := fun e => by
  rw [Nat.ble_eq_true_of_le e] at h
  cases h
set_option maxHeartbeats 4000000 in
/-- one instruction -/
theorem bt_sound {P : bt_PT} {d : Nat} {mi : bt_MI} {K : Option av_T → st_T → Prop} {pc : Nat} {L : List (Option av_T)} {S : List av_T} {σ : st_T} {en : bt_E} {Nx : bt_NT} (hd : decode mi.2.1 pc = .ok (en.1, en.2.1)) (hck : bt_ck mi.2.2.1 pc en = true) (hl : bt_link mi.1.cls en)
    (h : bt_st P (bt_WP P d) K mi.2.2.2 en pc L S σ Nx) (hN : ∀ pc' L' S' σ', Nx pc' L' S' σ' → bt_Go P d mi K pc' L' S' σ') : bt_Go P d mi K pc L S σ := by
  obtain ⟨ins, len, ⟨an, bn⟩, ⟨zi, zl⟩, sw, cm⟩ := en
  cases ins with
  | iconst n =>
    simp only [bt_ck, Bool.and_eq_true, decide_eq_true_eq] at hck
    obtain ⟨h1, h2⟩ := hck
    subst h2
    exact bt_s_iconst hd h1 (hN _ _ _ _ h)
  | bipush n =>
    simp only [bt_ck, Bool.and_eq_true, decide_eq_true_eq] at hck
    obtain ⟨h1, h2⟩ := hck
    subst h2
    exact bt_s_bipush hd h1 (hN _ _ _ _ h)
  | sipush n =>
    simp only [bt_ck, Bool.and_eq_true, decide_eq_true_eq] at hck
    obtain ⟨h1, h2⟩ := hck
    subst h2
    exact bt_s_sipush hd h1 (hN _ _ _ _ h)
  | lconst n =>
    simp only [bt_ck, Bool.and_eq_true, decide_eq_true_eq] at hck
    obtain ⟨h1, h2⟩ := hck
    subst h2
    exact bt_s_lconst hd h1 (hN _ _ _ _ h)
  | ldc idx =>
    simp only [bt_ck, Bool.and_eq_true, decide_eq_true_eq] at hck
    subst hck
    exact bt_s_ldc hd hl (hN _ _ _ _ h)
  | ldc_w idx =>
    simp only [bt_ck, Bool.and_eq_true, decide_eq_true_eq] at hck
    subst hck
    exact bt_s_ldcw hd hl (hN _ _ _ _ h)
  | ldc2_w idx =>
    simp only [bt_ck, Bool.and_eq_true, decide_eq_true_eq] at hck
    subst hck
    exact bt_s_ldc2 hd hl (hN _ _ _ _ h)
  | aconst_null =>
    simp only [bt_ck, Bool.and_eq_true, decide_eq_true_eq] at hck
    subst hck
    exact bt_s_null hd (hN _ _ _ _ h)
  | iload i =>
    simp only [bt_ck, Bool.and_eq_true, decide_eq_true_eq] at hck
    dsimp only [bt_st] at h
    subst hck
    obtain ⟨x, h1, h2⟩ := bt_li_inv h
    exact bt_s_iload hd h1 (hN _ _ _ _ h2)
  | iload_n i =>
    simp only [bt_ck, Bool.and_eq_true, decide_eq_true_eq] at hck
    dsimp only [bt_st] at h
    subst hck
    obtain ⟨x, h1, h2⟩ := bt_li_inv h
    exact bt_s_iload_n hd h1 (hN _ _ _ _ h2)
  | lload i =>
    simp only [bt_ck, Bool.and_eq_true, decide_eq_true_eq] at hck
    dsimp only [bt_st] at h
    subst hck
    obtain ⟨x, h1, h2⟩ := bt_ll_inv h
    exact bt_s_lload hd h1 (hN _ _ _ _ h2)
  | lload_n i =>
    simp only [bt_ck, Bool.and_eq_true, decide_eq_true_eq] at hck
    dsimp only [bt_st] at h
    subst hck
    obtain ⟨x, h1, h2⟩ := bt_ll_inv h
    exact bt_s_lload_n hd h1 (hN _ _ _ _ h2)
  | aload i =>
    simp only [bt_ck, Bool.and_eq_true, decide_eq_true_eq] at hck
    dsimp only [bt_st] at h
    subst hck
    obtain ⟨x, h1, h2⟩ := bt_la_inv h
    exact bt_s_aload hd h1 (hN _ _ _ _ h2)
  | aload_n i =>
    simp only [bt_ck, Bool.and_eq_true, decide_eq_true_eq] at hck
    dsimp only [bt_st] at h
    subst hck
    obtain ⟨x, h1, h2⟩ := bt_la_inv h
    exact bt_s_aload_n hd h1 (hN _ _ _ _ h2)
  | istore i =>
    simp only [bt_ck, Bool.and_eq_true, decide_eq_true_eq] at hck
    dsimp only [bt_st] at h
    obtain ⟨h1, h2⟩ := hck
    subst h2
    obtain ⟨x, r, rfl, h3, h4⟩ := bt_si_inv h
    exact bt_s_istore hd h1 h3 (hN _ _ _ _ h4)
  | istore_n i =>
    simp only [bt_ck, Bool.and_eq_true, decide_eq_true_eq] at hck
    dsimp only [bt_st] at h
    obtain ⟨h1, h2⟩ := hck
    subst h2
    obtain ⟨x, r, rfl, h3, h4⟩ := bt_si_inv h
    exact bt_s_istore_n hd h1 h3 (hN _ _ _ _ h4)
  | lstore i =>
    simp only [bt_ck, Bool.and_eq_true, decide_eq_true_eq] at hck
    dsimp only [bt_st] at h
    obtain ⟨h1, h2⟩ := hck
    subst h2
    obtain ⟨x, r, rfl, h3, h4⟩ := bt_sl_inv h
    exact bt_s_lstore hd h1 h3 (hN _ _ _ _ h4)
  | lstore_n i =>
    simp only [bt_ck, Bool.and_eq_true, decide_eq_true_eq] at hck
    dsimp only [bt_st] at h
    obtain ⟨h1, h2⟩ := hck
    subst h2
    obtain ⟨x, r, rfl, h3, h4⟩ := bt_sl_inv h
    exact bt_s_lstore_n hd h1 h3 (hN _ _ _ _ h4)
  | astore i =>
    simp only [bt_ck, Bool.and_eq_true, decide_eq_true_eq] at hck
    dsimp only [bt_st] at h
    obtain ⟨h1, h2⟩ := hck
    subst h2
    obtain ⟨x, r, rfl, h3, h4⟩ := bt_sa_inv h
    exact bt_s_astore hd h1 h3 (hN _ _ _ _ h4)
  | astore_n i =>
    simp only [bt_ck, Bool.and_eq_true, decide_eq_true_eq] at hck
    dsimp only [bt_st] at h
    obtain ⟨h1, h2⟩ := hck
    subst h2
    obtain ⟨x, r, rfl, h3, h4⟩ := bt_sa_inv h
    exact bt_s_astore_n hd h1 h3 (hN _ _ _ _ h4)
  | iinc i n =>
    simp only [bt_ck, Bool.and_eq_true, decide_eq_true_eq] at hck
    dsimp only [bt_st] at h
    obtain ⟨⟨h1, h2⟩, h3⟩ := hck
    subst h3
    obtain ⟨x, h4, h5⟩ := bt_li_inv h
    obtain ⟨h6, h7⟩ := bt_if_inv h5
    exact bt_s_iinc hd h1 h2 h4 (bt_not_inv h6) (hN _ _ _ _ h7)
  | iadd =>
    simp only [bt_ck, Bool.and_eq_true, decide_eq_true_eq] at hck
    dsimp only [bt_st] at h
    subst hck
    obtain ⟨x, y, r, rfl, h1⟩ := bt_u2_inv h
    exact bt_s_iadd hd (hN _ _ _ _ h1)
  | isub =>
    simp only [bt_ck, Bool.and_eq_true, decide_eq_true_eq] at hck
    dsimp only [bt_st] at h
    subst hck
    obtain ⟨x, y, r, rfl, h1⟩ := bt_u2_inv h
    exact bt_s_isub hd (hN _ _ _ _ h1)
  | imul =>
    simp only [bt_ck, Bool.and_eq_true, decide_eq_true_eq] at hck
    dsimp only [bt_st] at h
    subst hck
    obtain ⟨x, y, r, rfl, h1⟩ := bt_u2_inv h
    exact bt_s_imul hd (hN _ _ _ _ h1)
  | iand =>
    simp only [bt_ck, Bool.and_eq_true, decide_eq_true_eq] at hck
    dsimp only [bt_st] at h
    subst hck
    obtain ⟨x, y, r, rfl, h1⟩ := bt_u2_inv h
    exact bt_s_iand hd (hN _ _ _ _ h1)
  | ior =>
    simp only [bt_ck, Bool.and_eq_true, decide_eq_true_eq] at hck
    dsimp only [bt_st] at h
    subst hck
    obtain ⟨x, y, r, rfl, h1⟩ := bt_u2_inv h
    exact bt_s_ior hd (hN _ _ _ _ h1)
  | ixor =>
    simp only [bt_ck, Bool.and_eq_true, decide_eq_true_eq] at hck
    dsimp only [bt_st] at h
    subst hck
    obtain ⟨x, y, r, rfl, h1⟩ := bt_u2_inv h
    exact bt_s_ixor hd (hN _ _ _ _ h1)
  | ishl =>
    simp only [bt_ck, Bool.and_eq_true, decide_eq_true_eq] at hck
    dsimp only [bt_st] at h
    subst hck
    obtain ⟨x, y, r, rfl, h1⟩ := bt_u2_inv h
    exact bt_s_ishl hd (hN _ _ _ _ h1)
  | ishr =>
    simp only [bt_ck, Bool.and_eq_true, decide_eq_true_eq] at hck
    dsimp only [bt_st] at h
    subst hck
    obtain ⟨x, y, r, rfl, h1⟩ := bt_u2_inv h
    exact bt_s_ishr hd (hN _ _ _ _ h1)
  | iushr =>
    simp only [bt_ck, Bool.and_eq_true, decide_eq_true_eq] at hck
    dsimp only [bt_st] at h
    subst hck
    obtain ⟨x, y, r, rfl, h1⟩ := bt_u2_inv h
    exact bt_s_iushr hd (hN _ _ _ _ h1)
  | idiv =>
    simp only [bt_ck, Bool.and_eq_true, decide_eq_true_eq] at hck
    dsimp only [bt_st] at h
    subst hck
    obtain ⟨x, y, r, rfl, h1⟩ := bt_u2_inv h
    exact bt_s_idiv hd h1.1 (hN _ _ _ _ h1.2)
  | irem =>
    simp only [bt_ck, Bool.and_eq_true, decide_eq_true_eq] at hck
    dsimp only [bt_st] at h
    subst hck
    obtain ⟨x, y, r, rfl, h1⟩ := bt_u2_inv h
    exact bt_s_irem hd h1.1 (hN _ _ _ _ h1.2)
  | ladd =>
    simp only [bt_ck, Bool.and_eq_true, decide_eq_true_eq] at hck
    dsimp only [bt_st] at h
    subst hck
    obtain ⟨x, y, r, rfl, h1⟩ := bt_uLL_inv h
    exact bt_s_ladd hd (hN _ _ _ _ h1)
  | land =>
    simp only [bt_ck, Bool.and_eq_true, decide_eq_true_eq] at hck
    dsimp only [bt_st] at h
    subst hck
    obtain ⟨x, y, r, rfl, h1⟩ := bt_uLL_inv h
    exact bt_s_land hd (hN _ _ _ _ h1)
  | lor =>
    simp only [bt_ck, Bool.and_eq_true, decide_eq_true_eq] at hck
    dsimp only [bt_st] at h
    subst hck
    obtain ⟨x, y, r, rfl, h1⟩ := bt_uLL_inv h
    exact bt_s_lor hd (hN _ _ _ _ h1)
  | lcmp =>
    simp only [bt_ck, Bool.and_eq_true, decide_eq_true_eq] at hck
    dsimp only [bt_st] at h
    subst hck
    obtain ⟨x, y, r, rfl, h1⟩ := bt_uLL_inv h
    exact bt_s_lcmp hd (hN _ _ _ _ h1)
  | lshl =>
    simp only [bt_ck, Bool.and_eq_true, decide_eq_true_eq] at hck
    dsimp only [bt_st] at h
    subst hck
    obtain ⟨x, y, r, rfl, h1⟩ := bt_uLI_inv h
    exact bt_s_lshl hd (hN _ _ _ _ h1)
  | ineg =>
    simp only [bt_ck, Bool.and_eq_true, decide_eq_true_eq] at hck
    dsimp only [bt_st] at h
    subst hck
    obtain ⟨x, r, rfl, h1⟩ := bt_u1_inv h
    exact bt_s_ineg hd (hN _ _ _ _ h1)
  | i2l =>
    simp only [bt_ck, Bool.and_eq_true, decide_eq_true_eq] at hck
    dsimp only [bt_st] at h
    subst hck
    obtain ⟨x, r, rfl, h1⟩ := bt_u1_inv h
    exact bt_s_i2l hd (hN _ _ _ _ h1)
  | i2b =>
    simp only [bt_ck, Bool.and_eq_true, decide_eq_true_eq] at hck
    dsimp only [bt_st] at h
    subst hck
    obtain ⟨x, r, rfl, h1⟩ := bt_u1_inv h
    exact bt_s_i2b hd (hN _ _ _ _ h1)
  | i2s =>
    simp only [bt_ck, Bool.and_eq_true, decide_eq_true_eq] at hck
    dsimp only [bt_st] at h
    subst hck
    obtain ⟨x, r, rfl, h1⟩ := bt_u1_inv h
    exact bt_s_i2s hd (hN _ _ _ _ h1)
  | l2i =>
    simp only [bt_ck, Bool.and_eq_true, decide_eq_true_eq] at hck
    dsimp only [bt_st] at h
    subst hck
    obtain ⟨x, r, rfl, h1⟩ := bt_uL_inv h
    exact bt_s_l2i hd (hN _ _ _ _ h1)
  | dup =>
    simp only [bt_ck, Bool.and_eq_true, decide_eq_true_eq] at hck
    dsimp only [bt_st] at h
    subst hck
    cases S with
    | nil => exact h.elim
    | cons v r =>
      obtain ⟨h1, h2⟩ := bt_if_inv h
      exact bt_s_dup hd (bt_beqT h1) (hN _ _ _ _ h2)
  | dup2 =>
    simp only [bt_ck, Bool.and_eq_true, decide_eq_true_eq] at hck
    dsimp only [bt_st] at h
    subst hck
    rcases S with _ | ⟨v, _ | ⟨w, r⟩⟩
    · exact h.elim
    · exact h.elim
    · obtain ⟨h1, h2⟩ := bt_if_inv h
      exact bt_s_dup2 hd (bt_beqT (bt_and h1).1) (bt_beqT (bt_and h1).2) (hN _ _ _ _ h2)
  | pop =>
    simp only [bt_ck, Bool.and_eq_true, decide_eq_true_eq] at hck
    dsimp only [bt_st] at h
    subst hck
    cases S with
    | nil => exact h.elim
    | cons v r =>
      obtain ⟨h1, h2⟩ := bt_if_inv h
      exact bt_s_pop hd (bt_beqT h1) (hN _ _ _ _ h2)
  | goto off =>
    simp only [bt_ck, Bool.and_eq_true, decide_eq_true_eq] at hck
    obtain ⟨h1, h2⟩ := hck
    subst h2
    exact bt_s_goto hd h1 (hN _ _ _ _ h)
  | ifCond cc off =>
    simp only [bt_ck, Bool.and_eq_true, decide_eq_true_eq] at hck
    dsimp only [bt_st] at h
    obtain ⟨h1, h2⟩ := hck
    subst h2
    cases cc
    · obtain ⟨x, r, rfl, h3, h4⟩ := bt_u1_inv h
      exact bt_s_if_eq hd h1 (fun z => hN _ _ _ _ (h3 z)) (fun z => hN _ _ _ _ (h4 z))
    · obtain ⟨x, r, rfl, h3, h4⟩ := bt_u1_inv h
      exact bt_s_if_ne hd h1 (fun z => hN _ _ _ _ (h3 z)) (fun z => hN _ _ _ _ (h4 z))
    · obtain ⟨x, r, rfl, h3, h4⟩ := bt_u1_inv h
      exact bt_s_if_lt hd h1 (fun z => hN _ _ _ _ (h3 z)) (fun z => hN _ _ _ _ (h4 z))
    · obtain ⟨x, r, rfl, h3, h4⟩ := bt_u1_inv h
      exact bt_s_if_ge hd h1 (fun z => hN _ _ _ _ (h3 z)) (fun z => hN _ _ _ _ (h4 z))
    · obtain ⟨x, r, rfl, h3, h4⟩ := bt_u1_inv h
      exact bt_s_if_gt hd h1 (fun z => hN _ _ _ _ (h3 z)) (fun z => hN _ _ _ _ (h4 z))
    · obtain ⟨x, r, rfl, h3, h4⟩ := bt_u1_inv h
      exact bt_s_if_le hd h1 (fun z => hN _ _ _ _ (h3 z)) (fun z => hN _ _ _ _ (h4 z))
  | if_icmp cc off =>
    simp only [bt_ck, Bool.and_eq_true, decide_eq_true_eq] at hck
    dsimp only [bt_st] at h
    obtain ⟨h1, h2⟩ := hck
    subst h2
    cases cc
    · obtain ⟨x, y, r, rfl, h3, h4⟩ := bt_u2_inv h
      exact bt_s_icmp_eq hd h1 (fun z => hN _ _ _ _ (h3 z)) (fun z => hN _ _ _ _ (h4 z))
    · obtain ⟨x, y, r, rfl, h3, h4⟩ := bt_u2_inv h
      exact bt_s_icmp_ne hd h1 (fun z => hN _ _ _ _ (h3 z)) (fun z => hN _ _ _ _ (h4 z))
    · obtain ⟨x, y, r, rfl, h3, h4⟩ := bt_u2_inv h
      exact bt_s_icmp_lt hd h1 (fun z => hN _ _ _ _ (h3 z)) (fun z => hN _ _ _ _ (h4 z))
    · obtain ⟨x, y, r, rfl, h3, h4⟩ := bt_u2_inv h
      exact bt_s_icmp_ge hd h1 (fun z => hN _ _ _ _ (h3 z)) (fun z => hN _ _ _ _ (h4 z))
    · obtain ⟨x, y, r, rfl, h3, h4⟩ := bt_u2_inv h
      exact bt_s_icmp_gt hd h1 (fun z => hN _ _ _ _ (h3 z)) (fun z => hN _ _ _ _ (h4 z))
    · obtain ⟨x, y, r, rfl, h3, h4⟩ := bt_u2_inv h
      exact bt_s_icmp_le hd h1 (fun z => hN _ _ _ _ (h3 z)) (fun z => hN _ _ _ _ (h4 z))
  | ifnull off =>
    simp only [bt_ck, Bool.and_eq_true, decide_eq_true_eq] at hck
    dsimp only [bt_st] at h
    obtain ⟨h1, h2⟩ := hck
    subst h2
    obtain ⟨x, r, rfl, h3, h4⟩ := bt_uA_inv h
    exact bt_s_ifnull hd h1 (fun z => hN _ _ _ _ (h3 z)) (fun z => hN _ _ _ _ (h4 z))
  | ifnonnull off =>
    simp only [bt_ck, Bool.and_eq_true, decide_eq_true_eq] at hck
    dsimp only [bt_st] at h
    obtain ⟨h1, h2⟩ := hck
    subst h2
    obtain ⟨x, r, rfl, h3, h4⟩ := bt_uA_inv h
    exact bt_s_ifnonnull hd h1 (fun z => hN _ _ _ _ (h3 z)) (fun z => hN _ _ _ _ (h4 z))
  | tableswitch dv lo hi offs =>
    dsimp only [bt_st] at h
    obtain ⟨x, r, rfl, h1⟩ := bt_u1_inv h
    exact bt_s_table hd hck (fun t ht => hN _ _ _ _ ht) h1
  | lookupswitch dv ps =>
    dsimp only [bt_st] at h
    obtain ⟨x, r, rfl, h1⟩ := bt_u1_inv h
    exact bt_s_look hd hck (fun t ht => hN _ _ _ _ ht) h1
  | getfield idx =>
    simp only [bt_ck, Bool.and_eq_true, decide_eq_true_eq] at hck
    dsimp only [bt_st] at h
    subst hck
    obtain ⟨k, i, r, rfl, h1⟩ := bt_uO_inv h
    obtain ⟨h2, h3⟩ := bt_tag_inv h1
    obtain ⟨h4, h5⟩ := bt_if_inv h3
    obtain ⟨h6, h7⟩ := bt_and h4
    obtain ⟨h8, h9⟩ := bt_and h6
    have hk := bt_le100 h8
    have hc : (bt_shp k).2 = an := bt_beqT h9
    have hs : bt_shp k = (0, an) := by rw [← hc, ← h2]
    have hj : bn < bt_nf an := by rw [← hc]; exact Nat.le_of_ble_eq_true h7
    rw [hc] at h5
    refine bt_s_getfield hd hl hk hs hj (fun z => ?_) (fun z => ?_)
    · rcases bt_ife_inv h5 with ⟨-, q⟩ | ⟨q1, -⟩
      · exact hN _ _ _ _ q
      · exact absurd z (bt_bfalse q1)
    · rcases bt_ife_inv h5 with ⟨q1, -⟩ | ⟨-, q⟩
      · exact absurd (bt_beqT q1) z
      · exact hN _ _ _ _ q
  | putfield idx =>
    simp only [bt_ck, Bool.and_eq_true, decide_eq_true_eq] at hck
    dsimp only [bt_st] at h
    subst hck
    rcases S with _ | ⟨v, _ | ⟨w, r⟩⟩
    · exact h.elim
    · rcases v with x | x | (_ | x) <;> exact h.elim
    rcases v with x | x | (_ | x)
    rotate_left
    · exact h.elim
    · exact h.elim
    · exact h.elim
    rcases w with y | y | (_ | q)
    · exact h.elim
    · exact h.elim
    · exact h.elim
    obtain ⟨k, i⟩ := q
    obtain ⟨h2, h3⟩ := bt_tag_inv h
    obtain ⟨h4, h5⟩ := bt_if_inv h3
    obtain ⟨h6, h7⟩ := bt_and h4
    obtain ⟨h8, h9⟩ := bt_and h6
    have hk := bt_le100 h8
    have hc : (bt_shp k).2 = an := bt_beqT h9
    have hs : bt_shp k = (0, an) := by rw [← hc, ← h2]
    have hj : bn < bt_nf an := by rw [← hc]; exact Nat.le_of_ble_eq_true h7
    dsimp only at h5
    rw [hc] at h5
    rcases bt_ife_inv h5 with ⟨q1, q2⟩ | ⟨-, q⟩
    · exact bt_s_putfield hd hl hk hs hj (Or.inl (bt_beqT q1)) (hN _ _ _ _ q2)
    · obtain ⟨q1, q2, q3⟩ := bt_if_inv q
      exact bt_s_putfield hd hl hk hs hj (Or.inr ⟨bt_beqT q1, q2⟩) (hN _ _ _ _ q3)
  | getstatic idx =>
    simp only [bt_ck, Bool.and_eq_true, decide_eq_true_eq] at hck
    subst hck
    exact bt_s_getstatic hd hl (hN _ _ _ _ h)
  | arraylength =>
    simp only [bt_ck, Bool.and_eq_true, decide_eq_true_eq] at hck
    dsimp only [bt_st] at h
    subst hck
    obtain ⟨k, i, r, rfl, h1⟩ := bt_uO_inv h
    rcases bt_ife_inv h1 with ⟨q1, q2⟩ | ⟨q1, q2⟩
    · exact bt_s_alen_st hd (Nat.not_lt.mpr (Nat.le_of_ble_eq_true q1)) (hN _ _ _ _ q2)
    · obtain ⟨q3, q4⟩ := bt_if_inv q2
      exact bt_s_alen hd (Nat.not_le.mp (bt_blefalse q1)) (bt_bfalse (bt_not_inv q3)) (hN _ _ _ _ q4)
  | iaload =>
    simp only [bt_ck, Bool.and_eq_true, decide_eq_true_eq] at hck
    dsimp only [bt_st] at h
    subst hck
    obtain ⟨k, i, j, r, rfl, h1⟩ := bt_uAr_inv h
    rcases bt_ife_inv h1 with ⟨q1, q2, q3⟩ | ⟨q1, q2⟩
    · exact bt_s_iald_st hd (Nat.not_lt.mpr (Nat.le_of_ble_eq_true q1)) q2 (hN _ _ _ _ q3)
    · obtain ⟨q3, q4, q5⟩ := bt_tag_inv q2
      exact bt_s_iaload hd (Nat.not_le.mp (bt_blefalse q1)) (bt_shpP q3) q4 (hN _ _ _ _ q5)
  | laload =>
    simp only [bt_ck, Bool.and_eq_true, decide_eq_true_eq] at hck
    dsimp only [bt_st] at h
    subst hck
    obtain ⟨k, i, j, r, rfl, h1⟩ := bt_uAr_inv h
    obtain ⟨q1, q2⟩ := bt_if_inv h1
    obtain ⟨q3, q4, q5⟩ := bt_tag_inv q2
    exact bt_s_laload hd (bt_le100 q1) (bt_shpP q3) q4 (hN _ _ _ _ q5)
  | baload =>
    simp only [bt_ck, Bool.and_eq_true, decide_eq_true_eq] at hck
    dsimp only [bt_st] at h
    subst hck
    obtain ⟨k, i, j, r, rfl, h1⟩ := bt_uAr_inv h
    obtain ⟨q1, q2⟩ := bt_if_inv h1
    obtain ⟨q3, q4, q5⟩ := bt_tag_inv q2
    exact bt_s_baload hd (bt_le100 q1) (bt_shpP q3) q4 (hN _ _ _ _ q5)
  | saload =>
    simp only [bt_ck, Bool.and_eq_true, decide_eq_true_eq] at hck
    dsimp only [bt_st] at h
    subst hck
    obtain ⟨k, i, j, r, rfl, h1⟩ := bt_uAr_inv h
    obtain ⟨q1, q2⟩ := bt_if_inv h1
    obtain ⟨q3, q4, q5⟩ := bt_tag_inv q2
    exact bt_s_saload hd (bt_le100 q1) (bt_shpP q3) q4 (hN _ _ _ _ q5)
  | aaload =>
    simp only [bt_ck, Bool.and_eq_true, decide_eq_true_eq] at hck
    dsimp only [bt_st] at h
    subst hck
    obtain ⟨k, i, j, r, rfl, h1⟩ := bt_uAr_inv h
    obtain ⟨q1, q2, q3⟩ := bt_if_inv h1
    obtain ⟨q4, q5⟩ := bt_and q1
    exact bt_s_aaload hd (bt_le100 q4) ((bt_or q5).imp bt_beqT bt_beqT) q2 (hN _ _ _ _ q3)
  | iastore =>
    simp only [bt_ck, Bool.and_eq_true, decide_eq_true_eq] at hck
    dsimp only [bt_st] at h
    subst hck
    obtain ⟨k, i, j, v, r, rfl, h1⟩ := bt_uAsI_inv h
    obtain ⟨q1, q2⟩ := bt_if_inv h1
    obtain ⟨q3, q4, q5⟩ := bt_tag_inv q2
    exact bt_s_iastore hd (bt_le100 q1) (bt_shpP q3) q4 (hN _ _ _ _ q5)
  | bastore =>
    simp only [bt_ck, Bool.and_eq_true, decide_eq_true_eq] at hck
    dsimp only [bt_st] at h
    subst hck
    obtain ⟨k, i, j, v, r, rfl, h1⟩ := bt_uAsI_inv h
    obtain ⟨q1, q2⟩ := bt_if_inv h1
    obtain ⟨q3, q4, q5⟩ := bt_tag_inv q2
    exact bt_s_bastore hd (bt_le100 q1) (bt_shpP q3) q4 (hN _ _ _ _ q5)
  | sastore =>
    simp only [bt_ck, Bool.and_eq_true, decide_eq_true_eq] at hck
    dsimp only [bt_st] at h
    subst hck
    obtain ⟨k, i, j, v, r, rfl, h1⟩ := bt_uAsI_inv h
    obtain ⟨q1, q2⟩ := bt_if_inv h1
    obtain ⟨q3, q4, q5⟩ := bt_tag_inv q2
    exact bt_s_sastore hd (bt_le100 q1) (bt_shpP q3) q4 (hN _ _ _ _ q5)
  | lastore =>
    simp only [bt_ck, Bool.and_eq_true, decide_eq_true_eq] at hck
    dsimp only [bt_st] at h
    subst hck
    obtain ⟨k, i, j, v, r, rfl, h1⟩ := bt_uAsL_inv h
    obtain ⟨q1, q2⟩ := bt_if_inv h1
    obtain ⟨q3, q4, q5⟩ := bt_tag_inv q2
    exact bt_s_lastore hd (bt_le100 q1) (bt_shpP q3) q4 (hN _ _ _ _ q5)
  | invokevirtual idx =>
    simp only [bt_ck, Bool.and_eq_true, decide_eq_true_eq] at hck
    dsimp only [bt_st] at h
    subst hck
    obtain ⟨h1, h2⟩ := bt_if_inv h
    obtain ⟨top, r, rfl, h3, h4⟩ := bt_args_inv _ _ _ _ h2
    rw [List.append_nil] at h4
    obtain ⟨h5, h6⟩ := bt_if_inv h4
    obtain ⟨h7, h8⟩ := bt_and h5
    have hb : ¬ bn = 100 := fun e => by
      have h0 : bn < 100 := bt_le100 h1
      omega
    rcases bt_or h8 with h9 | h9
    · exact absurd (bt_beqT h9) hb
    have hrev : top = (top.reverse).reverse := (List.reverse_reverse top).symm
    generalize top.reverse = as at hrev h6 h9
    subst hrev
    cases as with
    | nil => cases h9
    | cons v as =>
      obtain ⟨k, i, rfl, h10, h11⟩ := bt_isob_inv h9
      have hlen : (vr k i :: as).length = an := by rw [← List.length_reverse]; exact h3
      exact bt_s_callV hd hl hlen (Nat.le_of_ble_eq_true h7) h10 h11 h6 (fun v σ' hNx _ => hN _ _ _ _ hNx)
  | invokestatic idx =>
    simp only [bt_ck, Bool.and_eq_true, decide_eq_true_eq] at hck
    dsimp only [bt_st] at h
    subst hck
    rcases bt_ife_inv h with ⟨q1, q2⟩ | ⟨q1, q2⟩
    · have hlc := hl.2 (bt_beqT q1)
      unfold bt_cpy at q2
      split at q2
      · next n dp qd sp qs r =>
        obtain ⟨kd, id⟩ := qd
        obtain ⟨ks, is⟩ := qs
        obtain ⟨g1, g2⟩ := bt_if_inv q2
        obtain ⟨g3, g4⟩ := bt_and g1
        obtain ⟨g5, g6⟩ := bt_and g3
        rcases bt_ife_inv g2 with ⟨f1, ⟨f2, f3, f4, f5, f6⟩, f7⟩ | ⟨-, f1⟩
        · exact bt_s_cpyi hd hlc (bt_le100 g5) (bt_le100 g6) (bt_shpP (bt_beqT (bt_and f1).1)) (bt_shpP (bt_beqT (bt_and f1).2)) (Nat.le_of_ble_eq_true g4) f2 f3 f4 f5 f6 (hN _ _ _ _ f7)
        · obtain ⟨e1, ⟨f2, f3, f4, f5, f6⟩, f7⟩ := bt_if_inv f1
          exact bt_s_cpyl hd hlc (bt_le100 g5) (bt_le100 g6) (bt_shpP (bt_beqT (bt_and e1).1)) (bt_shpP (bt_beqT (bt_and e1).2)) (Nat.le_of_ble_eq_true g4) f2 f3 f4 f5 f6 (hN _ _ _ _ f7)
      · exact q2.elim
    · obtain ⟨g1, g2⟩ := bt_if_inv q2
      have hls := hl.1 (bt_beqT g1)
      obtain ⟨top, r, rfl, h3, h4⟩ := bt_args_inv _ _ _ _ g2
      rw [List.append_nil] at h4
      obtain ⟨h5, h6⟩ := bt_if_inv h4
      obtain ⟨h7, h8⟩ := bt_and h5
      have hrev : top = (top.reverse).reverse := (List.reverse_reverse top).symm
      generalize top.reverse = as at hrev h6
      subst hrev
      have hlen : as.length = an := by rw [← List.length_reverse]; exact h3
      exact bt_s_callS hd hls hlen (Nat.le_of_ble_eq_true h7) h6 (fun v σ' hNx _ => hN _ _ _ _ hNx)
  | ireturn =>
    simp only [bt_ck, Bool.and_eq_true, decide_eq_true_eq] at hck
    subst hck
    rcases S with _ | ⟨v, _ | ⟨w, r⟩⟩
    · exact h.elim
    rcases v with x | x | x
    · have hret : ∃ ty, mi.2.2.2 = some ty := by
        cases e : mi.2.2.2 with
        | none => simp only [bt_st, e] at h
        | some ty => exact ⟨ty, rfl⟩
      obtain ⟨ty, hty⟩ := hret
      simp only [bt_st, hty] at h
      cases ty <;> first | exact h.elim | exact bt_s_ret (v := some (vi x)) hd (Or.inl hty) h | exact bt_s_ret (v := some (vi x)) hd (Or.inr ⟨hty, h.1⟩) h.2
    · exact h.elim
    · exact h.elim
    · rcases v with x | x | x <;> exact h.elim
  | lreturn =>
    simp only [bt_ck, Bool.and_eq_true, decide_eq_true_eq] at hck
    subst hck
    simp only [bt_st] at h
    split at h
    · next x hty => exact bt_s_ret (v := some (vl x)) hd (by assumption) h
    · exact h.elim
  | areturn =>
    simp only [bt_ck, Bool.and_eq_true, decide_eq_true_eq] at hck
    subst hck
    simp only [bt_st] at h
    split at h
    · next x n hty => exact bt_s_ret (v := some (.inr (.inr x))) hd ⟨n, by assumption⟩ h
    · exact h.elim
  | return_ =>
    simp only [bt_ck, Bool.and_eq_true, decide_eq_true_eq] at hck
    subst hck
    simp only [bt_st] at h
    split at h
    · next hty => exact bt_s_ret (v := none) hd (by assumption) h
    · exact h.elim
  | _ => exact h.elim
theorem bt_dec_suf {bytes : ByteArray} {maxL : Nat} : ∀ (T : List bt_E) (c t : Nat), bt_dec bytes maxL c T = true → bt_dec bytes maxL t (bt_suf T c t) = true
  | [], c, t, h => rfl
  | en :: r, c, t, h => by
    unfold bt_suf
    cases hb : Nat.beq c t with
    | true =>
      rw [← bt_beqT hb]
      exact h
    | false =>
      have h2 : bt_dec bytes maxL (c + en.2.1) r = true := (bt_and h).2
      exact bt_dec_suf r _ t h2
theorem bt_links_suf {own : String} : ∀ (T : List bt_E) (c t : Nat), bt_links own T → bt_links own (bt_suf T c t)
  | [], c, t, h => trivial
  | en :: r, c, t, h => by
    unfold bt_suf
    cases hb : Nat.beq c t with
    | true => exact h
    | false => exact bt_links_suf r _ t h.2
/-- a code table is a method's own -/
def bt_T (mi : bt_MI) (T : List bt_E) : Prop := bt_dec mi.2.1 mi.2.2.1 0 T = true ∧ bt_links mi.1.cls T
theorem bt_ex_sound {P : bt_PT} {d : Nat} {mi : bt_MI} {K : Option av_T → st_T → Prop} {T : List bt_E} (hT : bt_T mi T) (cuts : List Nat) : ∀ (f pc : Nat) (rest : List bt_E) (L : List (Option av_T)) (S : List av_T) (σ : st_T), bt_dec mi.2.1 mi.2.2.1 pc rest = true → bt_links mi.1.cls rest → bt_ex P (bt_WP P d) (bt_Go P d mi K) K mi.2.2.2 T cuts f pc rest L S σ → bt_Go P d mi K pc L S σ
  | 0, pc, rest, L, S, σ, _, _, h => h
  | f + 1, pc, [], L, S, σ, _, _, h => h.elim
  | f + 1, pc, en :: rest, L, S, σ, hd, hl, h => by
    obtain ⟨h1, h2⟩ := bt_and hd
    obtain ⟨h3, h4⟩ := bt_and h1
    refine bt_sound (of_decide_eq_true h3) h4 hl.1 h (fun pc' L' S' σ' hN => ?_)
    rcases bt_ife_inv hN with ⟨-, q⟩ | ⟨-, q⟩
    · exact q
    · rcases bt_ife_inv q with ⟨q1, q2⟩ | ⟨-, q2⟩
      · rw [bt_beqT q1] at *
        exact bt_ex_sound hT cuts f _ rest L' S' σ' h2 hl.2 q2
      · exact bt_ex_sound hT cuts f pc' _ L' S' σ' (bt_dec_suf T 0 pc' hT.1) (bt_links_suf T 0 pc' hT.2) q2
/-- a method's rule: from a place on, up to the cut points -/
theorem bt_run {P : bt_PT} {d : Nat} {mi : bt_MI} {K : Option av_T → st_T → Prop} {T : List bt_E} (hT : bt_T mi T) (cuts : List Nat) (f pc : Nat) {L : List (Option av_T)} {S : List av_T} {σ : st_T} (h : bt_ex P (bt_WP P d) (bt_Go P d mi K) K mi.2.2.2 T cuts f pc (bt_suf T 0 pc) L S σ) : bt_Go P d mi K pc L S σ :=
  bt_ex_sound hT cuts f pc _ L S σ (bt_dec_suf T 0 pc hT.1) (bt_links_suf T 0 pc hT.2) h
-- ---------- a contract
def bt_spr : List av_T → List (Option av_T)
  | [] => []
  | v :: r => match v with
    | .inr (.inl _) => some v :: none :: bt_spr r
    | _ => some v :: bt_spr r
theorem bt_spr_sl (P : bt_PT) (n : Nat) : ∀ (as : List av_T) (i : Nat) (v : av_T), bt_nth none (bt_spr as) i = some v → (lg_sl (as.map (bt_va P)) ++ List.replicate n Slot.unset)[i]? = some (.val (bt_va P v))
  | [], i, v, h => by cases i <;> cases h
  | a :: r, i, v, h => by
    rcases a with x | x | x
    · have e : lg_sl (List.map (bt_va P) (.inl x :: r)) = .val (.int x) :: lg_sl (r.map (bt_va P)) := rfl
      rw [e]
      cases i with
      | zero => cases h; rfl
      | succ i => exact bt_spr_sl P n r i v h
    · have e : lg_sl (List.map (bt_va P) (.inr (.inl x) :: r)) = .val (.long x) :: .second :: lg_sl (r.map (bt_va P)) := rfl
      rw [e]
      match i, h with
      | 0, h => cases h; rfl
      | 1, h => cases h
      | i + 2, h => exact bt_spr_sl P n r i v h
    · have e : lg_sl (List.map (bt_va P) (.inr (.inr x) :: r)) = .val (bt_va P (.inr (.inr x))) :: lg_sl (r.map (bt_va P)) := by
        cases x <;> rfl
      rw [e]
      cases i with
      | zero => cases h; rfl
      | succ i => exact bt_spr_sl P n r i v h
theorem bt_spr_ok : ∀ (as : List av_T), (∀ a ∈ as, bt_okv a) → ∀ i v, bt_nth none (bt_spr as) i = some v → bt_okv v
  | [], _, i, v, h => by cases i <;> cases h
  | a :: r, ho, i, v, h => by
    have hr := fun a ha => ho a (List.mem_cons_of_mem _ ha)
    rcases a with x | x | x
    · cases i with
      | zero => cases h; trivial
      | succ i => exact bt_spr_ok r hr i v h
    · match i, h with
      | 0, h => cases h; trivial
      | 1, h => cases h
      | i + 2, h => exact bt_spr_ok r hr i v h
    · cases i with
      | zero => cases h; exact ho _ List.mem_cons_self
      | succ i => exact bt_spr_ok r hr i v h
def bt_wid : List av_T → Nat
  | [] => 0
  | v :: r => bt_cat v + bt_wid r
theorem bt_wid_sl (P : bt_PT) : ∀ as : List av_T, (lg_sl (as.map (bt_va P))).length = bt_wid as
  | [] => rfl
  | a :: r => by
    rcases a with x | x | x
    · show (Slot.val (.int x) :: lg_sl (r.map (bt_va P))).length = 1 + bt_wid r
      rw [List.length_cons, bt_wid_sl P r]; omega
    · show (Slot.val (.long x) :: Slot.second :: lg_sl (r.map (bt_va P))).length = 2 + bt_wid r
      rw [List.length_cons, List.length_cons, bt_wid_sl P r]; omega
    · have e : lg_sl (List.map (bt_va P) (.inr (.inr x) :: r)) = .val (bt_va P (.inr (.inr x))) :: lg_sl (r.map (bt_va P)) := by
        cases x <;> rfl
      rw [e, List.length_cons, bt_wid_sl P r]
      show _ = 1 + bt_wid r
      omega
set_option maxHeartbeats 2000000 in
theorem bt_met {P : bt_PT} {d : Nat} {mi : bt_MI} {K : Option av_T → st_T → Prop} {as : List av_T} {σ : st_T} (hp : plainName mi.1.cls = true) (hw : Nat.ble (bt_wid as) mi.2.2.1 = true) (h : bt_Go P d mi K 0 (bt_spr as) [] σ) : bt_WP P (d + 1) mi as σ K := by
  unfold bt_WP
  refine Met.ofW (cc := mi.2.1) (maxL := mi.2.2.1) (ret := mi.2.2.2) hp rfl ?_
  intro p e s m args below meth c s₁ B hml hv
  obtain ⟨rfl, ho, hP, hK, hSF, hokP, hNW⟩ := hv
  have hts := atoms_spec (ws := Cond.code mi.1 mi.2.1 mi.2.2.1 mi.2.2.2 :: bt_gw) B.pre
  have hC : bt_Cx P mi p s m (as.map (bt_va P)).toArray meth c := ⟨B.exec, B.bytes, hml, B.returns, B.notSynchronized, findClass_of_methodNamed B.named, fun w hw => hts w (List.mem_cons_of_mem _ hw), hK, hSF, hokP, hNW⟩
  have hle : (lg_sl (as.map (bt_va P))).length ≤ mi.2.2.1 := by rw [bt_wid_sl]; exact Nat.le_of_ble_eq_true hw
  have hl := lv_entry (as.map (bt_va P)) hle
  rw [lg_entry_eq]
  refine h p e (bt_rm (d + 1)) s m _ below meth c 0 0 _ ⟨hC, Nat.le_refl _, Nat.le_refl _, ⟨Nat.zero_le _, Nat.zero_le _⟩, ?_⟩ s.heap [] _ ⟨⟨hl.1, hl.2.1, fun i v hi => ?_⟩, (fun v hv => by cases hv), bt_spr_ok as ho, hP, va_S.rf⟩
  · intro r σ' H locs pc ls hKr hor hP1 hS hd hty
    have hx := B.exec
    have hb := B.bytes
    have hr := B.returns
    have hlocks := B.notSynchronized
    have hq : ∀ o : Outcome, o = .returned (r.map (bt_va P)) → ∀ t : State, t.heap = H → s.WarmedH t.vm → bt_Qc P K (as.map (bt_va P)).toArray s o t := fun o ho t ht _ => ⟨⟨r, σ', ho, hKr, hor, by rw [ht]; exact hP1⟩, hS.F ht⟩
    have hf : ∀ q ∈ locs, bt_A P q.base := hS.2.2
    rcases r with _ | (x | x | x)
    · exact W.vret hx hb (by rw [hr]; exact hty) (hq _ rfl) hf hd hlocks
    · rcases hty with hty | ⟨hty, h01⟩
      · exact W.iret hx hb (by rw [hr]; exact hty) (hq _ rfl) hf hd hlocks
      · exact W.zret (ty := .boolean) hx hb (by rw [hr]; exact hty) (by rcases h01 with rfl | rfl <;> rfl) (hq _ rfl) hf hd hlocks
    · exact W.lret hx hb (by rw [hr]; exact hty) (hq _ rfl) hf hd hlocks
    · obtain ⟨n, hty⟩ := hty
      cases x with
      | none => exact W.aret hx hb (by rw [hr]; exact hty) (Or.inl ⟨n, rfl⟩) (Or.inl rfl) (hq _ rfl) hf hd hlocks
      | some q => exact W.aret hx hb (by rw [hr]; exact hty) (Or.inl ⟨n, rfl⟩) (Or.inr ⟨_, rfl⟩) (hq _ rfl) hf hd hlocks
  · have := bt_spr_sl P (mi.2.2.1 - (lg_sl (as.map (bt_va P))).length) as i v hi
    simpa using this
theorem bt_WP_imp {P : bt_PT} {d : Nat} {mi : bt_MI} {K K' : Option av_T → st_T → Prop} {as : List av_T} {σ : st_T} (h : bt_WP P d mi as σ K) (hK : ∀ r σ', K r σ' → K' r σ') : bt_WP P d mi as σ K' := by
  intro p e ha hc hk s m args below hf happ hpre hkk
  obtain ⟨k, o, h1, h2, h3, ⟨⟨⟨r, σ', ho, hKr, hor, hPr⟩, hF⟩, hL⟩⟩ := h p e ha hc hk s m args below hf happ hpre hkk
  exact ⟨k, o, h1, h2, h3, ⟨⟨r, σ', ho, hK _ _ hKr, hor, hPr⟩, hF⟩, hL⟩
end
