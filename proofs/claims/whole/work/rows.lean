section
-- ===== PART A: goes FIRST, ahead of the names: the tables' words, and 'selects' of the private methods out of them =====
/-- a private method of a class that the tables say can be made, by its rows of tables_1 -/
def lw_okq (q : MethodName × Nat) : Prop := (q.1.cls ≠ "java/lang/invoke/MethodHandle" ∧ q.1.cls ≠ "java/lang/invoke/VarHandle") ∧ Cond.instantiable q.1.cls q.2 ∈ tables_1 ∧ Cond.privateMethod q.1 ∈ tables_1 ∧ Cond.instanceMethod q.1 ∈ tables_1
theorem lw_p0 : lw_okq (⟨"BellTrees$Forest", "slots", "(I)I"⟩, 7) := ⟨⟨by decide +kernel, by decide +kernel⟩, List.mem_of_getElem? (i := 24) (by decide +kernel), List.mem_of_getElem? (i := 286) (by decide +kernel), List.mem_of_getElem? (i := 287) (by decide +kernel)⟩
theorem lw_p1 : lw_okq (⟨"BellTrees", "shelfAt", "(I)LBellTrees$Shelf;"⟩, 9) := ⟨⟨by decide +kernel, by decide +kernel⟩, List.mem_of_getElem? (i := 16) (by decide +kernel), List.mem_of_getElem? (i := 294) (by decide +kernel), List.mem_of_getElem? (i := 295) (by decide +kernel)⟩
theorem lw_p2 : lw_okq (⟨"BellTrees", "plantFrom", "(LBellTrees$Shelf;II)Z"⟩, 9) := ⟨⟨by decide +kernel, by decide +kernel⟩, List.mem_of_getElem? (i := 16) (by decide +kernel), List.mem_of_getElem? (i := 306) (by decide +kernel), List.mem_of_getElem? (i := 307) (by decide +kernel)⟩
theorem lw_p3 : lw_okq (⟨"BellTrees$Changes", "dropOldest", "()V"⟩, 6) := ⟨⟨by decide +kernel, by decide +kernel⟩, List.mem_of_getElem? (i := 146) (by decide +kernel), List.mem_of_getElem? (i := 353) (by decide +kernel), List.mem_of_getElem? (i := 354) (by decide +kernel)⟩
theorem lw_p4 : lw_okq (⟨"BellTrees$Law", "readLines", "()Z"⟩, 15) := ⟨⟨by decide +kernel, by decide +kernel⟩, List.mem_of_getElem? (i := 60) (by decide +kernel), List.mem_of_getElem? (i := 402) (by decide +kernel), List.mem_of_getElem? (i := 403) (by decide +kernel)⟩
theorem lw_p5 : lw_okq (⟨"BellTrees$Law", "readLine", "()Z"⟩, 15) := ⟨⟨by decide +kernel, by decide +kernel⟩, List.mem_of_getElem? (i := 60) (by decide +kernel), List.mem_of_getElem? (i := 406) (by decide +kernel), List.mem_of_getElem? (i := 407) (by decide +kernel)⟩
theorem lw_p6 : lw_okq (⟨"BellTrees$Law", "readLevel", "(II)Z"⟩, 15) := ⟨⟨by decide +kernel, by decide +kernel⟩, List.mem_of_getElem? (i := 60) (by decide +kernel), List.mem_of_getElem? (i := 410) (by decide +kernel), List.mem_of_getElem? (i := 411) (by decide +kernel)⟩
theorem lw_p7 : lw_okq (⟨"BellTrees$Law", "readOperand", "(I)Z"⟩, 15) := ⟨⟨by decide +kernel, by decide +kernel⟩, List.mem_of_getElem? (i := 60) (by decide +kernel), List.mem_of_getElem? (i := 414) (by decide +kernel), List.mem_of_getElem? (i := 415) (by decide +kernel)⟩
theorem lw_p8 : lw_okq (⟨"BellTrees$Law", "next", "()I"⟩, 15) := ⟨⟨by decide +kernel, by decide +kernel⟩, List.mem_of_getElem? (i := 60) (by decide +kernel), List.mem_of_getElem? (i := 418) (by decide +kernel), List.mem_of_getElem? (i := 419) (by decide +kernel)⟩
theorem lw_p9 : lw_okq (⟨"BellTrees$Law", "readNumber", "()V"⟩, 15) := ⟨⟨by decide +kernel, by decide +kernel⟩, List.mem_of_getElem? (i := 60) (by decide +kernel), List.mem_of_getElem? (i := 422) (by decide +kernel), List.mem_of_getElem? (i := 423) (by decide +kernel)⟩
theorem lw_p10 : lw_okq (⟨"BellTrees$Law", "note", "(I)V"⟩, 15) := ⟨⟨by decide +kernel, by decide +kernel⟩, List.mem_of_getElem? (i := 60) (by decide +kernel), List.mem_of_getElem? (i := 426) (by decide +kernel), List.mem_of_getElem? (i := 427) (by decide +kernel)⟩
theorem lw_p11 : lw_okq (⟨"BellTrees$Law", "readClosing", "()Z"⟩, 15) := ⟨⟨by decide +kernel, by decide +kernel⟩, List.mem_of_getElem? (i := 60) (by decide +kernel), List.mem_of_getElem? (i := 433) (by decide +kernel), List.mem_of_getElem? (i := 434) (by decide +kernel)⟩
theorem lw_p12 : lw_okq (⟨"BellTrees$Sounds", "isHeard", "(I)Z"⟩, 4) := ⟨⟨by decide +kernel, by decide +kernel⟩, List.mem_of_getElem? (i := 112) (by decide +kernel), List.mem_of_getElem? (i := 469) (by decide +kernel), List.mem_of_getElem? (i := 470) (by decide +kernel)⟩
theorem lw_p13 : lw_okq (⟨"BellTrees$Law", "workOut", "()I"⟩, 15) := ⟨⟨by decide +kernel, by decide +kernel⟩, List.mem_of_getElem? (i := 60) (by decide +kernel), List.mem_of_getElem? (i := 477) (by decide +kernel), List.mem_of_getElem? (i := 478) (by decide +kernel)⟩
theorem lw_p14 : lw_okq (⟨"BellTrees$Law", "pop", "()I"⟩, 15) := ⟨⟨by decide +kernel, by decide +kernel⟩, List.mem_of_getElem? (i := 60) (by decide +kernel), List.mem_of_getElem? (i := 481) (by decide +kernel), List.mem_of_getElem? (i := 482) (by decide +kernel)⟩
theorem lw_p15 : lw_okq (⟨"BellTrees$Law", "valueBy", "(I)I"⟩, 15) := ⟨⟨by decide +kernel, by decide +kernel⟩, List.mem_of_getElem? (i := 60) (by decide +kernel), List.mem_of_getElem? (i := 485) (by decide +kernel), List.mem_of_getElem? (i := 486) (by decide +kernel)⟩
def lw_privs_1 : List (MethodName × Nat) := [(⟨"BellTrees$Forest", "slots", "(I)I"⟩, 7), (⟨"BellTrees", "shelfAt", "(I)LBellTrees$Shelf;"⟩, 9), (⟨"BellTrees", "plantFrom", "(LBellTrees$Shelf;II)Z"⟩, 9), (⟨"BellTrees$Changes", "dropOldest", "()V"⟩, 6), (⟨"BellTrees$Law", "readLines", "()Z"⟩, 15), (⟨"BellTrees$Law", "readLine", "()Z"⟩, 15), (⟨"BellTrees$Law", "readLevel", "(II)Z"⟩, 15), (⟨"BellTrees$Law", "readOperand", "(I)Z"⟩, 15), (⟨"BellTrees$Law", "next", "()I"⟩, 15), (⟨"BellTrees$Law", "readNumber", "()V"⟩, 15), (⟨"BellTrees$Law", "note", "(I)V"⟩, 15), (⟨"BellTrees$Law", "readClosing", "()Z"⟩, 15), (⟨"BellTrees$Sounds", "isHeard", "(I)Z"⟩, 4), (⟨"BellTrees$Law", "workOut", "()I"⟩, 15), (⟨"BellTrees$Law", "pop", "()I"⟩, 15), (⟨"BellTrees$Law", "valueBy", "(I)I"⟩, 15)]
theorem lw_r1 : ∀ q ∈ lw_privs_1, lw_okq q := List.forall_mem_cons.mpr ⟨lw_p0, List.forall_mem_cons.mpr ⟨lw_p1, List.forall_mem_cons.mpr ⟨lw_p2, List.forall_mem_cons.mpr ⟨lw_p3, List.forall_mem_cons.mpr ⟨lw_p4, List.forall_mem_cons.mpr ⟨lw_p5, List.forall_mem_cons.mpr ⟨lw_p6, List.forall_mem_cons.mpr ⟨lw_p7, List.forall_mem_cons.mpr ⟨lw_p8, List.forall_mem_cons.mpr ⟨lw_p9, List.forall_mem_cons.mpr ⟨lw_p10, List.forall_mem_cons.mpr ⟨lw_p11, List.forall_mem_cons.mpr ⟨lw_p12, List.forall_mem_cons.mpr ⟨lw_p13, List.forall_mem_cons.mpr ⟨lw_p14, List.forall_mem_cons.mpr ⟨lw_p15, fun _ h => absurd h List.not_mem_nil⟩⟩⟩⟩⟩⟩⟩⟩⟩⟩⟩⟩⟩⟩⟩⟩
theorem lw_p16 : lw_okq (⟨"BellTrees$Law", "named", "(I)I"⟩, 15) := ⟨⟨by decide +kernel, by decide +kernel⟩, List.mem_of_getElem? (i := 60) (by decide +kernel), List.mem_of_getElem? (i := 489) (by decide +kernel), List.mem_of_getElem? (i := 490) (by decide +kernel)⟩
theorem lw_p17 : lw_okq (⟨"BellTrees$Law", "push", "(I)V"⟩, 15) := ⟨⟨by decide +kernel, by decide +kernel⟩, List.mem_of_getElem? (i := 60) (by decide +kernel), List.mem_of_getElem? (i := 496) (by decide +kernel), List.mem_of_getElem? (i := 497) (by decide +kernel)⟩
theorem lw_p18 : lw_okq (⟨"BellTrees", "bookRefusal", "(LBellTrees$Shelf;IZ)I"⟩, 9) := ⟨⟨by decide +kernel, by decide +kernel⟩, List.mem_of_getElem? (i := 16) (by decide +kernel), List.mem_of_getElem? (i := 509) (by decide +kernel), List.mem_of_getElem? (i := 510) (by decide +kernel)⟩
theorem lw_p19 : lw_okq (⟨"BellTrees$Walks", "ways", "(II)I"⟩, 2) := ⟨⟨by decide +kernel, by decide +kernel⟩, List.mem_of_getElem? (i := 132) (by decide +kernel), List.mem_of_getElem? (i := 535) (by decide +kernel), List.mem_of_getElem? (i := 536) (by decide +kernel)⟩
theorem lw_p20 : lw_okq (⟨"BellTrees$Walks", "onwardAt", "(II)I"⟩, 2) := ⟨⟨by decide +kernel, by decide +kernel⟩, List.mem_of_getElem? (i := 132) (by decide +kernel), List.mem_of_getElem? (i := 540) (by decide +kernel), List.mem_of_getElem? (i := 541) (by decide +kernel)⟩
theorem lw_p21 : lw_okq (⟨"BellTrees$Walks", "fittingOf", "(II)I"⟩, 2) := ⟨⟨by decide +kernel, by decide +kernel⟩, List.mem_of_getElem? (i := 132) (by decide +kernel), List.mem_of_getElem? (i := 555) (by decide +kernel), List.mem_of_getElem? (i := 556) (by decide +kernel)⟩
theorem lw_p22 : lw_okq (⟨"BellTrees", "rowsRefusal", "(I)I"⟩, 9) := ⟨⟨by decide +kernel, by decide +kernel⟩, List.mem_of_getElem? (i := 16) (by decide +kernel), List.mem_of_getElem? (i := 577) (by decide +kernel), List.mem_of_getElem? (i := 578) (by decide +kernel)⟩
theorem lw_p23 : lw_okq (⟨"BellTrees$Walks", "quietest", "(II)I"⟩, 2) := ⟨⟨by decide +kernel, by decide +kernel⟩, List.mem_of_getElem? (i := 132) (by decide +kernel), List.mem_of_getElem? (i := 595) (by decide +kernel), List.mem_of_getElem? (i := 596) (by decide +kernel)⟩
theorem lw_p24 : lw_okq (⟨"BellTrees", "walkAndBookRefusal", "(II)I"⟩, 9) := ⟨⟨by decide +kernel, by decide +kernel⟩, List.mem_of_getElem? (i := 16) (by decide +kernel), List.mem_of_getElem? (i := 611) (by decide +kernel), List.mem_of_getElem? (i := 612) (by decide +kernel)⟩
theorem lw_p25 : lw_okq (⟨"BellTrees", "walksRefusal", "(I)I"⟩, 9) := ⟨⟨by decide +kernel, by decide +kernel⟩, List.mem_of_getElem? (i := 16) (by decide +kernel), List.mem_of_getElem? (i := 615) (by decide +kernel), List.mem_of_getElem? (i := 616) (by decide +kernel)⟩
theorem lw_p26 : lw_okq (⟨"BellTrees", "isWalk", "(LBellTrees$Shelf;)Z"⟩, 9) := ⟨⟨by decide +kernel, by decide +kernel⟩, List.mem_of_getElem? (i := 16) (by decide +kernel), List.mem_of_getElem? (i := 619) (by decide +kernel), List.mem_of_getElem? (i := 620) (by decide +kernel)⟩
theorem lw_p27 : lw_okq (⟨"BellTrees", "bellsGone", "(LBellTrees$Shelf;LBellTrees$Shelf;)I"⟩, 9) := ⟨⟨by decide +kernel, by decide +kernel⟩, List.mem_of_getElem? (i := 16) (by decide +kernel), List.mem_of_getElem? (i := 625) (by decide +kernel), List.mem_of_getElem? (i := 626) (by decide +kernel)⟩
theorem lw_p28 : lw_okq (⟨"BellTrees", "firstNotSo", "(LBellTrees$Shelf;LBellTrees$Shelf;I)I"⟩, 9) := ⟨⟨by decide +kernel, by decide +kernel⟩, List.mem_of_getElem? (i := 16) (by decide +kernel), List.mem_of_getElem? (i := 630) (by decide +kernel), List.mem_of_getElem? (i := 631) (by decide +kernel)⟩
theorem lw_p29 : lw_okq (⟨"BellTrees", "firstUnlike", "(LBellTrees$Shelf;LBellTrees$Shelf;LBellTrees$Sounds;I)I"⟩, 9) := ⟨⟨by decide +kernel, by decide +kernel⟩, List.mem_of_getElem? (i := 16) (by decide +kernel), List.mem_of_getElem? (i := 642) (by decide +kernel), List.mem_of_getElem? (i := 643) (by decide +kernel)⟩
theorem lw_p30 : lw_okq (⟨"BellTrees", "areTold", "(II)Z"⟩, 9) := ⟨⟨by decide +kernel, by decide +kernel⟩, List.mem_of_getElem? (i := 16) (by decide +kernel), List.mem_of_getElem? (i := 660) (by decide +kernel), List.mem_of_getElem? (i := 661) (by decide +kernel)⟩
theorem lw_p31 : lw_okq (⟨"BellTrees", "hasSound", "(LBellTrees$Shelf;I)Z"⟩, 9) := ⟨⟨by decide +kernel, by decide +kernel⟩, List.mem_of_getElem? (i := 16) (by decide +kernel), List.mem_of_getElem? (i := 664) (by decide +kernel), List.mem_of_getElem? (i := 665) (by decide +kernel)⟩
def lw_privs_2 : List (MethodName × Nat) := [(⟨"BellTrees$Law", "named", "(I)I"⟩, 15), (⟨"BellTrees$Law", "push", "(I)V"⟩, 15), (⟨"BellTrees", "bookRefusal", "(LBellTrees$Shelf;IZ)I"⟩, 9), (⟨"BellTrees$Walks", "ways", "(II)I"⟩, 2), (⟨"BellTrees$Walks", "onwardAt", "(II)I"⟩, 2), (⟨"BellTrees$Walks", "fittingOf", "(II)I"⟩, 2), (⟨"BellTrees", "rowsRefusal", "(I)I"⟩, 9), (⟨"BellTrees$Walks", "quietest", "(II)I"⟩, 2), (⟨"BellTrees", "walkAndBookRefusal", "(II)I"⟩, 9), (⟨"BellTrees", "walksRefusal", "(I)I"⟩, 9), (⟨"BellTrees", "isWalk", "(LBellTrees$Shelf;)Z"⟩, 9), (⟨"BellTrees", "bellsGone", "(LBellTrees$Shelf;LBellTrees$Shelf;)I"⟩, 9), (⟨"BellTrees", "firstNotSo", "(LBellTrees$Shelf;LBellTrees$Shelf;I)I"⟩, 9), (⟨"BellTrees", "firstUnlike", "(LBellTrees$Shelf;LBellTrees$Shelf;LBellTrees$Sounds;I)I"⟩, 9), (⟨"BellTrees", "areTold", "(II)Z"⟩, 9), (⟨"BellTrees", "hasSound", "(LBellTrees$Shelf;I)Z"⟩, 9)]
theorem lw_r2 : ∀ q ∈ lw_privs_2, lw_okq q := List.forall_mem_cons.mpr ⟨lw_p16, List.forall_mem_cons.mpr ⟨lw_p17, List.forall_mem_cons.mpr ⟨lw_p18, List.forall_mem_cons.mpr ⟨lw_p19, List.forall_mem_cons.mpr ⟨lw_p20, List.forall_mem_cons.mpr ⟨lw_p21, List.forall_mem_cons.mpr ⟨lw_p22, List.forall_mem_cons.mpr ⟨lw_p23, List.forall_mem_cons.mpr ⟨lw_p24, List.forall_mem_cons.mpr ⟨lw_p25, List.forall_mem_cons.mpr ⟨lw_p26, List.forall_mem_cons.mpr ⟨lw_p27, List.forall_mem_cons.mpr ⟨lw_p28, List.forall_mem_cons.mpr ⟨lw_p29, List.forall_mem_cons.mpr ⟨lw_p30, List.forall_mem_cons.mpr ⟨lw_p31, fun _ h => absurd h List.not_mem_nil⟩⟩⟩⟩⟩⟩⟩⟩⟩⟩⟩⟩⟩⟩⟩⟩
theorem lw_p32 : lw_okq (⟨"BellTrees$Forest", "isUnlikeWithout", "(I)Z"⟩, 7) := ⟨⟨by decide +kernel, by decide +kernel⟩, List.mem_of_getElem? (i := 24) (by decide +kernel), List.mem_of_getElem? (i := 678) (by decide +kernel), List.mem_of_getElem? (i := 679) (by decide +kernel)⟩
theorem lw_p33 : lw_okq (⟨"BellTrees", "drawWalkers", "(III)I"⟩, 9) := ⟨⟨by decide +kernel, by decide +kernel⟩, List.mem_of_getElem? (i := 16) (by decide +kernel), List.mem_of_getElem? (i := 687) (by decide +kernel), List.mem_of_getElem? (i := 688) (by decide +kernel)⟩
theorem lw_p34 : lw_okq (⟨"BellTrees$Bodies", "runOwn", "(III)I"⟩, 5) := ⟨⟨by decide +kernel, by decide +kernel⟩, List.mem_of_getElem? (i := 199) (by decide +kernel), List.mem_of_getElem? (i := 804) (by decide +kernel), List.mem_of_getElem? (i := 805) (by decide +kernel)⟩
theorem lw_p35 : lw_okq (⟨"BellTrees$Bodies", "runFrom", "(IIII)I"⟩, 5) := ⟨⟨by decide +kernel, by decide +kernel⟩, List.mem_of_getElem? (i := 199) (by decide +kernel), List.mem_of_getElem? (i := 808) (by decide +kernel), List.mem_of_getElem? (i := 809) (by decide +kernel)⟩
theorem lw_p36 : lw_okq (⟨"BellTrees$Bodies", "runBody", "(IIII)I"⟩, 5) := ⟨⟨by decide +kernel, by decide +kernel⟩, List.mem_of_getElem? (i := 199) (by decide +kernel), List.mem_of_getElem? (i := 814) (by decide +kernel), List.mem_of_getElem? (i := 815) (by decide +kernel)⟩
theorem lw_p37 : lw_okq (⟨"BellTrees$Bodies", "note", "(I)V"⟩, 5) := ⟨⟨by decide +kernel, by decide +kernel⟩, List.mem_of_getElem? (i := 199) (by decide +kernel), List.mem_of_getElem? (i := 818) (by decide +kernel), List.mem_of_getElem? (i := 819) (by decide +kernel)⟩
theorem lw_p38 : lw_okq (⟨"BellTrees$Bodies", "runAbove", "(IIII)I"⟩, 5) := ⟨⟨by decide +kernel, by decide +kernel⟩, List.mem_of_getElem? (i := 199) (by decide +kernel), List.mem_of_getElem? (i := 822) (by decide +kernel), List.mem_of_getElem? (i := 823) (by decide +kernel)⟩
theorem lw_p39 : lw_okq (⟨"BellTrees", "placeRefusal", "(LBellTrees$Shelf;I)I"⟩, 9) := ⟨⟨by decide +kernel, by decide +kernel⟩, List.mem_of_getElem? (i := 16) (by decide +kernel), List.mem_of_getElem? (i := 864) (by decide +kernel), List.mem_of_getElem? (i := 865) (by decide +kernel)⟩
theorem lw_p40 : lw_okq (⟨"BellTrees$Shelf", "lowest", "(J)J"⟩, 4) := ⟨⟨by decide +kernel, by decide +kernel⟩, List.mem_of_getElem? (i := 222) (by decide +kernel), List.mem_of_getElem? (i := 876) (by decide +kernel), List.mem_of_getElem? (i := 877) (by decide +kernel)⟩
theorem lw_p41 : lw_okq (⟨"BellTreesModel", "addTree", "(III)I"⟩, 53) := ⟨⟨by decide +kernel, by decide +kernel⟩, List.mem_of_getElem? (i := 933) (by decide +kernel), List.mem_of_getElem? (i := 1107) (by decide +kernel), List.mem_of_getElem? (i := 1108) (by decide +kernel)⟩
theorem lw_p42 : lw_okq (⟨"BellTreesModel", "isTree", "(I)Z"⟩, 53) := ⟨⟨by decide +kernel, by decide +kernel⟩, List.mem_of_getElem? (i := 933) (by decide +kernel), List.mem_of_getElem? (i := 1123) (by decide +kernel), List.mem_of_getElem? (i := 1124) (by decide +kernel)⟩
theorem lw_p43 : lw_okq (⟨"BellTreesModel", "areBeside", "(II)Z"⟩, 53) := ⟨⟨by decide +kernel, by decide +kernel⟩, List.mem_of_getElem? (i := 933) (by decide +kernel), List.mem_of_getElem? (i := 1127) (by decide +kernel), List.mem_of_getElem? (i := 1128) (by decide +kernel)⟩
theorem lw_p44 : lw_okq (⟨"BellTreesModel", "lays", "(III)V"⟩, 53) := ⟨⟨by decide +kernel, by decide +kernel⟩, List.mem_of_getElem? (i := 933) (by decide +kernel), List.mem_of_getElem? (i := 1135) (by decide +kernel), List.mem_of_getElem? (i := 1136) (by decide +kernel)⟩
theorem lw_p45 : lw_okq (⟨"BellTreesModel", "isThing", "(II)Z"⟩, 53) := ⟨⟨by decide +kernel, by decide +kernel⟩, List.mem_of_getElem? (i := 933) (by decide +kernel), List.mem_of_getElem? (i := 1147) (by decide +kernel), List.mem_of_getElem? (i := 1148) (by decide +kernel)⟩
theorem lw_p46 : lw_okq (⟨"BellTreesModel", "changes", "(III)I"⟩, 53) := ⟨⟨by decide +kernel, by decide +kernel⟩, List.mem_of_getElem? (i := 933) (by decide +kernel), List.mem_of_getElem? (i := 1157) (by decide +kernel), List.mem_of_getElem? (i := 1158) (by decide +kernel)⟩
theorem lw_p47 : lw_okq (⟨"BellTreesModel", "valueAt", "(II)I"⟩, 53) := ⟨⟨by decide +kernel, by decide +kernel⟩, List.mem_of_getElem? (i := 933) (by decide +kernel), List.mem_of_getElem? (i := 1161) (by decide +kernel), List.mem_of_getElem? (i := 1162) (by decide +kernel)⟩
def lw_privs_3 : List (MethodName × Nat) := [(⟨"BellTrees$Forest", "isUnlikeWithout", "(I)Z"⟩, 7), (⟨"BellTrees", "drawWalkers", "(III)I"⟩, 9), (⟨"BellTrees$Bodies", "runOwn", "(III)I"⟩, 5), (⟨"BellTrees$Bodies", "runFrom", "(IIII)I"⟩, 5), (⟨"BellTrees$Bodies", "runBody", "(IIII)I"⟩, 5), (⟨"BellTrees$Bodies", "note", "(I)V"⟩, 5), (⟨"BellTrees$Bodies", "runAbove", "(IIII)I"⟩, 5), (⟨"BellTrees", "placeRefusal", "(LBellTrees$Shelf;I)I"⟩, 9), (⟨"BellTrees$Shelf", "lowest", "(J)J"⟩, 4), (⟨"BellTreesModel", "addTree", "(III)I"⟩, 53), (⟨"BellTreesModel", "isTree", "(I)Z"⟩, 53), (⟨"BellTreesModel", "areBeside", "(II)Z"⟩, 53), (⟨"BellTreesModel", "lays", "(III)V"⟩, 53), (⟨"BellTreesModel", "isThing", "(II)Z"⟩, 53), (⟨"BellTreesModel", "changes", "(III)I"⟩, 53), (⟨"BellTreesModel", "valueAt", "(II)I"⟩, 53)]
theorem lw_r3 : ∀ q ∈ lw_privs_3, lw_okq q := List.forall_mem_cons.mpr ⟨lw_p32, List.forall_mem_cons.mpr ⟨lw_p33, List.forall_mem_cons.mpr ⟨lw_p34, List.forall_mem_cons.mpr ⟨lw_p35, List.forall_mem_cons.mpr ⟨lw_p36, List.forall_mem_cons.mpr ⟨lw_p37, List.forall_mem_cons.mpr ⟨lw_p38, List.forall_mem_cons.mpr ⟨lw_p39, List.forall_mem_cons.mpr ⟨lw_p40, List.forall_mem_cons.mpr ⟨lw_p41, List.forall_mem_cons.mpr ⟨lw_p42, List.forall_mem_cons.mpr ⟨lw_p43, List.forall_mem_cons.mpr ⟨lw_p44, List.forall_mem_cons.mpr ⟨lw_p45, List.forall_mem_cons.mpr ⟨lw_p46, List.forall_mem_cons.mpr ⟨lw_p47, fun _ h => absurd h List.not_mem_nil⟩⟩⟩⟩⟩⟩⟩⟩⟩⟩⟩⟩⟩⟩⟩⟩
theorem lw_p48 : lw_okq (⟨"BellTreesModel", "findFar", "()V"⟩, 53) := ⟨⟨by decide +kernel, by decide +kernel⟩, List.mem_of_getElem? (i := 933) (by decide +kernel), List.mem_of_getElem? (i := 1169) (by decide +kernel), List.mem_of_getElem? (i := 1170) (by decide +kernel)⟩
theorem lw_p49 : lw_okq (⟨"BellTreesModel", "readText", "(I)I"⟩, 53) := ⟨⟨by decide +kernel, by decide +kernel⟩, List.mem_of_getElem? (i := 933) (by decide +kernel), List.mem_of_getElem? (i := 1181) (by decide +kernel), List.mem_of_getElem? (i := 1182) (by decide +kernel)⟩
theorem lw_p50 : lw_okq (⟨"BellTreesModel", "line", "()V"⟩, 53) := ⟨⟨by decide +kernel, by decide +kernel⟩, List.mem_of_getElem? (i := 933) (by decide +kernel), List.mem_of_getElem? (i := 1185) (by decide +kernel), List.mem_of_getElem? (i := 1186) (by decide +kernel)⟩
theorem lw_p51 : lw_okq (⟨"BellTreesModel", "either", "()V"⟩, 53) := ⟨⟨by decide +kernel, by decide +kernel⟩, List.mem_of_getElem? (i := 933) (by decide +kernel), List.mem_of_getElem? (i := 1189) (by decide +kernel), List.mem_of_getElem? (i := 1190) (by decide +kernel)⟩
theorem lw_p52 : lw_okq (⟨"BellTreesModel", "both", "()V"⟩, 53) := ⟨⟨by decide +kernel, by decide +kernel⟩, List.mem_of_getElem? (i := 933) (by decide +kernel), List.mem_of_getElem? (i := 1193) (by decide +kernel), List.mem_of_getElem? (i := 1194) (by decide +kernel)⟩
theorem lw_p53 : lw_okq (⟨"BellTreesModel", "compared", "()V"⟩, 53) := ⟨⟨by decide +kernel, by decide +kernel⟩, List.mem_of_getElem? (i := 933) (by decide +kernel), List.mem_of_getElem? (i := 1197) (by decide +kernel), List.mem_of_getElem? (i := 1198) (by decide +kernel)⟩
theorem lw_p54 : lw_okq (⟨"BellTreesModel", "sum", "()V"⟩, 53) := ⟨⟨by decide +kernel, by decide +kernel⟩, List.mem_of_getElem? (i := 933) (by decide +kernel), List.mem_of_getElem? (i := 1201) (by decide +kernel), List.mem_of_getElem? (i := 1202) (by decide +kernel)⟩
theorem lw_p55 : lw_okq (⟨"BellTreesModel", "product", "()V"⟩, 53) := ⟨⟨by decide +kernel, by decide +kernel⟩, List.mem_of_getElem? (i := 933) (by decide +kernel), List.mem_of_getElem? (i := 1205) (by decide +kernel), List.mem_of_getElem? (i := 1206) (by decide +kernel)⟩
theorem lw_p56 : lw_okq (⟨"BellTreesModel", "operand", "()V"⟩, 53) := ⟨⟨by decide +kernel, by decide +kernel⟩, List.mem_of_getElem? (i := 933) (by decide +kernel), List.mem_of_getElem? (i := 1209) (by decide +kernel), List.mem_of_getElem? (i := 1210) (by decide +kernel)⟩
theorem lw_p57 : lw_okq (⟨"BellTreesModel", "look", "()I"⟩, 53) := ⟨⟨by decide +kernel, by decide +kernel⟩, List.mem_of_getElem? (i := 933) (by decide +kernel), List.mem_of_getElem? (i := 1213) (by decide +kernel), List.mem_of_getElem? (i := 1214) (by decide +kernel)⟩
theorem lw_p58 : lw_okq (⟨"BellTreesModel", "addStep", "(II)V"⟩, 53) := ⟨⟨by decide +kernel, by decide +kernel⟩, List.mem_of_getElem? (i := 933) (by decide +kernel), List.mem_of_getElem? (i := 1220) (by decide +kernel), List.mem_of_getElem? (i := 1221) (by decide +kernel)⟩
theorem lw_p59 : lw_okq (⟨"BellTreesModel", "opens", "()Z"⟩, 53) := ⟨⟨by decide +kernel, by decide +kernel⟩, List.mem_of_getElem? (i := 933) (by decide +kernel), List.mem_of_getElem? (i := 1224) (by decide +kernel), List.mem_of_getElem? (i := 1225) (by decide +kernel)⟩
theorem lw_p60 : lw_okq (⟨"BellTreesModel", "faulty", "()V"⟩, 53) := ⟨⟨by decide +kernel, by decide +kernel⟩, List.mem_of_getElem? (i := 933) (by decide +kernel), List.mem_of_getElem? (i := 1228) (by decide +kernel), List.mem_of_getElem? (i := 1229) (by decide +kernel)⟩
theorem lw_p61 : lw_okq (⟨"BellTreesModel", "figure", "()V"⟩, 53) := ⟨⟨by decide +kernel, by decide +kernel⟩, List.mem_of_getElem? (i := 933) (by decide +kernel), List.mem_of_getElem? (i := 1232) (by decide +kernel), List.mem_of_getElem? (i := 1233) (by decide +kernel)⟩
theorem lw_p62 : lw_okq (⟨"BellTreesModel", "soundOf", "(IIII)I"⟩, 53) := ⟨⟨by decide +kernel, by decide +kernel⟩, List.mem_of_getElem? (i := 933) (by decide +kernel), List.mem_of_getElem? (i := 1244) (by decide +kernel), List.mem_of_getElem? (i := 1245) (by decide +kernel)⟩
theorem lw_p63 : lw_okq (⟨"BellTreesModel", "isHeard", "(III)Z"⟩, 53) := ⟨⟨by decide +kernel, by decide +kernel⟩, List.mem_of_getElem? (i := 933) (by decide +kernel), List.mem_of_getElem? (i := 1248) (by decide +kernel), List.mem_of_getElem? (i := 1249) (by decide +kernel)⟩
def lw_privs_4 : List (MethodName × Nat) := [(⟨"BellTreesModel", "findFar", "()V"⟩, 53), (⟨"BellTreesModel", "readText", "(I)I"⟩, 53), (⟨"BellTreesModel", "line", "()V"⟩, 53), (⟨"BellTreesModel", "either", "()V"⟩, 53), (⟨"BellTreesModel", "both", "()V"⟩, 53), (⟨"BellTreesModel", "compared", "()V"⟩, 53), (⟨"BellTreesModel", "sum", "()V"⟩, 53), (⟨"BellTreesModel", "product", "()V"⟩, 53), (⟨"BellTreesModel", "operand", "()V"⟩, 53), (⟨"BellTreesModel", "look", "()I"⟩, 53), (⟨"BellTreesModel", "addStep", "(II)V"⟩, 53), (⟨"BellTreesModel", "opens", "()Z"⟩, 53), (⟨"BellTreesModel", "faulty", "()V"⟩, 53), (⟨"BellTreesModel", "figure", "()V"⟩, 53), (⟨"BellTreesModel", "soundOf", "(IIII)I"⟩, 53), (⟨"BellTreesModel", "isHeard", "(III)Z"⟩, 53)]
theorem lw_r4 : ∀ q ∈ lw_privs_4, lw_okq q := List.forall_mem_cons.mpr ⟨lw_p48, List.forall_mem_cons.mpr ⟨lw_p49, List.forall_mem_cons.mpr ⟨lw_p50, List.forall_mem_cons.mpr ⟨lw_p51, List.forall_mem_cons.mpr ⟨lw_p52, List.forall_mem_cons.mpr ⟨lw_p53, List.forall_mem_cons.mpr ⟨lw_p54, List.forall_mem_cons.mpr ⟨lw_p55, List.forall_mem_cons.mpr ⟨lw_p56, List.forall_mem_cons.mpr ⟨lw_p57, List.forall_mem_cons.mpr ⟨lw_p58, List.forall_mem_cons.mpr ⟨lw_p59, List.forall_mem_cons.mpr ⟨lw_p60, List.forall_mem_cons.mpr ⟨lw_p61, List.forall_mem_cons.mpr ⟨lw_p62, List.forall_mem_cons.mpr ⟨lw_p63, fun _ h => absurd h List.not_mem_nil⟩⟩⟩⟩⟩⟩⟩⟩⟩⟩⟩⟩⟩⟩⟩⟩
theorem lw_p64 : lw_okq (⟨"BellTreesModel", "gives", "(I)I"⟩, 53) := ⟨⟨by decide +kernel, by decide +kernel⟩, List.mem_of_getElem? (i := 933) (by decide +kernel), List.mem_of_getElem? (i := 1252) (by decide +kernel), List.mem_of_getElem? (i := 1253) (by decide +kernel)⟩
theorem lw_p65 : lw_okq (⟨"BellTreesModel", "worked", "(III)I"⟩, 53) := ⟨⟨by decide +kernel, by decide +kernel⟩, List.mem_of_getElem? (i := 933) (by decide +kernel), List.mem_of_getElem? (i := 1256) (by decide +kernel), List.mem_of_getElem? (i := 1257) (by decide +kernel)⟩
theorem lw_p66 : lw_okq (⟨"BellTreesModel", "rowFault", "(I)I"⟩, 53) := ⟨⟨by decide +kernel, by decide +kernel⟩, List.mem_of_getElem? (i := 933) (by decide +kernel), List.mem_of_getElem? (i := 1267) (by decide +kernel), List.mem_of_getElem? (i := 1268) (by decide +kernel)⟩
theorem lw_p67 : lw_okq (⟨"BellTreesModel", "minutesOf", "(I)I"⟩, 53) := ⟨⟨by decide +kernel, by decide +kernel⟩, List.mem_of_getElem? (i := 933) (by decide +kernel), List.mem_of_getElem? (i := 1271) (by decide +kernel), List.mem_of_getElem? (i := 1272) (by decide +kernel)⟩
theorem lw_p68 : lw_okq (⟨"BellTreesModel", "findWalks", "(II)V"⟩, 53) := ⟨⟨by decide +kernel, by decide +kernel⟩, List.mem_of_getElem? (i := 933) (by decide +kernel), List.mem_of_getElem? (i := 1275) (by decide +kernel), List.mem_of_getElem? (i := 1276) (by decide +kernel)⟩
theorem lw_p69 : lw_okq (⟨"BellTreesModel", "mayGo", "(II)Z"⟩, 53) := ⟨⟨by decide +kernel, by decide +kernel⟩, List.mem_of_getElem? (i := 933) (by decide +kernel), List.mem_of_getElem? (i := 1279) (by decide +kernel), List.mem_of_getElem? (i := 1280) (by decide +kernel)⟩
theorem lw_p70 : lw_okq (⟨"BellTreesModel", "told", "(II)J"⟩, 53) := ⟨⟨by decide +kernel, by decide +kernel⟩, List.mem_of_getElem? (i := 933) (by decide +kernel), List.mem_of_getElem? (i := 1287) (by decide +kernel), List.mem_of_getElem? (i := 1288) (by decide +kernel)⟩
theorem lw_p71 : lw_okq (⟨"BellTreesModel", "walksMany", "(I)I"⟩, 53) := ⟨⟨by decide +kernel, by decide +kernel⟩, List.mem_of_getElem? (i := 933) (by decide +kernel), List.mem_of_getElem? (i := 1291) (by decide +kernel), List.mem_of_getElem? (i := 1292) (by decide +kernel)⟩
theorem lw_p72 : lw_okq (⟨"BellTreesModel", "canBeOf", "(IIJ)Z"⟩, 53) := ⟨⟨by decide +kernel, by decide +kernel⟩, List.mem_of_getElem? (i := 933) (by decide +kernel), List.mem_of_getElem? (i := 1306) (by decide +kernel), List.mem_of_getElem? (i := 1307) (by decide +kernel)⟩
theorem lw_p73 : lw_okq (⟨"BellTreesModel", "findLeast", "(IIII)V"⟩, 53) := ⟨⟨by decide +kernel, by decide +kernel⟩, List.mem_of_getElem? (i := 933) (by decide +kernel), List.mem_of_getElem? (i := 1314) (by decide +kernel), List.mem_of_getElem? (i := 1315) (by decide +kernel)⟩
theorem lw_p74 : lw_okq (⟨"BellTreesModel", "soundIn", "(III)I"⟩, 53) := ⟨⟨by decide +kernel, by decide +kernel⟩, List.mem_of_getElem? (i := 933) (by decide +kernel), List.mem_of_getElem? (i := 1318) (by decide +kernel), List.mem_of_getElem? (i := 1319) (by decide +kernel)⟩
theorem lw_p75 : lw_okq (⟨"BellTreesModel", "rowsFault", "(I)I"⟩, 53) := ⟨⟨by decide +kernel, by decide +kernel⟩, List.mem_of_getElem? (i := 933) (by decide +kernel), List.mem_of_getElem? (i := 1330) (by decide +kernel), List.mem_of_getElem? (i := 1331) (by decide +kernel)⟩
theorem lw_p76 : lw_okq (⟨"BellTreesModel", "isWalk", "(I)Z"⟩, 53) := ⟨⟨by decide +kernel, by decide +kernel⟩, List.mem_of_getElem? (i := 933) (by decide +kernel), List.mem_of_getElem? (i := 1334) (by decide +kernel), List.mem_of_getElem? (i := 1335) (by decide +kernel)⟩
theorem lw_p77 : lw_okq (⟨"BellTreesModel", "bothHave", "(I)I"⟩, 53) := ⟨⟨by decide +kernel, by decide +kernel⟩, List.mem_of_getElem? (i := 933) (by decide +kernel), List.mem_of_getElem? (i := 1338) (by decide +kernel), List.mem_of_getElem? (i := 1339) (by decide +kernel)⟩
theorem lw_p78 : lw_okq (⟨"BellTreesModel", "walkedSound", "(IIII)I"⟩, 53) := ⟨⟨by decide +kernel, by decide +kernel⟩, List.mem_of_getElem? (i := 933) (by decide +kernel), List.mem_of_getElem? (i := 1342) (by decide +kernel), List.mem_of_getElem? (i := 1343) (by decide +kernel)⟩
theorem lw_p79 : lw_okq (⟨"BellTreesModel", "unlikeIn", "(IIIII)I"⟩, 53) := ⟨⟨by decide +kernel, by decide +kernel⟩, List.mem_of_getElem? (i := 933) (by decide +kernel), List.mem_of_getElem? (i := 1351) (by decide +kernel), List.mem_of_getElem? (i := 1352) (by decide +kernel)⟩
def lw_privs_5 : List (MethodName × Nat) := [(⟨"BellTreesModel", "gives", "(I)I"⟩, 53), (⟨"BellTreesModel", "worked", "(III)I"⟩, 53), (⟨"BellTreesModel", "rowFault", "(I)I"⟩, 53), (⟨"BellTreesModel", "minutesOf", "(I)I"⟩, 53), (⟨"BellTreesModel", "findWalks", "(II)V"⟩, 53), (⟨"BellTreesModel", "mayGo", "(II)Z"⟩, 53), (⟨"BellTreesModel", "told", "(II)J"⟩, 53), (⟨"BellTreesModel", "walksMany", "(I)I"⟩, 53), (⟨"BellTreesModel", "canBeOf", "(IIJ)Z"⟩, 53), (⟨"BellTreesModel", "findLeast", "(IIII)V"⟩, 53), (⟨"BellTreesModel", "soundIn", "(III)I"⟩, 53), (⟨"BellTreesModel", "rowsFault", "(I)I"⟩, 53), (⟨"BellTreesModel", "isWalk", "(I)Z"⟩, 53), (⟨"BellTreesModel", "bothHave", "(I)I"⟩, 53), (⟨"BellTreesModel", "walkedSound", "(IIII)I"⟩, 53), (⟨"BellTreesModel", "unlikeIn", "(IIIII)I"⟩, 53)]
theorem lw_r5 : ∀ q ∈ lw_privs_5, lw_okq q := List.forall_mem_cons.mpr ⟨lw_p64, List.forall_mem_cons.mpr ⟨lw_p65, List.forall_mem_cons.mpr ⟨lw_p66, List.forall_mem_cons.mpr ⟨lw_p67, List.forall_mem_cons.mpr ⟨lw_p68, List.forall_mem_cons.mpr ⟨lw_p69, List.forall_mem_cons.mpr ⟨lw_p70, List.forall_mem_cons.mpr ⟨lw_p71, List.forall_mem_cons.mpr ⟨lw_p72, List.forall_mem_cons.mpr ⟨lw_p73, List.forall_mem_cons.mpr ⟨lw_p74, List.forall_mem_cons.mpr ⟨lw_p75, List.forall_mem_cons.mpr ⟨lw_p76, List.forall_mem_cons.mpr ⟨lw_p77, List.forall_mem_cons.mpr ⟨lw_p78, List.forall_mem_cons.mpr ⟨lw_p79, fun _ h => absurd h List.not_mem_nil⟩⟩⟩⟩⟩⟩⟩⟩⟩⟩⟩⟩⟩⟩⟩⟩
theorem lw_p80 : lw_okq (⟨"BellTreesModel", "walksFault", "(I)I"⟩, 53) := ⟨⟨by decide +kernel, by decide +kernel⟩, List.mem_of_getElem? (i := 933) (by decide +kernel), List.mem_of_getElem? (i := 1359) (by decide +kernel), List.mem_of_getElem? (i := 1360) (by decide +kernel)⟩
theorem lw_p81 : lw_okq (⟨"BellTreesModel", "areEnough", "(III)Z"⟩, 53) := ⟨⟨by decide +kernel, by decide +kernel⟩, List.mem_of_getElem? (i := 933) (by decide +kernel), List.mem_of_getElem? (i := 1366) (by decide +kernel), List.mem_of_getElem? (i := 1367) (by decide +kernel)⟩
theorem lw_p82 : lw_okq (⟨"BellTreesModel", "hasSound", "(III)Z"⟩, 53) := ⟨⟨by decide +kernel, by decide +kernel⟩, List.mem_of_getElem? (i := 933) (by decide +kernel), List.mem_of_getElem? (i := 1370) (by decide +kernel), List.mem_of_getElem? (i := 1371) (by decide +kernel)⟩
theorem lw_p83 : lw_okq (⟨"BellTreesModel", "isTuned", "(I)Z"⟩, 53) := ⟨⟨by decide +kernel, by decide +kernel⟩, List.mem_of_getElem? (i := 933) (by decide +kernel), List.mem_of_getElem? (i := 1378) (by decide +kernel), List.mem_of_getElem? (i := 1379) (by decide +kernel)⟩
theorem lw_p84 : lw_okq (⟨"BellTreesModel", "draw", "(I)I"⟩, 53) := ⟨⟨by decide +kernel, by decide +kernel⟩, List.mem_of_getElem? (i := 933) (by decide +kernel), List.mem_of_getElem? (i := 1386) (by decide +kernel), List.mem_of_getElem? (i := 1387) (by decide +kernel)⟩
theorem lw_p85 : lw_okq (⟨"BellTreesModel", "neighbour", "(II)I"⟩, 53) := ⟨⟨by decide +kernel, by decide +kernel⟩, List.mem_of_getElem? (i := 933) (by decide +kernel), List.mem_of_getElem? (i := 1391) (by decide +kernel), List.mem_of_getElem? (i := 1392) (by decide +kernel)⟩
theorem lw_p86 : lw_okq (⟨"BellTreesModel", "isBody", "(I)Z"⟩, 53) := ⟨⟨by decide +kernel, by decide +kernel⟩, List.mem_of_getElem? (i := 933) (by decide +kernel), List.mem_of_getElem? (i := 1427) (by decide +kernel), List.mem_of_getElem? (i := 1428) (by decide +kernel)⟩
theorem lw_p87 : lw_okq (⟨"BellTreesModel", "ringing", "(II)I"⟩, 53) := ⟨⟨by decide +kernel, by decide +kernel⟩, List.mem_of_getElem? (i := 933) (by decide +kernel), List.mem_of_getElem? (i := 1431) (by decide +kernel), List.mem_of_getElem? (i := 1432) (by decide +kernel)⟩
theorem lw_p88 : lw_okq (⟨"BellTreesModel", "ran", "(I)V"⟩, 53) := ⟨⟨by decide +kernel, by decide +kernel⟩, List.mem_of_getElem? (i := 933) (by decide +kernel), List.mem_of_getElem? (i := 1438) (by decide +kernel), List.mem_of_getElem? (i := 1439) (by decide +kernel)⟩
theorem lw_p89 : lw_okq (⟨"BellTreesModel", "plainRings", "(II)I"⟩, 53) := ⟨⟨by decide +kernel, by decide +kernel⟩, List.mem_of_getElem? (i := 933) (by decide +kernel), List.mem_of_getElem? (i := 1442) (by decide +kernel), List.mem_of_getElem? (i := 1443) (by decide +kernel)⟩
theorem lw_p90 : lw_okq (⟨"BellTreesModel", "stolenRings", "(II)I"⟩, 53) := ⟨⟨by decide +kernel, by decide +kernel⟩, List.mem_of_getElem? (i := 933) (by decide +kernel), List.mem_of_getElem? (i := 1446) (by decide +kernel), List.mem_of_getElem? (i := 1447) (by decide +kernel)⟩
theorem lw_p91 : lw_okq (⟨"BellTreesModel", "brushing", "(II)I"⟩, 53) := ⟨⟨by decide +kernel, by decide +kernel⟩, List.mem_of_getElem? (i := 933) (by decide +kernel), List.mem_of_getElem? (i := 1450) (by decide +kernel), List.mem_of_getElem? (i := 1451) (by decide +kernel)⟩
theorem lw_p92 : lw_okq (⟨"BellTreesModel", "gustBrushes", "(II)I"⟩, 53) := ⟨⟨by decide +kernel, by decide +kernel⟩, List.mem_of_getElem? (i := 933) (by decide +kernel), List.mem_of_getElem? (i := 1454) (by decide +kernel), List.mem_of_getElem? (i := 1455) (by decide +kernel)⟩
theorem lw_p93 : lw_okq (⟨"BellTreesModel", "plainBrushes", "(II)I"⟩, 53) := ⟨⟨by decide +kernel, by decide +kernel⟩, List.mem_of_getElem? (i := 933) (by decide +kernel), List.mem_of_getElem? (i := 1458) (by decide +kernel), List.mem_of_getElem? (i := 1459) (by decide +kernel)⟩
theorem lw_p94 : lw_okq (⟨"BellTreesModel", "hearing", "(II)I"⟩, 53) := ⟨⟨by decide +kernel, by decide +kernel⟩, List.mem_of_getElem? (i := 933) (by decide +kernel), List.mem_of_getElem? (i := 1462) (by decide +kernel), List.mem_of_getElem? (i := 1463) (by decide +kernel)⟩
theorem lw_p95 : lw_okq (⟨"BellTreesModel", "owlHears", "(II)I"⟩, 53) := ⟨⟨by decide +kernel, by decide +kernel⟩, List.mem_of_getElem? (i := 933) (by decide +kernel), List.mem_of_getElem? (i := 1466) (by decide +kernel), List.mem_of_getElem? (i := 1467) (by decide +kernel)⟩
def lw_privs_6 : List (MethodName × Nat) := [(⟨"BellTreesModel", "walksFault", "(I)I"⟩, 53), (⟨"BellTreesModel", "areEnough", "(III)Z"⟩, 53), (⟨"BellTreesModel", "hasSound", "(III)Z"⟩, 53), (⟨"BellTreesModel", "isTuned", "(I)Z"⟩, 53), (⟨"BellTreesModel", "draw", "(I)I"⟩, 53), (⟨"BellTreesModel", "neighbour", "(II)I"⟩, 53), (⟨"BellTreesModel", "isBody", "(I)Z"⟩, 53), (⟨"BellTreesModel", "ringing", "(II)I"⟩, 53), (⟨"BellTreesModel", "ran", "(I)V"⟩, 53), (⟨"BellTreesModel", "plainRings", "(II)I"⟩, 53), (⟨"BellTreesModel", "stolenRings", "(II)I"⟩, 53), (⟨"BellTreesModel", "brushing", "(II)I"⟩, 53), (⟨"BellTreesModel", "gustBrushes", "(II)I"⟩, 53), (⟨"BellTreesModel", "plainBrushes", "(II)I"⟩, 53), (⟨"BellTreesModel", "hearing", "(II)I"⟩, 53), (⟨"BellTreesModel", "owlHears", "(II)I"⟩, 53)]
theorem lw_r6 : ∀ q ∈ lw_privs_6, lw_okq q := List.forall_mem_cons.mpr ⟨lw_p80, List.forall_mem_cons.mpr ⟨lw_p81, List.forall_mem_cons.mpr ⟨lw_p82, List.forall_mem_cons.mpr ⟨lw_p83, List.forall_mem_cons.mpr ⟨lw_p84, List.forall_mem_cons.mpr ⟨lw_p85, List.forall_mem_cons.mpr ⟨lw_p86, List.forall_mem_cons.mpr ⟨lw_p87, List.forall_mem_cons.mpr ⟨lw_p88, List.forall_mem_cons.mpr ⟨lw_p89, List.forall_mem_cons.mpr ⟨lw_p90, List.forall_mem_cons.mpr ⟨lw_p91, List.forall_mem_cons.mpr ⟨lw_p92, List.forall_mem_cons.mpr ⟨lw_p93, List.forall_mem_cons.mpr ⟨lw_p94, List.forall_mem_cons.mpr ⟨lw_p95, fun _ h => absurd h List.not_mem_nil⟩⟩⟩⟩⟩⟩⟩⟩⟩⟩⟩⟩⟩⟩⟩⟩
theorem lw_p96 : lw_okq (⟨"BellTreesModel", "plainHears", "(II)I"⟩, 53) := ⟨⟨by decide +kernel, by decide +kernel⟩, List.mem_of_getElem? (i := 933) (by decide +kernel), List.mem_of_getElem? (i := 1470) (by decide +kernel), List.mem_of_getElem? (i := 1471) (by decide +kernel)⟩
theorem lw_p97 : lw_okq (⟨"BellTreesModel", "writing", "(II)I"⟩, 53) := ⟨⟨by decide +kernel, by decide +kernel⟩, List.mem_of_getElem? (i := 933) (by decide +kernel), List.mem_of_getElem? (i := 1474) (by decide +kernel), List.mem_of_getElem? (i := 1475) (by decide +kernel)⟩
theorem lw_p98 : lw_okq (⟨"BellTreesModel", "plainWrites", "(II)I"⟩, 53) := ⟨⟨by decide +kernel, by decide +kernel⟩, List.mem_of_getElem? (i := 933) (by decide +kernel), List.mem_of_getElem? (i := 1478) (by decide +kernel), List.mem_of_getElem? (i := 1479) (by decide +kernel)⟩
theorem lw_p99 : lw_okq (⟨"BellTreesModel", "whyNoPlace", "(II)I"⟩, 53) := ⟨⟨by decide +kernel, by decide +kernel⟩, List.mem_of_getElem? (i := 933) (by decide +kernel), List.mem_of_getElem? (i := 1498) (by decide +kernel), List.mem_of_getElem? (i := 1499) (by decide +kernel)⟩
def lw_privs_7 : List (MethodName × Nat) := [(⟨"BellTreesModel", "plainHears", "(II)I"⟩, 53), (⟨"BellTreesModel", "writing", "(II)I"⟩, 53), (⟨"BellTreesModel", "plainWrites", "(II)I"⟩, 53), (⟨"BellTreesModel", "whyNoPlace", "(II)I"⟩, 53)]
theorem lw_r7 : ∀ q ∈ lw_privs_7, lw_okq q := List.forall_mem_cons.mpr ⟨lw_p96, List.forall_mem_cons.mpr ⟨lw_p97, List.forall_mem_cons.mpr ⟨lw_p98, List.forall_mem_cons.mpr ⟨lw_p99, fun _ h => absurd h List.not_mem_nil⟩⟩⟩⟩
def lw_privs : List (MethodName × Nat) := lw_privs_1 ++ (lw_privs_2 ++ (lw_privs_3 ++ (lw_privs_4 ++ (lw_privs_5 ++ (lw_privs_6 ++ (lw_privs_7))))))
def lw_tbl : List Cond := k2_sels lw_privs ++ tables_1
theorem lw_privs_ok : ∀ q ∈ lw_privs, lw_okq q := by
  show ∀ q ∈ lw_privs_1 ++ (lw_privs_2 ++ (lw_privs_3 ++ (lw_privs_4 ++ (lw_privs_5 ++ (lw_privs_6 ++ (lw_privs_7)))))), lw_okq q
  exact List.forall_mem_append.mpr ⟨lw_r1, List.forall_mem_append.mpr ⟨lw_r2, List.forall_mem_append.mpr ⟨lw_r3, List.forall_mem_append.mpr ⟨lw_r4, List.forall_mem_append.mpr ⟨lw_r5, List.forall_mem_append.mpr ⟨lw_r6, lw_r7⟩⟩⟩⟩⟩⟩
end
section
/-! printed by wip/whole/gen.py: the classes, their fields, the kinds of cells, the references, the static arrays -/
def bt_nth {α : Type} (d : α) : List α → Nat → α
  | [], _ => d
  | a :: _, 0 => a
  | _ :: r, n + 1 => bt_nth d r n
def bt_R0 : String := "BellTrees"
def bt_T0 : u_T := fun k => bt_nth ("", "", "", false) [("BellTrees", "forest", "LBellTrees$Forest;", true), ("BellTrees", "law", "LBellTrees$Law;", true), ("BellTrees", "sounds", "LBellTrees$Sounds;", true), ("BellTrees", "otherSounds", "LBellTrees$Sounds;", true), ("BellTrees", "walks", "LBellTrees$Walks;", true), ("BellTrees", "changes", "LBellTrees$Changes;", true), ("BellTrees", "image", "LBellTrees$Image;", true), ("BellTrees", "bodies", "LBellTrees$Bodies;", true), ("BellTrees", "shelves", "[LBellTrees$Shelf;", true)] k
def bt_ty0 : Nat → FieldType := fun k => bt_nth .int [(.object "BellTrees$Forest"), (.object "BellTrees$Law"), (.object "BellTrees$Sounds"), (.object "BellTrees$Sounds"), (.object "BellTrees$Walks"), (.object "BellTrees$Changes"), (.object "BellTrees$Image"), (.object "BellTrees$Bodies"), (.array (.object "BellTrees$Shelf"))] k
theorem bt_nm0 : ∀ a, a < 9 → ∀ b, b < 9 → a ≠ b → (bt_T0 a).2.1 ≠ (bt_T0 b).2.1 := by decide +kernel
theorem bt_tyok0 : ∀ k, k < 9 → parseFieldDescriptor (bt_T0 k).2.2.1 = some (bt_ty0 k) := by decide +kernel
theorem bt_in0 : ∀ w ∈ u_ws bt_R0 bt_T0 9, w ∈ lw_tbl := by
  intro w hw
  obtain ⟨k, hk, rfl⟩ := List.mem_map.mp hw
  have hk := List.mem_range.mp hk
  have h : ∀ k, k < 9 → lw_tbl[bt_nth 0 [350, 352, 354, 356, 358, 360, 362, 364, 366] k]? = some (u_lay bt_R0 bt_T0 k) := by decide +kernel
  exact List.mem_of_getElem? (h k hk)
theorem bt_inst0 : Cond.instantiable bt_R0 9 ∈ lw_tbl := List.mem_of_getElem? (i := 116) (by decide +kernel)
def bt_R1 : String := "BellTrees$Forest"
def bt_T1 : u_T := fun k => bt_nth ("", "", "", false) [("BellTrees$Forest", "value", "[[I", true), ("BellTrees$Forest", "near", "[I", true), ("BellTrees$Forest", "far", "[I", true), ("BellTrees$Forest", "heard", "[I", true), ("BellTrees$Forest", "treesThere", "I", false), ("BellTrees$Forest", "pathsThere", "I", false), ("BellTrees$Forest", "walksMade", "I", false)] k
def bt_ty1 : Nat → FieldType := fun k => bt_nth .int [(.array (.array .int)), (.array .int), (.array .int), (.array .int), .int, .int, .int] k
theorem bt_nm1 : ∀ a, a < 7 → ∀ b, b < 7 → a ≠ b → (bt_T1 a).2.1 ≠ (bt_T1 b).2.1 := by decide +kernel
theorem bt_tyok1 : ∀ k, k < 7 → parseFieldDescriptor (bt_T1 k).2.2.1 = some (bt_ty1 k) := by decide +kernel
theorem bt_in1 : ∀ w ∈ u_ws bt_R1 bt_T1 7, w ∈ lw_tbl := by
  intro w hw
  obtain ⟨k, hk, rfl⟩ := List.mem_map.mp hw
  have hk := List.mem_range.mp hk
  have h : ∀ k, k < 7 → lw_tbl[bt_nth 0 [143, 145, 147, 149, 151, 153, 155] k]? = some (u_lay bt_R1 bt_T1 k) := by decide +kernel
  exact List.mem_of_getElem? (h k hk)
theorem bt_inst1 : Cond.instantiable bt_R1 7 ∈ lw_tbl := List.mem_of_getElem? (i := 124) (by decide +kernel)
def bt_R2 : String := "BellTrees$Law"
def bt_T2 : u_T := fun k => bt_nth ("", "", "", false) [("BellTrees$Law", "tape", "[I", true), ("BellTrees$Law", "draft", "[I", true), ("BellTrees$Law", "signs", "[I", true), ("BellTrees$Law", "stack", "[I", true), ("BellTrees$Law", "fed", "I", false), ("BellTrees$Law", "at", "I", false), ("BellTrees$Law", "drafted", "I", false), ("BellTrees$Law", "length", "I", false), ("BellTrees$Law", "top", "I", false), ("BellTrees$Law", "loud", "I", false), ("BellTrees$Law", "far", "I", false), ("BellTrees$Law", "wind", "I", false), ("BellTrees$Law", "pitch", "I", false), ("BellTrees$Law", "snow", "I", false), ("BellTrees$Law", "sort", "I", false)] k
def bt_ty2 : Nat → FieldType := fun k => bt_nth .int [(.array .int), (.array .int), (.array .int), (.array .int), .int, .int, .int, .int, .int, .int, .int, .int, .int, .int, .int] k
theorem bt_nm2 : ∀ a, a < 15 → ∀ b, b < 15 → a ≠ b → (bt_T2 a).2.1 ≠ (bt_T2 b).2.1 := by decide +kernel
theorem bt_tyok2 : ∀ k, k < 15 → parseFieldDescriptor (bt_T2 k).2.2.1 = some (bt_ty2 k) := by decide +kernel
theorem bt_in2 : ∀ w ∈ u_ws bt_R2 bt_T2 15, w ∈ lw_tbl := by
  intro w hw
  obtain ⟨k, hk, rfl⟩ := List.mem_map.mp hw
  have hk := List.mem_range.mp hk
  have h : ∀ k, k < 15 → lw_tbl[bt_nth 0 [180, 182, 184, 186, 188, 190, 192, 194, 196, 198, 200, 202, 204, 206, 208] k]? = some (u_lay bt_R2 bt_T2 k) := by decide +kernel
  exact List.mem_of_getElem? (h k hk)
theorem bt_inst2 : Cond.instantiable bt_R2 15 ∈ lw_tbl := List.mem_of_getElem? (i := 160) (by decide +kernel)
def bt_R3 : String := "BellTrees$Sounds"
def bt_T3 : u_T := fun k => bt_nth ("", "", "", false) [("BellTrees$Sounds", "forest", "LBellTrees$Forest;", true), ("BellTrees$Sounds", "law", "LBellTrees$Law;", true), ("BellTrees$Sounds", "sound", "[[I", true), ("BellTrees$Sounds", "heardIn", "[I", true)] k
def bt_ty3 : Nat → FieldType := fun k => bt_nth .int [(.object "BellTrees$Forest"), (.object "BellTrees$Law"), (.array (.array .int)), (.array .int)] k
theorem bt_nm3 : ∀ a, a < 4 → ∀ b, b < 4 → a ≠ b → (bt_T3 a).2.1 ≠ (bt_T3 b).2.1 := by decide +kernel
theorem bt_tyok3 : ∀ k, k < 4 → parseFieldDescriptor (bt_T3 k).2.2.1 = some (bt_ty3 k) := by decide +kernel
theorem bt_in3 : ∀ w ∈ u_ws bt_R3 bt_T3 4, w ∈ lw_tbl := by
  intro w hw
  obtain ⟨k, hk, rfl⟩ := List.mem_map.mp hw
  have hk := List.mem_range.mp hk
  have h : ∀ k, k < 4 → lw_tbl[bt_nth 0 [222, 224, 226, 228] k]? = some (u_lay bt_R3 bt_T3 k) := by decide +kernel
  exact List.mem_of_getElem? (h k hk)
theorem bt_inst3 : Cond.instantiable bt_R3 4 ∈ lw_tbl := List.mem_of_getElem? (i := 212) (by decide +kernel)
def bt_R4 : String := "BellTrees$Walks"
def bt_T4 : u_T := fun k => bt_nth ("", "", "", false) [("BellTrees$Walks", "forest", "LBellTrees$Forest;", true), ("BellTrees$Walks", "onward", "[[I", true)] k
def bt_ty4 : Nat → FieldType := fun k => bt_nth .int [(.object "BellTrees$Forest"), (.array (.array .int))] k
theorem bt_nm4 : ∀ a, a < 2 → ∀ b, b < 2 → a ≠ b → (bt_T4 a).2.1 ≠ (bt_T4 b).2.1 := by decide +kernel
theorem bt_tyok4 : ∀ k, k < 2 → parseFieldDescriptor (bt_T4 k).2.2.1 = some (bt_ty4 k) := by decide +kernel
theorem bt_in4 : ∀ w ∈ u_ws bt_R4 bt_T4 2, w ∈ lw_tbl := by
  intro w hw
  obtain ⟨k, hk, rfl⟩ := List.mem_map.mp hw
  have hk := List.mem_range.mp hk
  have h : ∀ k, k < 2 → lw_tbl[bt_nth 0 [240, 242] k]? = some (u_lay bt_R4 bt_T4 k) := by decide +kernel
  exact List.mem_of_getElem? (h k hk)
theorem bt_inst4 : Cond.instantiable bt_R4 2 ∈ lw_tbl := List.mem_of_getElem? (i := 232) (by decide +kernel)
def bt_R5 : String := "BellTrees$Changes"
def bt_T5 : u_T := fun k => bt_nth ("", "", "", false) [("BellTrees$Changes", "what", "[I", true), ("BellTrees$Changes", "number", "[I", true), ("BellTrees$Changes", "was", "[I", true), ("BellTrees$Changes", "became", "[I", true), ("BellTrees$Changes", "done", "I", false), ("BellTrees$Changes", "kept", "I", false)] k
def bt_ty5 : Nat → FieldType := fun k => bt_nth .int [(.array .int), (.array .int), (.array .int), (.array .int), .int, .int] k
theorem bt_nm5 : ∀ a, a < 6 → ∀ b, b < 6 → a ≠ b → (bt_T5 a).2.1 ≠ (bt_T5 b).2.1 := by decide +kernel
theorem bt_tyok5 : ∀ k, k < 6 → parseFieldDescriptor (bt_T5 k).2.2.1 = some (bt_ty5 k) := by decide +kernel
theorem bt_in5 : ∀ w ∈ u_ws bt_R5 bt_T5 6, w ∈ lw_tbl := by
  intro w hw
  obtain ⟨k, hk, rfl⟩ := List.mem_map.mp hw
  have hk := List.mem_range.mp hk
  have h : ∀ k, k < 6 → lw_tbl[bt_nth 0 [257, 259, 261, 263, 265, 267] k]? = some (u_lay bt_R5 bt_T5 k) := by decide +kernel
  exact List.mem_of_getElem? (h k hk)
theorem bt_inst5 : Cond.instantiable bt_R5 6 ∈ lw_tbl := List.mem_of_getElem? (i := 246) (by decide +kernel)
def bt_R6 : String := "BellTrees$Image"
def bt_T6 : u_T := fun k => bt_nth ("", "", "", false) [("BellTrees$Image", "pitch", "[I", true), ("BellTrees$Image", "hangs", "[I", true), ("BellTrees$Image", "there", "[I", true), ("BellTrees$Image", "heard", "[I", true), ("BellTrees$Image", "stands", "Z", false), ("BellTrees$Image", "treesKnown", "I", false), ("BellTrees$Image", "walksKnown", "I", false)] k
def bt_ty6 : Nat → FieldType := fun k => bt_nth .int [(.array .int), (.array .int), (.array .int), (.array .int), .boolean, .int, .int] k
theorem bt_nm6 : ∀ a, a < 7 → ∀ b, b < 7 → a ≠ b → (bt_T6 a).2.1 ≠ (bt_T6 b).2.1 := by decide +kernel
theorem bt_tyok6 : ∀ k, k < 7 → parseFieldDescriptor (bt_T6 k).2.2.1 = some (bt_ty6 k) := by decide +kernel
theorem bt_in6 : ∀ w ∈ u_ws bt_R6 bt_T6 7, w ∈ lw_tbl := by
  intro w hw
  obtain ⟨k, hk, rfl⟩ := List.mem_map.mp hw
  have hk := List.mem_range.mp hk
  have h : ∀ k, k < 7 → lw_tbl[bt_nth 0 [283, 285, 287, 289, 291, 293, 295] k]? = some (u_lay bt_R6 bt_T6 k) := by decide +kernel
  exact List.mem_of_getElem? (h k hk)
theorem bt_inst6 : Cond.instantiable bt_R6 7 ∈ lw_tbl := List.mem_of_getElem? (i := 271) (by decide +kernel)
def bt_R7 : String := "BellTrees$Bodies"
def bt_T7 : u_T := fun k => bt_nth ("", "", "", false) [("BellTrees$Bodies", "kinds", "[I", true), ("BellTrees$Bodies", "ranFirst", "[I", true), ("BellTrees$Bodies", "bodiesKept", "I", false), ("BellTrees$Bodies", "ran", "I", false), ("BellTrees$Bodies", "actor", "I", false)] k
def bt_ty7 : Nat → FieldType := fun k => bt_nth .int [(.array .int), (.array .int), .int, .int, .int] k
theorem bt_nm7 : ∀ a, a < 5 → ∀ b, b < 5 → a ≠ b → (bt_T7 a).2.1 ≠ (bt_T7 b).2.1 := by decide +kernel
theorem bt_tyok7 : ∀ k, k < 5 → parseFieldDescriptor (bt_T7 k).2.2.1 = some (bt_ty7 k) := by decide +kernel
theorem bt_in7 : ∀ w ∈ u_ws bt_R7 bt_T7 5, w ∈ lw_tbl := by
  intro w hw
  obtain ⟨k, hk, rfl⟩ := List.mem_map.mp hw
  have hk := List.mem_range.mp hk
  have h : ∀ k, k < 5 → lw_tbl[bt_nth 0 [309, 311, 313, 315, 317] k]? = some (u_lay bt_R7 bt_T7 k) := by decide +kernel
  exact List.mem_of_getElem? (h k hk)
theorem bt_inst7 : Cond.instantiable bt_R7 5 ∈ lw_tbl := List.mem_of_getElem? (i := 299) (by decide +kernel)
def bt_R8 : String := "BellTrees$Shelf"
def bt_T8 : u_T := fun k => bt_nth ("", "", "", false) [("BellTrees$Shelf", "elements", "[J", true), ("BellTrees$Shelf", "heldBody", "I", false), ("BellTrees$Shelf", "rowSort", "I", false), ("BellTrees$Shelf", "size", "I", false)] k
def bt_ty8 : Nat → FieldType := fun k => bt_nth .int [(.array .long), .int, .int, .int] k
theorem bt_nm8 : ∀ a, a < 4 → ∀ b, b < 4 → a ≠ b → (bt_T8 a).2.1 ≠ (bt_T8 b).2.1 := by decide +kernel
theorem bt_tyok8 : ∀ k, k < 4 → parseFieldDescriptor (bt_T8 k).2.2.1 = some (bt_ty8 k) := by decide +kernel
theorem bt_in8 : ∀ w ∈ u_ws bt_R8 bt_T8 4, w ∈ lw_tbl := by
  intro w hw
  obtain ⟨k, hk, rfl⟩ := List.mem_map.mp hw
  have hk := List.mem_range.mp hk
  have h : ∀ k, k < 4 → lw_tbl[bt_nth 0 [331, 333, 335, 337] k]? = some (u_lay bt_R8 bt_T8 k) := by decide +kernel
  exact List.mem_of_getElem? (h k hk)
theorem bt_inst8 : Cond.instantiable bt_R8 4 ∈ lw_tbl := List.mem_of_getElem? (i := 322) (by decide +kernel)
def bt_R9 : String := "BellTreesModel"
def bt_T9 : u_T := fun k => bt_nth ("", "", "", false) [("BellTreesModel", "code", "I", false), ("BellTreesModel", "trees", "I", false), ("BellTreesModel", "pitch", "[I", true), ("BellTreesModel", "loud", "[I", true), ("BellTreesModel", "hangs", "[I", true), ("BellTreesModel", "there", "[I", true), ("BellTreesModel", "beside", "[I", true), ("BellTreesModel", "heard", "[I", true), ("BellTreesModel", "paths", "I", false), ("BellTreesModel", "walks", "I", false), ("BellTreesModel", "wind", "[I", true), ("BellTreesModel", "height", "[I", true), ("BellTreesModel", "snow", "I", false), ("BellTreesModel", "hut", "I", false), ("BellTreesModel", "doneMany", "I", false), ("BellTreesModel", "undoneMany", "I", false), ("BellTreesModel", "changeOf", "[I", true), ("BellTreesModel", "changeAt", "[I", true), ("BellTreesModel", "before", "[I", true), ("BellTreesModel", "behind", "[I", true), ("BellTreesModel", "far", "[I", true), ("BellTreesModel", "tape", "[B", true), ("BellTreesModel", "taped", "I", false), ("BellTreesModel", "here", "I", false), ("BellTreesModel", "fault", "I", false), ("BellTreesModel", "open", "I", false), ("BellTreesModel", "laid", "I", false), ("BellTreesModel", "act", "[B", true), ("BellTreesModel", "with", "[I", true), ("BellTreesModel", "lineMany", "[I", true), ("BellTreesModel", "testEnd", "[S", true), ("BellTreesModel", "lineEnd", "[S", true), ("BellTreesModel", "facts", "[I", true), ("BellTreesModel", "pile", "[I", true), ("BellTreesModel", "hasLaw", "Z", false), ("BellTreesModel", "onward", "[J", true), ("BellTreesModel", "upTo", "[J", true), ("BellTreesModel", "least1", "[I", true), ("BellTreesModel", "drawn", "I", false), ("BellTreesModel", "keptTrees", "I", false), ("BellTreesModel", "keptWalks", "I", false), ("BellTreesModel", "keptPitch", "[I", true), ("BellTreesModel", "keptHangs", "[I", true), ("BellTreesModel", "keptThere", "[I", true), ("BellTreesModel", "keptHeard", "[I", true), ("BellTreesModel", "bodies", "I", false), ("BellTreesModel", "kind", "[I", true), ("BellTreesModel", "traces", "I", false), ("BellTreesModel", "traced", "[I", true), ("BellTreesModel", "holds", "[I", true), ("BellTreesModel", "size", "[I", true), ("BellTreesModel", "elements", "[J", true), ("BellTreesModel", "shifted", "[J", true)] k
def bt_ty9 : Nat → FieldType := fun k => bt_nth .int [.int, .int, (.array .int), (.array .int), (.array .int), (.array .int), (.array .int), (.array .int), .int, .int, (.array .int), (.array .int), .int, .int, .int, .int, (.array .int), (.array .int), (.array .int), (.array .int), (.array .int), (.array .byte), .int, .int, .int, .int, .int, (.array .byte), (.array .int), (.array .int), (.array .short), (.array .short), (.array .int), (.array .int), .boolean, (.array .long), (.array .long), (.array .int), .int, .int, .int, (.array .int), (.array .int), (.array .int), (.array .int), .int, (.array .int), .int, (.array .int), (.array .int), (.array .int), (.array .long), (.array .long)] k
theorem bt_nm9 : ∀ a, a < 53 → ∀ b, b < 53 → a ≠ b → (bt_T9 a).2.1 ≠ (bt_T9 b).2.1 := by decide +kernel
theorem bt_tyok9 : ∀ k, k < 53 → parseFieldDescriptor (bt_T9 k).2.2.1 = some (bt_ty9 k) := by decide +kernel
theorem bt_in9 : ∀ w ∈ u_ws bt_R9 bt_T9 53, w ∈ lw_tbl := by
  intro w hw
  obtain ⟨k, hk, rfl⟩ := List.mem_map.mp hw
  have hk := List.mem_range.mp hk
  have h : ∀ k, k < 53 → lw_tbl[bt_nth 0 [1090, 1092, 1094, 1096, 1098, 1100, 1102, 1104, 1106, 1108, 1110, 1112, 1114, 1116, 1118, 1120, 1122, 1124, 1126, 1128, 1130, 1132, 1134, 1136, 1138, 1140, 1142, 1144, 1146, 1148, 1150, 1152, 1154, 1156, 1158, 1160, 1162, 1164, 1166, 1168, 1170, 1172, 1174, 1176, 1178, 1180, 1182, 1184, 1186, 1188, 1190, 1192, 1194] k]? = some (u_lay bt_R9 bt_T9 k) := by decide +kernel
  exact List.mem_of_getElem? (h k hk)
theorem bt_inst9 : Cond.instantiable bt_R9 53 ∈ lw_tbl := List.mem_of_getElem? (i := 1033) (by decide +kernel)
abbrev bt_cl : List vw_C := [(bt_R0, bt_T0, 9), (bt_R1, bt_T1, 7), (bt_R2, bt_T2, 15), (bt_R3, bt_T3, 4), (bt_R4, bt_T4, 2), (bt_R5, bt_T5, 6), (bt_R6, bt_T6, 7), (bt_R7, bt_T7, 5), (bt_R8, bt_T8, 4), (bt_R9, bt_T9, 53)]
/-- what a field is: 0 int, 1 boolean, 2 a reference -/
def bt_fk (c j : Nat) : Nat := bt_nth 9 (bt_nth [] [[2, 2, 2, 2, 2, 2, 2, 2, 2], [2, 2, 2, 2, 0, 0, 0], [2, 2, 2, 2, 0, 0, 0, 0, 0, 0, 0, 0, 0, 0, 0], [2, 2, 2, 2], [2, 2], [2, 2, 2, 2, 0, 0], [2, 2, 2, 2, 1, 0, 0], [2, 2, 0, 0, 0], [2, 0, 0, 0], [0, 0, 2, 2, 2, 2, 2, 2, 0, 0, 2, 2, 0, 0, 0, 0, 2, 2, 2, 2, 2, 2, 0, 0, 0, 0, 0, 2, 2, 2, 2, 2, 2, 2, 1, 2, 2, 2, 0, 0, 0, 2, 2, 2, 2, 0, 2, 0, 2, 2, 2, 2, 2]] c) j
def bt_nf (c : Nat) : Nat := bt_nth 0 [9, 7, 15, 4, 2, 6, 7, 5, 4, 53] c
-- kinds: 0 BellTrees, 1 Forest, 2 value, 3 value rows, 4 near, 5 far, 6 heard, 7 Law, 8 tape, 9 draft, 10 signs, 11 stack, 12 Sounds, 13 sound, 14 sound rows, 15 heardIn, 16 Walks, 17 onward, 18 onward rows, 19 Changes, 20 what, 21 number, 22 was, 23 became, 24 Image, 25 i.pitch, 26 i.hangs, 27 i.there, 28 i.heard, 29 Bodies, 30 kinds, 31 ranFirst, 32 shelves, 33 Shelf, 34 elements, 35 Model, 36 m.pitch, 37 m.loud, 38 m.hangs, 39 m.there, 40 m.beside, 41 m.heard, 42 m.wind, 43 m.height, 44 m.changeOf, 45 m.changeAt, 46 m.before, 47 m.behind, 48 m.far, 49 m.tape, 50 m.act, 51 m.with, 52 m.lineMany, 53 m.testEnd, 54 m.lineEnd, 55 m.facts, 56 m.pile, 57 m.onward, 58 m.upTo, 59 m.least1, 60 m.keptPitch, 61 m.keptHangs, 62 m.keptThere, 63 m.keptHeard, 64 m.kind, 65 m.traced, 66 m.holds, 67 m.size, 68 m.elements, 69 m.shifted
/-- the shape of a kind: 0 an object of the c-th of bt_cl; 1 ints, 2 longs, 3 bytes, 4 shorts, 5 rows of ints, 6 Shelf; how long -/
def bt_shp (k : Nat) : Nat × Nat := bt_nth (9, 0) [(0, 0), (0, 1), (5, 8), (1, 24), (1, 8), (1, 8), (1, 8), (0, 2), (1, 120), (1, 128), (1, 128), (1, 128), (0, 3), (5, 8), (1, 24), (1, 10), (0, 4), (5, 24), (1, 8), (0, 5), (1, 40), (1, 40), (1, 40), (1, 40), (0, 6), (1, 8), (1, 8), (1, 8), (1, 8), (0, 7), (1, 50), (1, 24), (6, 6), (0, 8), (2, 60), (0, 9), (1, 8), (1, 8), (1, 8), (1, 8), (1, 8), (1, 8), (1, 24), (1, 4), (1, 40), (1, 40), (1, 40), (1, 40), (1, 8), (3, 120), (3, 260), (1, 260), (1, 2), (4, 122), (4, 122), (1, 6), (1, 130), (2, 200), (2, 192), (1, 192), (1, 8), (1, 8), (1, 8), (1, 8), (1, 50), (1, 24), (1, 6), (1, 6), (2, 360), (2, 60)] k
def bt_cntL : List Nat := [1, 1, 1, 8, 1, 1, 1, 1, 1, 1, 1, 1, 2, 2, 16, 2, 1, 1, 24, 1, 1, 1, 1, 1, 1, 1, 1, 1, 1, 1, 1, 1, 1, 6, 6, 1, 1, 1, 1, 1, 1, 1, 1, 1, 1, 1, 1, 1, 1, 1, 1, 1, 1, 1, 1, 1, 1, 1, 1, 1, 1, 1, 1, 1, 1, 1, 1, 1, 1, 1]
/-- how many cells of a kind there are (100 on: the static arrays) -/
def bt_cnt (k : Nat) : Nat := bt_nth 0 bt_cntL k
def bt_NK : Nat := 70
def bt_bas (k : Nat) : Nat := bt_nth 0 [0, 1, 2, 3, 11, 12, 13, 14, 15, 16, 17, 18, 19, 21, 23, 39, 41, 42, 43, 67, 68, 69, 70, 71, 72, 73, 74, 75, 76, 77, 78, 79, 80, 81, 87, 93, 94, 95, 96, 97, 98, 99, 100, 101, 102, 103, 104, 105, 106, 107, 108, 109, 110, 111, 112, 113, 114, 115, 116, 117, 118, 119, 120, 121, 122, 123, 124, 125, 126, 127] k
def bt_NMS : List (Nat × Nat) := (List.range bt_NK).flatMap (fun k => (List.range (bt_cnt k)).map (fun i => (k, i)))
def bt_RF (k i j : Nat) : Option (Nat × Nat) := bt_nth (fun _ _ => none) [fun i j => bt_nth none [some (1, 0), some (7, 0), some (12, 0), some (12, 1), some (16, 0), some (19, 0), some (24, 0), some (29, 0), some (32, 0)] j, fun i j => bt_nth none [some (2, 0), some (4, 0), some (5, 0), some (6, 0), none, none, none] j, fun _ j => some (3, j), fun _ _ => none, fun _ _ => none, fun _ _ => none, fun _ _ => none, fun i j => bt_nth none [some (8, 0), some (9, 0), some (10, 0), some (11, 0), none, none, none, none, none, none, none, none, none, none, none] j, fun _ _ => none, fun _ _ => none, fun _ _ => none, fun _ _ => none, fun i j => bt_nth none [some (1, 0), some (7, 0), some (13, i), some (15, i)] j, fun i j => some (14, 8 * i + j), fun _ _ => none, fun _ _ => none, fun i j => bt_nth none [some (1, 0), some (17, 0)] j, fun _ j => some (18, j), fun _ _ => none, fun i j => bt_nth none [some (20, 0), some (21, 0), some (22, 0), some (23, 0), none, none] j, fun _ _ => none, fun _ _ => none, fun _ _ => none, fun _ _ => none, fun i j => bt_nth none [some (25, 0), some (26, 0), some (27, 0), some (28, 0), none, none, none] j, fun _ _ => none, fun _ _ => none, fun _ _ => none, fun _ _ => none, fun i j => bt_nth none [some (30, 0), some (31, 0), none, none, none] j, fun _ _ => none, fun _ _ => none, fun _ j => some (33, j), fun i j => bt_nth none [some (34, i), none, none, none] j, fun _ _ => none, fun i j => bt_nth none [none, none, some (36, 0), some (37, 0), some (38, 0), some (39, 0), some (40, 0), some (41, 0), none, none, some (42, 0), some (43, 0), none, none, none, none, some (44, 0), some (45, 0), some (46, 0), some (47, 0), some (48, 0), some (49, 0), none, none, none, none, none, some (50, 0), some (51, 0), some (52, 0), some (53, 0), some (54, 0), some (55, 0), some (56, 0), none, some (57, 0), some (58, 0), some (59, 0), none, none, none, some (60, 0), some (61, 0), some (62, 0), some (63, 0), none, some (64, 0), none, some (65, 0), some (66, 0), some (67, 0), some (68, 0), some (69, 0)] j, fun _ _ => none, fun _ _ => none, fun _ _ => none, fun _ _ => none, fun _ _ => none, fun _ _ => none, fun _ _ => none, fun _ _ => none, fun _ _ => none, fun _ _ => none, fun _ _ => none, fun _ _ => none, fun _ _ => none, fun _ _ => none, fun _ _ => none, fun _ _ => none, fun _ _ => none, fun _ _ => none, fun _ _ => none, fun _ _ => none, fun _ _ => none, fun _ _ => none, fun _ _ => none, fun _ _ => none, fun _ _ => none, fun _ _ => none, fun _ _ => none, fun _ _ => none, fun _ _ => none, fun _ _ => none, fun _ _ => none, fun _ _ => none, fun _ _ => none, fun _ _ => none] k i j
def bt_SC (j : Nat) : String × String := bt_nth ("", "") [("BellTrees$Forest", "MOST"), ("BellTrees$Bodies", "ABOVE"), ("BellTrees$Bodies", "OWN")] j
def bt_SN (j : Nat) : Nat := bt_nth 0 [8, 8, 32] j
def bt_SV (j i : Nat) : Int32 := bt_nth 0 (bt_nth [] [[9, 9, 9, 1, 9, 9, 9, 7], [-1, 0, 0, 2, 1, 3, 0, 6], [1, 10, 11, 2, 20, 0, 0, 0, 0, 30, 0, 0, 0, 41, 40, 0, 0, 0, 0, 50, 0, 0, 60, 61, 70, 0, 0, 0, 81, 80, 0, 0]] j) i
theorem bt_pos : ∀ k, k < 70 → ∀ i, i < bt_cnt k → bt_NMS[bt_bas k + i]? = some (k, i) := by decide +kernel
theorem bt_cnt_big (k : Nat) (h : 70 ≤ k) : bt_cnt k = 0 := by
  have e : k = (k - 70) + 70 := by omega
  rw [e]; rfl
theorem bt_mem_ok : ∀ q ∈ bt_NMS, q.1 < 70 ∧ q.2 < bt_cnt q.1 := by decide +kernel
end
section
/-! THE ABSTRACT MACHINE: values, states, the world that a state stands for, one instruction as a predicate -/
abbrev bt_MI : Type := MethodName × ByteArray × Nat × Option FieldType
/-- an instruction, its length; two numbers (a class and a field; a target); its constant; a switch's targets; the called method -/
abbrev bt_E : Type := Instr × Nat × (Nat × Nat) × (Int32 × Int64) × List (Int32 × Nat) × bt_MI
abbrev av_T : Type := Int32 ⊕ (Int64 ⊕ Option (Nat × Nat))
abbrev vi (x : Int32) : av_T := .inl x
abbrev vl (x : Int64) : av_T := .inr (.inl x)
abbrev vr (k i : Nat) : av_T := .inr (.inr (some (k, i)))
abbrev vn : av_T := .inr (.inr none)
abbrev m_I : Type := Nat → Nat → Nat → Int32
abbrev m_L : Type := Nat → Nat → Nat → Int64
abbrev st_T : Type := m_I × m_L
abbrev tn (x : Int32) : Nat := x.toNatClampNeg
def ui (I : m_I) (k i j : Nat) (v : Int32) : m_I := fun a b c => if a = k then (if b = i then (if c = j then v else I a b c) else I a b c) else I a b c
def ul (I : m_L) (k i j : Nat) (v : Int64) : m_L := fun a b c => if a = k then (if b = i then (if c = j then v else I a b c) else I a b c) else I a b c
/-- a row copied -/
def ci (I : m_I) (k i : Nat) (f : Nat → Int32) : m_I := fun a b c => if a = k then (if b = i then f c else I a b c) else I a b c
def cl (I : m_L) (k i : Nat) (f : Nat → Int64) : m_L := fun a b c => if a = k then (if b = i then f c else I a b c) else I a b c
abbrev bt_PT : Type := Launch × va_G × (Nat → ClassId) × (Nat → Nat → Nat) × Nat × (Nat → Nat) × (Nat → Int32) × Nat
def bt_l (P : bt_PT) : Launch := P.1
def bt_D (P : bt_PT) : va_G := P.2.1
def bt_dA (P : bt_PT) : Nat → ClassId := P.2.2.1
def bt_ad (P : bt_PT) : Nat → Nat → Nat := P.2.2.2.1
def bt_B (P : bt_PT) : Nat := P.2.2.2.2.1
def bt_stA (P : bt_PT) : Nat → Nat := P.2.2.2.2.2.1
def bt_xs (P : bt_PT) : Nat → Int32 := P.2.2.2.2.2.2.1
def bt_xn (P : bt_PT) : Nat := P.2.2.2.2.2.2.2
/-- static arrays and (the fourth) the law's script -/
def bt_sv (P : bt_PT) (j i : Nat) : Int32 := if j = 3 then bt_xs P i else bt_SV j i
def bt_sn (P : bt_PT) (j : Nat) : Nat := if j = 3 then bt_xn P else bt_SN j
def bt_A (P : bt_PT) : Nat → Prop := fun q => bt_B P ≤ q
/-- a name's address -/
def bt_adr (P : bt_PT) (q : Nat × Nat) : Nat := if 100 ≤ q.1 then bt_stA P (q.1 - 100) else bt_ad P q.1 q.2
def bt_va (P : bt_PT) : av_T → Value
  | .inl x => .int x
  | .inr (.inl x) => .long x
  | .inr (.inr none) => .null
  | .inr (.inr (some q)) => .ref (bt_adr P q)
def bt_fv (P : bt_PT) (I : m_I) (c k i j : Nat) : Value := if bt_fk c j = 2 then va_rf ((bt_RF k i j).map (bt_adr P)) else .int (I k i j)
def bt_ent (P : bt_PT) (σ : st_T) (q : Nat × Nat) : va_E :=
  match bt_shp q.1 with
  | (0, c) => .inr (c, (List.range (bt_nf c)).map (bt_fv P σ.1 c q.1 q.2))
  | (1, n) => .inl (bt_dA P 0, n, .inl (σ.1 q.1 q.2))
  | (2, n) => .inl (bt_dA P 1, n, .inr (.inl (σ.2 q.1 q.2)))
  | (3, n) => .inl (bt_dA P 2, n, .inl (σ.1 q.1 q.2))
  | (4, n) => .inl (bt_dA P 3, n, .inl (σ.1 q.1 q.2))
  | (5, n) => .inl (bt_dA P 4, n, .inr (.inr (.inr (.inr (fun j => (bt_RF q.1 q.2 j).map (bt_adr P))))))
  | (_, n) => .inl (bt_dA P 5, n, .inr (.inr (.inr (.inr (fun j => (bt_RF q.1 q.2 j).map (bt_adr P))))))
def bt_wl (P : bt_PT) (σ : st_T) : va_W := bt_NMS.map (fun q => (bt_ad P q.1 q.2, bt_ent P σ q))
def bt_tys (P : bt_PT) : List (ClassId × FieldType) := [(bt_dA P 0, .int), (bt_dA P 1, .long), (bt_dA P 2, .byte), (bt_dA P 3, .short), (bt_dA P 4, .array .int), (bt_dA P 5, .object "BellTrees$Shelf")]
/-- the static arrays at a state and a heap -/
def bt_SF (P : bt_PT) (U : State) (H : Heap) : Prop := (∀ j, j < 3 → va_Z (bt_SC j).1 (bt_SC j).2 "[I" (.ref (bt_stA P j)) (bt_A P) U H) ∧ ∀ j, j < 4 → va_T .int (bt_stA P j) (bt_sn P j) (fun i => .int (bt_sv P j i)) (bt_A P) U H
def bt_okP (P : bt_PT) : Prop := (∀ a ∈ bt_NMS, ∀ b ∈ bt_NMS, bt_ad P a.1 a.2 = bt_ad P b.1 b.2 → a = b) ∧ ∀ a ∈ bt_NMS, bt_B P ≤ bt_ad P a.1 a.2
/-- a name of a cell that is there -/
def bt_ok (q : Nat × Nat) : Prop := q.2 < bt_cnt q.1 ∨ (100 ≤ q.1 ∧ q.1 < 104)
def bt_okv (v : av_T) : Prop := match v with
  | .inr (.inr (some q)) => bt_ok q
  | _ => True
/-- the continuations of calls, by what is answered -/
abbrev kI (f : Int32 → m_I → m_L → Prop) : Option av_T → st_T → Prop := fun r σ => match r with
  | some (.inl x) => f x σ.1 σ.2
  | _ => False
abbrev kL (f : Int64 → m_I → m_L → Prop) : Option av_T → st_T → Prop := fun r σ => match r with
  | some (.inr (.inl x)) => f x σ.1 σ.2
  | _ => False
abbrev kR (f : Option (Nat × Nat) → m_I → m_L → Prop) : Option av_T → st_T → Prop := fun r σ => match r with
  | some (.inr (.inr x)) => f x σ.1 σ.2
  | _ => False
abbrev kV (f : m_I → m_L → Prop) : Option av_T → st_T → Prop := fun r σ => match r with
  | none => f σ.1 σ.2
  | _ => False
abbrev bt_WT : Type := bt_MI → List av_T → st_T → (Option av_T → st_T → Prop) → Prop
abbrev bt_NT : Type := Nat → List (Option av_T) → List av_T → st_T → Prop
/-- loads and stores of locals -/
def bt_lg (L : List (Option av_T)) (i : Nat) : Option av_T := bt_nth none L i
def bt_isl : Option av_T → Bool
  | some (.inr (.inl _)) => true
  | _ => false
def bt_set : List (Option av_T) → Nat → Option av_T → List (Option av_T)
  | [], _, _ => []
  | _ :: r, 0, v => v :: r
  | a :: r, n + 1, v => a :: bt_set r n v
/-- a store at i may not cut a long that stands at i - 1 -/
def bt_cut (L : List (Option av_T)) (i : Nat) : Bool := match i with
  | 0 => false
  | j + 1 => bt_isl (bt_nth none L j)
def bt_li (L : List (Option av_T)) (i : Nat) (k : Int32 → Prop) : Prop := match bt_lg L i with
  | some (.inl x) => k x
  | _ => False
def bt_ll (L : List (Option av_T)) (i : Nat) (k : Int64 → Prop) : Prop := match bt_lg L i with
  | some (.inr (.inl x)) => k x
  | _ => False
def bt_la (L : List (Option av_T)) (i : Nat) (k : Option (Nat × Nat) → Prop) : Prop := match bt_lg L i with
  | some (.inr (.inr x)) => k x
  | _ => False
def bt_if (b : Bool) (p : Prop) : Prop := match b with
  | true => p
  | false => False
def bt_ife (b : Bool) (p q : Prop) : Prop := match b with
  | true => p
  | false => q
def bt_si (L : List (Option av_T)) (i : Nat) (S : List av_T) (k : List (Option av_T) → List av_T → Prop) : Prop := match S with
  | .inl x :: r => bt_if (!bt_cut L i) (k (bt_set L i (some (.inl x))) r)
  | _ => False
def bt_sa (L : List (Option av_T)) (i : Nat) (S : List av_T) (k : List (Option av_T) → List av_T → Prop) : Prop := match S with
  | .inr (.inr x) :: r => bt_if (!bt_cut L i) (k (bt_set L i (some (.inr (.inr x)))) r)
  | _ => False
def bt_sl (L : List (Option av_T)) (i : Nat) (S : List av_T) (k : List (Option av_T) → List av_T → Prop) : Prop := match S with
  | .inr (.inl x) :: r => bt_if (!bt_cut L i) (k (bt_set (bt_set L i (some (.inr (.inl x)))) (i + 1) none) r)
  | _ => False
def bt_u1 (S : List av_T) (k : Int32 → List av_T → Prop) : Prop := match S with
  | .inl x :: r => k x r
  | _ => False
def bt_uL (S : List av_T) (k : Int64 → List av_T → Prop) : Prop := match S with
  | .inr (.inl x) :: r => k x r
  | _ => False
def bt_uA (S : List av_T) (k : Option (Nat × Nat) → List av_T → Prop) : Prop := match S with
  | .inr (.inr x) :: r => k x r
  | _ => False
/-- x below y -/
def bt_u2 (S : List av_T) (k : Int32 → Int32 → List av_T → Prop) : Prop := match S with
  | .inl y :: .inl x :: r => k x y r
  | _ => False
def bt_uLL (S : List av_T) (k : Int64 → Int64 → List av_T → Prop) : Prop := match S with
  | .inr (.inl y) :: .inr (.inl x) :: r => k x y r
  | _ => False
def bt_uLI (S : List av_T) (k : Int64 → Int32 → List av_T → Prop) : Prop := match S with
  | .inl y :: .inr (.inl x) :: r => k x y r
  | _ => False
/-- an object (never null here) -/
def bt_uO (S : List av_T) (k : Nat → Nat → List av_T → Prop) : Prop := match S with
  | .inr (.inr (some q)) :: r => k q.1 q.2 r
  | _ => False
def bt_uAr (S : List av_T) (k : Nat → Nat → Int32 → List av_T → Prop) : Prop := match S with
  | .inl i :: .inr (.inr (some q)) :: r => k q.1 q.2 i r
  | _ => False
def bt_uAsI (S : List av_T) (k : Nat → Nat → Int32 → Int32 → List av_T → Prop) : Prop := match S with
  | .inl v :: .inl i :: .inr (.inr (some q)) :: r => k q.1 q.2 i v r
  | _ => False
def bt_uAsL (S : List av_T) (k : Nat → Nat → Int32 → Int64 → List av_T → Prop) : Prop := match S with
  | .inr (.inl v) :: .inl i :: .inr (.inr (some q)) :: r => k q.1 q.2 i v r
  | _ => False
def bt_tag (k : Nat) (t : Nat) (f : Nat → Prop) : Prop := bt_if (Nat.beq (bt_shp k).1 t) (f (bt_shp k).2)
/-- arguments off the stack: the last on top -/
def bt_args : Nat → List av_T → List av_T → (List av_T → List av_T → Prop) → Prop
  | 0, S, acc, k => k acc S
  | _ + 1, [], _, _ => False
  | n + 1, v :: S, acc, k => bt_args n S (v :: acc) k
def bt_cat (v : av_T) : Nat := match v with
  | .inr (.inl _) => 2
  | _ => 1
def bt_words : List av_T → Nat
  | [] => 0
  | v :: r => bt_cat v + bt_words r
/-- what a call goes on with, by its return type -/
def bt_kc (ret : Option FieldType) (Nx : List av_T → st_T → Prop) : Option av_T → st_T → Prop := match ret with
  | none => kV (fun I L => Nx [] (I, L))
  | some .int => kI (fun x I L => Nx [vi x] (I, L))
  | some .boolean => kI (fun x I L => Nx [vi x] (I, L))
  | some .long => kL (fun x I L => Nx [vl x] (I, L))
  | some (.object _) => kR (fun x I L => Nx [.inr (.inr x)] (I, L))
  | _ => fun _ _ => False
/-- the receiver: an object of the called method's own -/
def bt_isob (v : av_T) (c : Nat) : Bool := match v with
  | .inr (.inr (some q)) => Nat.beq (bt_shp q.1).1 0 && Nat.beq (bt_shp q.1).2 c && Nat.ble (q.1 + 1) 100
  | _ => false
def bt_hd (l : List av_T) : av_T := match l with
  | v :: _ => v
  | [] => vn
/-- a call: n arguments (with the receiver, where c < 100: its place among bt_cl) -/
def bt_call (WPc : bt_WT) (en : bt_E) (S : List av_T) (σ : st_T) (Nx : List av_T → st_T → Prop) : Prop :=
  bt_args en.2.2.1.1 S [] (fun As r => bt_if (Nat.ble (bt_words r) 8 && (Nat.beq en.2.2.1.2 100 || bt_isob (bt_hd As) en.2.2.1.2)) (WPc en.2.2.2.2.2 As σ (bt_kc en.2.2.2.2.2.2.2.2 (fun v σ' => Nx (v ++ r) σ'))))
def bt_sw (x : Int32) (Nx : Nat → Prop) (d : Nat) : List (Int32 × Nat) → Prop
  | [] => Nx d
  | q :: r => (x = q.1 → Nx q.2) ∧ (¬ x = q.1 → bt_sw x Nx d r)
def bt_sys : String := "java/lang/System"
/-- System.arraycopy among ints or longs -/
def bt_cpy (S : List av_T) (σ : st_T) (k : List av_T → st_T → Prop) : Prop := match S with
  | .inl n :: .inl dp :: .inr (.inr (some qd)) :: .inl sp :: .inr (.inr (some qs)) :: r =>
    bt_if (Nat.ble (qs.1 + 1) 100 && Nat.ble (qd.1 + 1) 100 && Nat.ble (bt_words r) 8) (bt_ife (Nat.beq (bt_shp qs.1).1 1 && Nat.beq (bt_shp qd.1).1 1)
      ((¬ sp < 0 ∧ ¬ dp < 0 ∧ ¬ n < 0 ∧ tn sp + tn n ≤ (bt_shp qs.1).2 ∧ tn dp + tn n ≤ (bt_shp qd.1).2) ∧ k r (ci σ.1 qd.1 qd.2 (va_cpy (σ.1 qs.1 qs.2) (σ.1 qd.1 qd.2) (tn sp) (tn dp) (tn n)), σ.2))
      (bt_if (Nat.beq (bt_shp qs.1).1 2 && Nat.beq (bt_shp qd.1).1 2)
        ((¬ sp < 0 ∧ ¬ dp < 0 ∧ ¬ n < 0 ∧ tn sp + tn n ≤ (bt_shp qs.1).2 ∧ tn dp + tn n ≤ (bt_shp qd.1).2) ∧ k r (σ.1, cl σ.2 qd.1 qd.2 (va_cpy (σ.2 qs.1 qs.2) (σ.2 qd.1 qd.2) (tn sp) (tn dp) (tn n))))))
  | _ => False
/-- one instruction; P stands for the static arrays' contents alone -/
def bt_st (P : bt_PT) (WPc : bt_WT) (K : Option av_T → st_T → Prop) (ret : Option FieldType) (en : bt_E) (pc : Nat) (L : List (Option av_T)) (S : List av_T) (σ : st_T) (Nx : bt_NT) : Prop :=
  match en.1 with
  | .iconst _ | .bipush _ | .sipush _ | .ldc _ | .ldc_w _ => Nx (pc + en.2.1) L (vi en.2.2.2.1.1 :: S) σ
  | .lconst _ | .ldc2_w _ => Nx (pc + en.2.1) L (vl en.2.2.2.1.2 :: S) σ
  | .aconst_null => Nx (pc + en.2.1) L (vn :: S) σ
  | .iload i => bt_li L i (fun x => Nx (pc + en.2.1) L (vi x :: S) σ)
  | .iload_n i => bt_li L i.1 (fun x => Nx (pc + en.2.1) L (vi x :: S) σ)
  | .lload i => bt_ll L i (fun x => Nx (pc + en.2.1) L (vl x :: S) σ)
  | .lload_n i => bt_ll L i.1 (fun x => Nx (pc + en.2.1) L (vl x :: S) σ)
  | .aload i => bt_la L i (fun x => Nx (pc + en.2.1) L (.inr (.inr x) :: S) σ)
  | .aload_n i => bt_la L i.1 (fun x => Nx (pc + en.2.1) L (.inr (.inr x) :: S) σ)
  | .istore i => bt_si L i S (fun L' S' => Nx (pc + en.2.1) L' S' σ)
  | .istore_n i => bt_si L i.1 S (fun L' S' => Nx (pc + en.2.1) L' S' σ)
  | .lstore i => bt_sl L i S (fun L' S' => Nx (pc + en.2.1) L' S' σ)
  | .lstore_n i => bt_sl L i.1 S (fun L' S' => Nx (pc + en.2.1) L' S' σ)
  | .astore i => bt_sa L i S (fun L' S' => Nx (pc + en.2.1) L' S' σ)
  | .astore_n i => bt_sa L i.1 S (fun L' S' => Nx (pc + en.2.1) L' S' σ)
  | .iinc i _ => bt_li L i (fun x => bt_if (!bt_cut L i) (Nx (pc + en.2.1) (bt_set L i (some (vi (x + en.2.2.2.1.1)))) S σ))
  | .iadd => bt_u2 S (fun x y r => Nx (pc + en.2.1) L (vi (x + y) :: r) σ)
  | .isub => bt_u2 S (fun x y r => Nx (pc + en.2.1) L (vi (x - y) :: r) σ)
  | .imul => bt_u2 S (fun x y r => Nx (pc + en.2.1) L (vi (x * y) :: r) σ)
  | .idiv => bt_u2 S (fun x y r => ¬ y = 0 ∧ Nx (pc + en.2.1) L (vi (x / y) :: r) σ)
  | .irem => bt_u2 S (fun x y r => ¬ y = 0 ∧ Nx (pc + en.2.1) L (vi (x - x / y * y) :: r) σ)
  | .ineg => bt_u1 S (fun x r => Nx (pc + en.2.1) L (vi (-x) :: r) σ)
  | .iand => bt_u2 S (fun x y r => Nx (pc + en.2.1) L (vi (x &&& y) :: r) σ)
  | .ior => bt_u2 S (fun x y r => Nx (pc + en.2.1) L (vi (x ||| y) :: r) σ)
  | .ixor => bt_u2 S (fun x y r => Nx (pc + en.2.1) L (vi (x ^^^ y) :: r) σ)
  | .ishl => bt_u2 S (fun x y r => Nx (pc + en.2.1) L (vi (x <<< (y &&& 31)) :: r) σ)
  | .ishr => bt_u2 S (fun x y r => Nx (pc + en.2.1) L (vi (x >>> (y &&& 31)) :: r) σ)
  | .iushr => bt_u2 S (fun x y r => Nx (pc + en.2.1) L (vi (x.toUInt32 >>> (y.toUInt32 &&& Int32.toUInt32 31)).toInt32 :: r) σ)
  | .ladd => bt_uLL S (fun x y r => Nx (pc + en.2.1) L (vl (x + y) :: r) σ)
  | .land => bt_uLL S (fun x y r => Nx (pc + en.2.1) L (vl (x &&& y) :: r) σ)
  | .lor => bt_uLL S (fun x y r => Nx (pc + en.2.1) L (vl (x ||| y) :: r) σ)
  | .lshl => bt_uLI S (fun x y r => Nx (pc + en.2.1) L (vl (x <<< (y.toInt64 &&& 63)) :: r) σ)
  | .lcmp => bt_uLL S (fun x y r => Nx (pc + en.2.1) L (vi (lg_cmp x y) :: r) σ)
  | .i2l => bt_u1 S (fun x r => Nx (pc + en.2.1) L (vl x.toInt64 :: r) σ)
  | .l2i => bt_uL S (fun x r => Nx (pc + en.2.1) L (vi x.toInt32 :: r) σ)
  | .i2b => bt_u1 S (fun x r => Nx (pc + en.2.1) L (vi x.toInt8.toInt32 :: r) σ)
  | .i2s => bt_u1 S (fun x r => Nx (pc + en.2.1) L (vi x.toInt16.toInt32 :: r) σ)
  | .dup => (match S with | v :: r => bt_if (Nat.beq (bt_cat v) 1) (Nx (pc + en.2.1) L (v :: v :: r) σ) | _ => False)
  | .dup2 => (match S with | v :: w :: r => bt_if (Nat.beq (bt_cat v) 1 && Nat.beq (bt_cat w) 1) (Nx (pc + en.2.1) L (v :: w :: v :: w :: r) σ) | _ => False)
  | .pop => (match S with | v :: r => bt_if (Nat.beq (bt_cat v) 1) (Nx (pc + en.2.1) L r σ) | _ => False)
  | .goto _ => Nx en.2.2.1.1 L S σ
  | .ifCond .eq _ => bt_u1 S (fun x r => (x = 0 → Nx en.2.2.1.1 L r σ) ∧ (¬ x = 0 → Nx (pc + 3) L r σ))
  | .ifCond .ne _ => bt_u1 S (fun x r => (¬ x = 0 → Nx en.2.2.1.1 L r σ) ∧ (x = 0 → Nx (pc + 3) L r σ))
  | .ifCond .lt _ => bt_u1 S (fun x r => (x < 0 → Nx en.2.2.1.1 L r σ) ∧ (¬ x < 0 → Nx (pc + 3) L r σ))
  | .ifCond .ge _ => bt_u1 S (fun x r => (¬ x < 0 → Nx en.2.2.1.1 L r σ) ∧ (x < 0 → Nx (pc + 3) L r σ))
  | .ifCond .gt _ => bt_u1 S (fun x r => (¬ x ≤ 0 → Nx en.2.2.1.1 L r σ) ∧ (x ≤ 0 → Nx (pc + 3) L r σ))
  | .ifCond .le _ => bt_u1 S (fun x r => (x ≤ 0 → Nx en.2.2.1.1 L r σ) ∧ (¬ x ≤ 0 → Nx (pc + 3) L r σ))
  | .if_icmp .eq _ => bt_u2 S (fun x y r => (x = y → Nx en.2.2.1.1 L r σ) ∧ (¬ x = y → Nx (pc + 3) L r σ))
  | .if_icmp .ne _ => bt_u2 S (fun x y r => (¬ x = y → Nx en.2.2.1.1 L r σ) ∧ (x = y → Nx (pc + 3) L r σ))
  | .if_icmp .lt _ => bt_u2 S (fun x y r => (x < y → Nx en.2.2.1.1 L r σ) ∧ (¬ x < y → Nx (pc + 3) L r σ))
  | .if_icmp .ge _ => bt_u2 S (fun x y r => (¬ x < y → Nx en.2.2.1.1 L r σ) ∧ (x < y → Nx (pc + 3) L r σ))
  | .if_icmp .gt _ => bt_u2 S (fun x y r => (¬ x ≤ y → Nx en.2.2.1.1 L r σ) ∧ (x ≤ y → Nx (pc + 3) L r σ))
  | .if_icmp .le _ => bt_u2 S (fun x y r => (x ≤ y → Nx en.2.2.1.1 L r σ) ∧ (¬ x ≤ y → Nx (pc + 3) L r σ))
  | .ifnull _ => bt_uA S (fun x r => (x = none → Nx en.2.2.1.1 L r σ) ∧ (¬ x = none → Nx (pc + 3) L r σ))
  | .ifnonnull _ => bt_uA S (fun x r => (¬ x = none → Nx en.2.2.1.1 L r σ) ∧ (x = none → Nx (pc + 3) L r σ))
  | .tableswitch _ _ _ _ => bt_u1 S (fun x r => bt_sw x (fun t => Nx t L r σ) en.2.2.1.1 en.2.2.2.2.1)
  | .lookupswitch _ _ => bt_u1 S (fun x r => bt_sw x (fun t => Nx t L r σ) en.2.2.1.1 en.2.2.2.2.1)
  | .getfield _ => bt_uO S (fun k i r => bt_tag k 0 (fun c => bt_if (Nat.ble (k + 1) 100 && Nat.beq c en.2.2.1.1 && Nat.ble (en.2.2.1.2 + 1) (bt_nf c)) (bt_ife (Nat.beq (bt_fk c en.2.2.1.2) 2) (Nx (pc + en.2.1) L (.inr (.inr (bt_RF k i en.2.2.1.2)) :: r) σ) (Nx (pc + en.2.1) L (vi (σ.1 k i en.2.2.1.2) :: r) σ))))
  | .putfield _ => (match S with
    | .inl x :: .inr (.inr (some q)) :: r => bt_tag q.1 0 (fun c => bt_if (Nat.ble (q.1 + 1) 100 && Nat.beq c en.2.2.1.1 && Nat.ble (en.2.2.1.2 + 1) (bt_nf c)) (bt_ife (Nat.beq (bt_fk c en.2.2.1.2) 0) (Nx (pc + en.2.1) L r (ui σ.1 q.1 q.2 en.2.2.1.2 x, σ.2)) (bt_if (Nat.beq (bt_fk c en.2.2.1.2) 1) ((x = 0 ∨ x = 1) ∧ Nx (pc + en.2.1) L r (ui σ.1 q.1 q.2 en.2.2.1.2 x, σ.2)))))
    | _ => False)
  | .getstatic _ => Nx (pc + en.2.1) L (vr (100 + en.2.2.1.1) 0 :: S) σ
  | .arraylength => bt_uO S (fun k _ r => bt_ife (Nat.ble 100 k) (Nx (pc + en.2.1) L (vi (Int32.ofNat (bt_sn P (k - 100))) :: r) σ) (bt_if (!Nat.beq (bt_shp k).1 0) (Nx (pc + en.2.1) L (vi (Int32.ofNat (bt_shp k).2) :: r) σ)))
  | .iaload => bt_uAr S (fun k i j r => bt_ife (Nat.ble 100 k) (vp_in j (bt_sn P (k - 100)) ∧ Nx (pc + en.2.1) L (vi (bt_sv P (k - 100) (tn j)) :: r) σ) (bt_tag k 1 (fun n => vp_in j n ∧ Nx (pc + en.2.1) L (vi (σ.1 k i (tn j)) :: r) σ)))
  | .laload => bt_uAr S (fun k i j r => bt_if (Nat.ble (k + 1) 100) (bt_tag k 2 (fun n => vp_in j n ∧ Nx (pc + en.2.1) L (vl (σ.2 k i (tn j)) :: r) σ)))
  | .baload => bt_uAr S (fun k i j r => bt_if (Nat.ble (k + 1) 100) (bt_tag k 3 (fun n => vp_in j n ∧ Nx (pc + en.2.1) L (vi (σ.1 k i (tn j)) :: r) σ)))
  | .saload => bt_uAr S (fun k i j r => bt_if (Nat.ble (k + 1) 100) (bt_tag k 4 (fun n => vp_in j n ∧ Nx (pc + en.2.1) L (vi (σ.1 k i (tn j)) :: r) σ)))
  | .aaload => bt_uAr S (fun k i j r => bt_if (Nat.ble (k + 1) 100 && (Nat.beq (bt_shp k).1 5 || Nat.beq (bt_shp k).1 6)) (vp_in j (bt_shp k).2 ∧ Nx (pc + en.2.1) L (.inr (.inr (bt_RF k i (tn j))) :: r) σ))
  | .iastore => bt_uAsI S (fun k i j v r => bt_if (Nat.ble (k + 1) 100) (bt_tag k 1 (fun n => vp_in j n ∧ Nx (pc + en.2.1) L r (ui σ.1 k i (tn j) v, σ.2))))
  | .bastore => bt_uAsI S (fun k i j v r => bt_if (Nat.ble (k + 1) 100) (bt_tag k 3 (fun n => vp_in j n ∧ Nx (pc + en.2.1) L r (ui σ.1 k i (tn j) v.toInt8.toInt32, σ.2))))
  | .sastore => bt_uAsI S (fun k i j v r => bt_if (Nat.ble (k + 1) 100) (bt_tag k 4 (fun n => vp_in j n ∧ Nx (pc + en.2.1) L r (ui σ.1 k i (tn j) v.toInt16.toInt32, σ.2))))
  | .lastore => bt_uAsL S (fun k i j v r => bt_if (Nat.ble (k + 1) 100) (bt_tag k 2 (fun n => vp_in j n ∧ Nx (pc + en.2.1) L r (σ.1, ul σ.2 k i (tn j) v))))
  | .invokevirtual _ => bt_if (Nat.ble (en.2.2.1.2 + 1) 100) (bt_call WPc en S σ (fun S' σ' => Nx (pc + 3) L S' σ'))
  | .invokestatic _ => bt_ife (Nat.beq en.2.2.1.2 101) (bt_cpy S σ (fun S' σ' => Nx (pc + 3) L S' σ')) (bt_if (Nat.beq en.2.2.1.2 100) (bt_call WPc en S σ (fun S' σ' => Nx (pc + 3) L S' σ')))
  | .ireturn => (match S with
    | [.inl x] => (match ret with
      | some .int => K (some (vi x)) σ
      | some .boolean => (x = 0 ∨ x = 1) ∧ K (some (vi x)) σ
      | _ => False)
    | _ => False)
  | .lreturn => (match S, ret with
    | [.inr (.inl x)], some .long => K (some (vl x)) σ
    | _, _ => False)
  | .areturn => (match S, ret with
    | [.inr (.inr x)], some (.object _) => K (some (.inr (.inr x))) σ
    | _, _ => False)
  | .return_ => (match S, ret with
    | [], none => K none σ
    | _, _ => False)
  | _ => False
def bt_mem : List Nat → Nat → Bool
  | [], _ => false
  | a :: r, x => Nat.beq a x || bt_mem r x
/-- the code from a place on -/
def bt_suf : List bt_E → Nat → Nat → List bt_E
  | [], _, _ => []
  | en :: r, c, t => match Nat.beq c t with
    | true => en :: r
    | false => bt_suf r (c + en.2.1) t
/-- many instructions, up to the cut points -/
def bt_ex (P : bt_PT) (WPc : bt_WT) (G : bt_NT) (K : Option av_T → st_T → Prop) (ret : Option FieldType) (T : List bt_E) (cuts : List Nat) : Nat → Nat → List bt_E → List (Option av_T) → List av_T → st_T → Prop
  | 0, pc, _, L, S, σ => G pc L S σ
  | _ + 1, _, [], _, _, _ => False
  | f + 1, pc, en :: rest, L, S, σ => bt_st P WPc K ret en pc L S σ (fun pc' L' S' σ' => bt_ife (bt_mem cuts pc') (G pc' L' S' σ') (bt_ife (Nat.beq pc' (pc + en.2.1)) (bt_ex P WPc G K ret T cuts f pc' rest L' S' σ') (bt_ex P WPc G K ret T cuts f pc' (bt_suf T 0 pc') L' S' σ')))
end
