section
-- ===== PART A: goes FIRST, ahead of the names: the tables' words, and 'selects' of the private methods out of them =====
/-- a private method of a class that the tables say can be made, by its rows of tables_1 -/
def lw_okq (q : MethodName × Nat) : Prop := (q.1.cls ≠ "java/lang/invoke/MethodHandle" ∧ q.1.cls ≠ "java/lang/invoke/VarHandle") ∧ Cond.instantiable q.1.cls q.2 ∈ tables_1 ∧ Cond.privateMethod q.1 ∈ tables_1 ∧ Cond.instanceMethod q.1 ∈ tables_1
theorem lw_p0 : lw_okq (⟨"BellTrees$Forest", "slots", "(I)I"⟩, 7) := ⟨⟨by decide +kernel, by decide +kernel⟩, List.mem_of_getElem? (i := 24) (by decide +kernel), List.mem_of_getElem? (i := 286) (by decide +kernel), List.mem_of_getElem? (i := 287) (by decide +kernel)⟩
theorem lw_p1 : lw_okq (⟨"BellTrees", "shelfAt", "(I)LBellTrees$Shelf;"⟩, 9) := ⟨⟨by decide +kernel, by decide +kernel⟩, List.mem_of_getElem? (i := 16) (by decide +kernel), List.mem_of_getElem? (i := 294) (by decide +kernel), List.mem_of_getElem? (i := 295) (by decide +kernel)⟩
theorem lw_p2 : lw_okq (⟨"BellTrees", "plantFrom", "(LBellTrees$Shelf;II)Z"⟩, 9) := ⟨⟨by decide +kernel, by decide +kernel⟩, List.mem_of_getElem? (i := 16) (by decide +kernel), List.mem_of_getElem? (i := 306) (by decide +kernel), List.mem_of_getElem? (i := 307) (by decide +kernel)⟩
theorem lw_p3 : lw_okq (⟨"BellTrees$Changes", "dropOldest", "()V"⟩, 6) := ⟨⟨by decide +kernel, by decide +kernel⟩, List.mem_of_getElem? (i := 146) (by decide +kernel), List.mem_of_getElem? (i := 353) (by decide +kernel), List.mem_of_getElem? (i := 354) (by decide +kernel)⟩
theorem lw_p4 : lw_okq (⟨"BellTrees$Law", "readLines", "()Z"⟩, 15) := ⟨⟨by decide +kernel, by decide +kernel⟩, List.mem_of_getElem? (i := 60) (by decide +kernel), List.mem_of_getElem? (i := 402) (by decide +kernel), List.mem_of_getElem? (i := 403) (by decide +kernel)⟩
theorem lw_p5 : lw_okq (⟨"BellTrees$Law", "readLine", "()Z"⟩, 15) := ⟨⟨by decide +kernel, by decide +kernel⟩, List.mem_of_getElem? (i := 60) (by decide +kernel), List.mem_of_getElem? (i := 406) (by decide +kernel), List.mem_of_getElem? (i := 407) (by decide +kernel)⟩
theorem lw_p6 : lw_okq (⟨"BellTrees$Law", "readLevel", "(II)Z"⟩, 15) := ⟨⟨by decide +kernel, by decide +kernel⟩, List.mem_of_getElem? (i := 60) (by decide +kernel), List.mem_of_getElem? (i := 410) (by decide +kernel), List.mem_of_getElem? (i := 411) (by decide +kernel)⟩
theorem lw_p7 : lw_okq (⟨"BellTrees$Law", "readOperand", "(I)Z"⟩, 15) := ⟨⟨by decide +kernel, by decide +kernel⟩, List.mem_of_getElem? (i := 60) (by decide +kernel), List.mem_of_getElem? (i := 414) (by decide +kernel), List.mem_of_getElem? (i := 415) (by decide +kernel)⟩
theorem lw_p8 : lw_okq (⟨"BellTrees$Law", "next", "()I"⟩, 15) := ⟨⟨by decide +kernel, by decide +kernel⟩, List.mem_of_getElem? (i := 60) (by decide +kernel), List.mem_of_getElem? (i := 418) (by decide +kernel), List.mem_of_getElem? (i := 419) (by decide +kernel)⟩
theorem lw_p9 : lw_okq (⟨"BellTrees$Law", "readNumber", "()V"⟩, 15) := ⟨⟨by decide +kernel, by decide +kernel⟩, List.mem_of_getElem? (i := 60) (by decide +kernel), List.mem_of_getElem? (i := 422) (by decide +kernel), List.mem_of_getElem? (i := 423) (by decide +kernel)⟩
theorem lw_p10 : lw_okq (⟨"BellTrees$Law", "note", "(I)V"⟩, 15) := ⟨⟨by decide +kernel, by decide +kernel⟩, List.mem_of_getElem? (i := 60) (by decide +kernel), List.mem_of_getElem? (i := 426) (by decide +kernel), List.mem_of_getElem? (i := 427) (by decide +kernel)⟩
theorem lw_p11 : lw_okq (⟨"BellTrees$Law", "readClosing", "()Z"⟩, 15) := ⟨⟨by decide +kernel, by decide +kernel⟩, List.mem_of_getElem? (i := 60) (by decide +kernel), List.mem_of_getElem? (i := 433) (by decide +kernel), List.mem_of_getElem? (i := 434) (by decide +kernel)⟩
theorem lw_p12 : lw_okq (⟨"BellTrees$Sounds", "isHeard", "(I)Z"⟩, 4) := ⟨⟨by decide +kernel, by decide +kernel⟩, List.mem_of_getElem? (i := 112) (by decide +kernel), List.mem_of_getElem? (i := 469) (by decide +kernel), List.mem_of_getElem? (i := 470) (by decide +kernel)⟩
theorem lw_p13 : lw_okq (⟨"BellTrees$Law", "workOut", "()I"⟩, 15) := ⟨⟨by decide +kernel, by decide +kernel⟩, List.mem_of_getElem? (i := 60) (by decide +kernel), List.mem_of_getElem? (i := 477) (by decide +kernel), List.mem_of_getElem? (i := 478) (by decide +kernel)⟩
theorem lw_p14 : lw_okq (⟨"BellTrees$Law", "pop", "()I"⟩, 15) := ⟨⟨by decide +kernel, by decide +kernel⟩, List.mem_of_getElem? (i := 60) (by decide +kernel), List.mem_of_getElem? (i := 481) (by decide +kernel), List.mem_of_getElem? (i := 482) (by decide +kernel)⟩
theorem lw_p15 : lw_okq (⟨"BellTrees$Law", "valueBy", "(I)I"⟩, 15) := ⟨⟨by decide +kernel, by decide +kernel⟩, List.mem_of_getElem? (i := 60) (by decide +kernel), List.mem_of_getElem? (i := 485) (by decide +kernel), List.mem_of_getElem? (i := 486) (by decide +kernel)⟩
def lw_privs_1 : List (MethodName × Nat) := [(⟨"BellTrees$Forest", "slots", "(I)I"⟩, 7), (⟨"BellTrees", "shelfAt", "(I)LBellTrees$Shelf;"⟩, 9), (⟨"BellTrees", "plantFrom", "(LBellTrees$Shelf;II)Z"⟩, 9), (⟨"BellTrees$Changes", "dropOldest", "()V"⟩, 6), (⟨"BellTrees$Law", "readLines", "()Z"⟩, 15), (⟨"BellTrees$Law", "readLine", "()Z"⟩, 15), (⟨"BellTrees$Law", "readLevel", "(II)Z"⟩, 15), (⟨"BellTrees$Law", "readOperand", "(I)Z"⟩, 15), (⟨"BellTrees$Law", "next", "()I"⟩, 15), (⟨"BellTrees$Law", "readNumber", "()V"⟩, 15), (⟨"BellTrees$Law", "note", "(I)V"⟩, 15), (⟨"BellTrees$Law", "readClosing", "()Z"⟩, 15), (⟨"BellTrees$Sounds", "isHeard", "(I)Z"⟩, 4), (⟨"BellTrees$Law", "workOut", "()I"⟩, 15), (⟨"BellTrees$Law", "pop", "()I"⟩, 15), (⟨"BellTrees$Law", "valueBy", "(I)I"⟩, 15)]
theorem lw_r1 : ∀ q ∈ lw_privs_1, lw_okq q := List.forall_mem_cons.mpr ⟨lw_p0, List.forall_mem_cons.mpr ⟨lw_p1, List.forall_mem_cons.mpr ⟨lw_p2, List.forall_mem_cons.mpr ⟨lw_p3, List.forall_mem_cons.mpr ⟨lw_p4, List.forall_mem_cons.mpr ⟨lw_p5, List.forall_mem_cons.mpr ⟨lw_p6, List.forall_mem_cons.mpr ⟨lw_p7, List.forall_mem_cons.mpr ⟨lw_p8, List.forall_mem_cons.mpr ⟨lw_p9, List.forall_mem_cons.mpr ⟨lw_p10, List.forall_mem_cons.mpr ⟨lw_p11, List.forall_mem_cons.mpr ⟨lw_p12, List.forall_mem_cons.mpr ⟨lw_p13, List.forall_mem_cons.mpr ⟨lw_p14, List.forall_mem_cons.mpr ⟨lw_p15, fun _ h => absurd h List.not_mem_nil⟩⟩⟩⟩⟩⟩⟩⟩⟩⟩⟩⟩⟩⟩⟩⟩
theorem lw_p16 : lw_okq (⟨"BellTrees$Law", "named", "(I)I"⟩, 15) := ⟨⟨by decide +kernel, by decide +kernel⟩, List.mem_of_getElem? (i := 60) (by decide +kernel), List.mem_of_getElem? (i := 489) (by decide +kernel), List.mem_of_getElem? (i := 490) (by decide +kernel)⟩
theorem lw_p17 : lw_okq (⟨"BellTrees$Law", "push", "(I)V"⟩, 15) := ⟨⟨by decide +kernel, by decide +kernel⟩, List.mem_of_getElem? (i := 60) (by decide +kernel), List.mem_of_getElem? (i := 496) (by decide +kernel), List.mem_of_getElem? (i := 497) (by decide +kernel)⟩
theorem lw_p18 : lw_okq (⟨"BellTrees", "bookRefusal", "(LBellTrees$Shelf;IZ)I"⟩, 9) := ⟨⟨by decide +kernel, by decide +kernel⟩, List.mem_of_getElem? (i := 16) (by decide +kernel), List.mem_of_getElem? (i := 509) (by decide +kernel), List.mem_of_getElem? (i := 510) (by decide +kernel)⟩
theorem lw_p19 : lw_okq (⟨"BellTrees$Walks", "ways", "(II)I"⟩, 2) := ⟨⟨by decide +kernel, by decide +kernel⟩, List.mem_of_getElem? (i := 132) (by decide +kernel), List.mem_of_getElem? (i := 535) (by decide +kernel), List.mem_of_getElem? (i := 536) (by decide +kernel)⟩
theorem lw_p20 : lw_okq (⟨"BellTrees$Walks", "onwardAt", "(II)I"⟩, 2) := ⟨⟨by decide +kernel, by decide +kernel⟩, List.mem_of_getElem? (i := 132) (by decide +kernel), List.mem_of_getElem? (i := 540) (by decide +kernel), List.mem_of_getElem? (i := 541) (by decide +kernel)⟩
theorem lw_p21 : lw_okq (⟨"BellTrees$Walks", "fittingOf", "(II)I"⟩, 2) := ⟨⟨by decide +kernel, by decide +kernel⟩, List.mem_of_getElem? (i := 132) (by decide +kernel), List.mem_of_getElem? (i := 555) (by decide +kernel), List.mem_of_getElem? (i := 556) (by decide +kernel)⟩
theorem lw_p22 : lw_okq (⟨"BellTrees", "rowsRefusal", "(I)I"⟩, 9) := ⟨⟨by decide +kernel, by decide +kernel⟩, List.mem_of_getElem? (i := 16) (by decide +kernel), List.mem_of_getElem? (i := 577) (by decide +kernel), List.mem_of_getElem? (i := 578) (by decide +kernel)⟩
theorem lw_p23 : lw_okq (⟨"BellTrees$Walks", "quietest", "(II)I"⟩, 2) := ⟨⟨by decide +kernel, by decide +kernel⟩, List.mem_of_getElem? (i := 132) (by decide +kernel), List.mem_of_getElem? (i := 595) (by decide +kernel), List.mem_of_getElem? (i := 596) (by decide +kernel)⟩
theorem lw_p24 : lw_okq (⟨"BellTrees", "walkAndBookRefusal", "(II)I"⟩, 9) := ⟨⟨by decide +kernel, by decide +kernel⟩, List.mem_of_getElem? (i := 16) (by decide +kernel), List.mem_of_getElem? (i := 611) (by decide +kernel), List.mem_of_getElem? (i := 612) (by decide +kernel)⟩
theorem lw_p25 : lw_okq (⟨"BellTrees", "walksRefusal", "(I)I"⟩, 9) := ⟨⟨by decide +kernel, by decide +kernel⟩, List.mem_of_getElem? (i := 16) (by decide +kernel), List.mem_of_getElem? (i := 615) (by decide +kernel), List.mem_of_getElem? (i := 616) (by decide +kernel)⟩
theorem lw_p26 : lw_okq (⟨"BellTrees", "isWalk", "(LBellTrees$Shelf;)Z"⟩, 9) := ⟨⟨by decide +kernel, by decide +kernel⟩, List.mem_of_getElem? (i := 16) (by decide +kernel), List.mem_of_getElem? (i := 619) (by decide +kernel), List.mem_of_getElem? (i := 620) (by decide +kernel)⟩
theorem lw_p27 : lw_okq (⟨"BellTrees", "bellsGone", "(LBellTrees$Shelf;LBellTrees$Shelf;)I"⟩, 9) := ⟨⟨by decide +kernel, by decide +kernel⟩, List.mem_of_getElem? (i := 16) (by decide +kernel), List.mem_of_getElem? (i := 625) (by decide +kernel), List.mem_of_getElem? (i := 626) (by decide +kernel)⟩
theorem lw_p28 : lw_okq (⟨"BellTrees", "firstNotSo", "(LBellTrees$Shelf;LBellTrees$Shelf;I)I"⟩, 9) := ⟨⟨by decide +kernel, by decide +kernel⟩, List.mem_of_getElem? (i := 16) (by decide +kernel), List.mem_of_getElem? (i := 630) (by decide +kernel), List.mem_of_getElem? (i := 631) (by decide +kernel)⟩
theorem lw_p29 : lw_okq (⟨"BellTrees", "firstUnlike", "(LBellTrees$Shelf;LBellTrees$Shelf;LBellTrees$Sounds;I)I"⟩, 9) := ⟨⟨by decide +kernel, by decide +kernel⟩, List.mem_of_getElem? (i := 16) (by decide +kernel), List.mem_of_getElem? (i := 642) (by decide +kernel), List.mem_of_getElem? (i := 643) (by decide +kernel)⟩
theorem lw_p30 : lw_okq (⟨"BellTrees", "areTold", "(II)Z"⟩, 9) := ⟨⟨by decide +kernel, by decide +kernel⟩, List.mem_of_getElem? (i := 16) (by decide +kernel), List.mem_of_getElem? (i := 660) (by decide +kernel), List.mem_of_getElem? (i := 661) (by decide +kernel)⟩
theorem lw_p31 : lw_okq (⟨"BellTrees", "hasSound", "(LBellTrees$Shelf;I)Z"⟩, 9) := ⟨⟨by decide +kernel, by decide +kernel⟩, List.mem_of_getElem? (i := 16) (by decide +kernel), List.mem_of_getElem? (i := 664) (by decide +kernel), List.mem_of_getElem? (i := 665) (by decide +kernel)⟩
def lw_privs_2 : List (MethodName × Nat) := [(⟨"BellTrees$Law", "named", "(I)I"⟩, 15), (⟨"BellTrees$Law", "push", "(I)V"⟩, 15), (⟨"BellTrees", "bookRefusal", "(LBellTrees$Shelf;IZ)I"⟩, 9), (⟨"BellTrees$Walks", "ways", "(II)I"⟩, 2), (⟨"BellTrees$Walks", "onwardAt", "(II)I"⟩, 2), (⟨"BellTrees$Walks", "fittingOf", "(II)I"⟩, 2), (⟨"BellTrees", "rowsRefusal", "(I)I"⟩, 9), (⟨"BellTrees$Walks", "quietest", "(II)I"⟩, 2), (⟨"BellTrees", "walkAndBookRefusal", "(II)I"⟩, 9), (⟨"BellTrees", "walksRefusal", "(I)I"⟩, 9), (⟨"BellTrees", "isWalk", "(LBellTrees$Shelf;)Z"⟩, 9), (⟨"BellTrees", "bellsGone", "(LBellTrees$Shelf;LBellTrees$Shelf;)I"⟩, 9), (⟨"BellTrees", "firstNotSo", "(LBellTrees$Shelf;LBellTrees$Shelf;I)I"⟩, 9), (⟨"BellTrees", "firstUnlike", "(LBellTrees$Shelf;LBellTrees$Shelf;LBellTrees$Sounds;I)I"⟩, 9), (⟨"BellTrees", "areTold", "(II)Z"⟩, 9), (⟨"BellTrees", "hasSound", "(LBellTrees$Shelf;I)Z"⟩, 9)]
theorem lw_r2 : ∀ q ∈ lw_privs_2, lw_okq q := List.forall_mem_cons.mpr ⟨lw_p16, List.forall_mem_cons.mpr ⟨lw_p17, List.forall_mem_cons.mpr ⟨lw_p18, List.forall_mem_cons.mpr ⟨lw_p19, List.forall_mem_cons.mpr ⟨lw_p20, List.forall_mem_cons.mpr ⟨lw_p21, List.forall_mem_cons.mpr ⟨lw_p22, List.forall_mem_cons.mpr ⟨lw_p23, List.forall_mem_cons.mpr ⟨lw_p24, List.forall_mem_cons.mpr ⟨lw_p25, List.forall_mem_cons.mpr ⟨lw_p26, List.forall_mem_cons.mpr ⟨lw_p27, List.forall_mem_cons.mpr ⟨lw_p28, List.forall_mem_cons.mpr ⟨lw_p29, List.forall_mem_cons.mpr ⟨lw_p30, List.forall_mem_cons.mpr ⟨lw_p31, fun _ h => absurd h List.not_mem_nil⟩⟩⟩⟩⟩⟩⟩⟩⟩⟩⟩⟩⟩⟩⟩⟩
theorem lw_p32 : lw_okq (⟨"BellTrees$Forest", "isUnlikeWithout", "(I)Z"⟩, 7) := ⟨⟨by decide +kernel, by decide +kernel⟩, List.mem_of_getElem? (i := 24) (by decide +kernel), List.mem_of_getElem? (i := 678) (by decide +kernel), List.mem_of_getElem? (i := 679) (by decide +kernel)⟩
theorem lw_p33 : lw_okq (⟨"BellTrees", "drawWalkers", "(III)I"⟩, 9) := ⟨⟨by decide +kernel, by decide +kernel⟩, List.mem_of_getElem? (i := 16) (by decide +kernel), List.mem_of_getElem? (i := 687) (by decide +kernel), List.mem_of_getElem? (i := 688) (by decide +kernel)⟩
theorem lw_p34 : lw_okq (⟨"BellTrees$Bodies", "runOwn", "(III)I"⟩, 5) := ⟨⟨by decide +kernel, by decide +kernel⟩, List.mem_of_getElem? (i := 199) (by decide +kernel), List.mem_of_getElem? (i := 804) (by decide +kernel), List.mem_of_getElem? (i := 805) (by decide +kernel)⟩
theorem lw_p35 : lw_okq (⟨"BellTrees$Bodies", "runFrom", "(IIII)I"⟩, 5) := ⟨⟨by decide +kernel, by decide +kernel⟩, List.mem_of_getElem? (i := 199) (by decide +kernel), List.mem_of_getElem? (i := 808) (by decide +kernel), List.mem_of_getElem? (i := 809) (by decide +kernel)⟩
theorem lw_p36 : lw_okq (⟨"BellTrees$Bodies", "runBody", "(IIII)I"⟩, 5) := ⟨⟨by decide +kernel, by decide +kernel⟩, List.mem_of_getElem? (i := 199) (by decide +kernel), List.mem_of_getElem? (i := 814) (by decide +kernel), List.mem_of_getElem? (i := 815) (by decide +kernel)⟩
theorem lw_p37 : lw_okq (⟨"BellTrees$Bodies", "note", "(I)V"⟩, 5) := ⟨⟨by decide +kernel, by decide +kernel⟩, List.mem_of_getElem? (i := 199) (by decide +kernel), List.mem_of_getElem? (i := 818) (by decide +kernel), List.mem_of_getElem? (i := 819) (by decide +kernel)⟩
theorem lw_p38 : lw_okq (⟨"BellTrees$Bodies", "runAbove", "(IIII)I"⟩, 5) := ⟨⟨by decide +kernel, by decide +kernel⟩, List.mem_of_getElem? (i := 199) (by decide +kernel), List.mem_of_getElem? (i := 822) (by decide +kernel), List.mem_of_getElem? (i := 823) (by decide +kernel)⟩
theorem lw_p39 : lw_okq (⟨"BellTrees", "placeRefusal", "(LBellTrees$Shelf;I)I"⟩, 9) := ⟨⟨by decide +kernel, by decide +kernel⟩, List.mem_of_getElem? (i := 16) (by decide +kernel), List.mem_of_getElem? (i := 864) (by decide +kernel), List.mem_of_getElem? (i := 865) (by decide +kernel)⟩
theorem lw_p40 : lw_okq (⟨"BellTrees$Shelf", "lowest", "(J)J"⟩, 4) := ⟨⟨by decide +kernel, by decide +kernel⟩, List.mem_of_getElem? (i := 222) (by decide +kernel), List.mem_of_getElem? (i := 876) (by decide +kernel), List.mem_of_getElem? (i := 877) (by decide +kernel)⟩
theorem lw_p41 : lw_okq (⟨"BellTreesModel", "addTree", "(III)I"⟩, 53) := ⟨⟨by decide +kernel, by decide +kernel⟩, List.mem_of_getElem? (i := 933) (by decide +kernel), List.mem_of_getElem? (i := 1107) (by decide +kernel), List.mem_of_getElem? (i := 1108) (by decide +kernel)⟩
theorem lw_p42 : lw_okq (⟨"BellTreesModel", "isTree", "(I)Z"⟩, 53) := ⟨⟨by decide +kernel, by decide +kernel⟩, List.mem_of_getElem? (i := 933) (by decide +kernel), List.mem_of_getElem? (i := 1123) (by decide +kernel), List.mem_of_getElem? (i := 1124) (by decide +kernel)⟩
theorem lw_p43 : lw_okq (⟨"BellTreesModel", "areBeside", "(II)Z"⟩, 53) := ⟨⟨by decide +kernel, by decide +kernel⟩, List.mem_of_getElem? (i := 933) (by decide +kernel), List.mem_of_getElem? (i := 1127) (by decide +kernel), List.mem_of_getElem? (i := 1128) (by decide +kernel)⟩
theorem lw_p44 : lw_okq (⟨"BellTreesModel", "lays", "(III)V"⟩, 53) := ⟨⟨by decide +kernel, by decide +kernel⟩, List.mem_of_getElem? (i := 933) (by decide +kernel), List.mem_of_getElem? (i := 1135) (by decide +kernel), List.mem_of_getElem? (i := 1136) (by decide +kernel)⟩
theorem lw_p45 : lw_okq (⟨"BellTreesModel", "isThing", "(II)Z"⟩, 53) := ⟨⟨by decide +kernel, by decide +kernel⟩, List.mem_of_getElem? (i := 933) (by decide +kernel), List.mem_of_getElem? (i := 1147) (by decide +kernel), List.mem_of_getElem? (i := 1148) (by decide +kernel)⟩
theorem lw_p46 : lw_okq (⟨"BellTreesModel", "changes", "(III)I"⟩, 53) := ⟨⟨by decide +kernel, by decide +kernel⟩, List.mem_of_getElem? (i := 933) (by decide +kernel), List.mem_of_getElem? (i := 1157) (by decide +kernel), List.mem_of_getElem? (i := 1158) (by decide +kernel)⟩
theorem lw_p47 : lw_okq (⟨"BellTreesModel", "valueAt", "(II)I"⟩, 53) := ⟨⟨by decide +kernel, by decide +kernel⟩, List.mem_of_getElem? (i := 933) (by decide +kernel), List.mem_of_getElem? (i := 1161) (by decide +kernel), List.mem_of_getElem? (i := 1162) (by decide +kernel)⟩
def lw_privs_3 : List (MethodName × Nat) := [(⟨"BellTrees$Forest", "isUnlikeWithout", "(I)Z"⟩, 7), (⟨"BellTrees", "drawWalkers", "(III)I"⟩, 9), (⟨"BellTrees$Bodies", "runOwn", "(III)I"⟩, 5), (⟨"BellTrees$Bodies", "runFrom", "(IIII)I"⟩, 5), (⟨"BellTrees$Bodies", "runBody", "(IIII)I"⟩, 5), (⟨"BellTrees$Bodies", "note", "(I)V"⟩, 5), (⟨"BellTrees$Bodies", "runAbove", "(IIII)I"⟩, 5), (⟨"BellTrees", "placeRefusal", "(LBellTrees$Shelf;I)I"⟩, 9), (⟨"BellTrees$Shelf", "lowest", "(J)J"⟩, 4), (⟨"BellTreesModel", "addTree", "(III)I"⟩, 53), (⟨"BellTreesModel", "isTree", "(I)Z"⟩, 53), (⟨"BellTreesModel", "areBeside", "(II)Z"⟩, 53), (⟨"BellTreesModel", "lays", "(III)V"⟩, 53), (⟨"BellTreesModel", "isThing", "(II)Z"⟩, 53), (⟨"BellTreesModel", "changes", "(III)I"⟩, 53), (⟨"BellTreesModel", "valueAt", "(II)I"⟩, 53)]
theorem lw_r3 : ∀ q ∈ lw_privs_3, lw_okq q := List.forall_mem_cons.mpr ⟨lw_p32, List.forall_mem_cons.mpr ⟨lw_p33, List.forall_mem_cons.mpr ⟨lw_p34, List.forall_mem_cons.mpr ⟨lw_p35, List.forall_mem_cons.mpr ⟨lw_p36, List.forall_mem_cons.mpr ⟨lw_p37, List.forall_mem_cons.mpr ⟨lw_p38, List.forall_mem_cons.mpr ⟨lw_p39, List.forall_mem_cons.mpr ⟨lw_p40, List.forall_mem_cons.mpr ⟨lw_p41, List.forall_mem_cons.mpr ⟨lw_p42, List.forall_mem_cons.mpr ⟨lw_p43, List.forall_mem_cons.mpr ⟨lw_p44, List.forall_mem_cons.mpr ⟨lw_p45, List.forall_mem_cons.mpr ⟨lw_p46, List.forall_mem_cons.mpr ⟨lw_p47, fun _ h => absurd h List.not_mem_nil⟩⟩⟩⟩⟩⟩⟩⟩⟩⟩⟩⟩⟩⟩⟩⟩
theorem lw_p48 : lw_okq (⟨"BellTreesModel", "findFar", "()V"⟩, 53) := ⟨⟨by decide +kernel, by decide +kernel⟩, List.mem_of_getElem? (i := 933) (by decide +kernel), List.mem_of_getElem? (i := 1169) (by decide +kernel), List.mem_of_getElem? (i := 1170) (by decide +kernel)⟩
theorem lw_p49 : lw_okq (⟨"BellTreesModel", "readText", "(I)I"⟩, 53) := ⟨⟨by decide +kernel, by decide +kernel⟩, List.mem_of_getElem? (i := 933) (by decide +kernel), List.mem_of_getElem? (i := 1181) (by decide +kernel), List.mem_of_getElem? (i := 1182) (by decide +kernel)⟩
theorem lw_p50 : lw_okq (⟨"BellTreesModel", "line", "()V"⟩, 53) := ⟨⟨by decide +kernel, by decide +kernel⟩, List.mem_of_getElem? (i := 933) (by decide +kernel), List.mem_of_getElem? (i := 1185) (by decide +kernel), List.mem_of_getElem? (i := 1186) (by decide +kernel)⟩
theorem lw_p51 : lw_okq (⟨"BellTreesModel", "either", "()V"⟩, 53) := ⟨⟨by decide +kernel, by decide +kernel⟩, List.mem_of_getElem? (i := 933) (by decide +kernel), List.mem_of_getElem? (i := 1189) (by decide +kernel), List.mem_of_getElem? (i := 1190) (by decide +kernel)⟩
theorem lw_p52 : lw_okq (⟨"BellTreesModel", "both", "()V"⟩, 53) := ⟨⟨by decide +kernel, by decide +kernel⟩, List.mem_of_getElem? (i := 933) (by decide +kernel), List.mem_of_getElem? (i := 1193) (by decide +kernel), List.mem_of_getElem? (i := 1194) (by decide +kernel)⟩
theorem lw_p53 : lw_okq (⟨"BellTreesModel", "compared", "()V"⟩, 53) := ⟨⟨by decide +kernel, by decide +kernel⟩, List.mem_of_getElem? (i := 933) (by decide +kernel), List.mem_of_getElem? (i := 1197) (by decide +kernel), List.mem_of_getElem? (i := 1198) (by decide +kernel)⟩
theorem lw_p54 : lw_okq (⟨"BellTreesModel", "sum", "()V"⟩, 53) := ⟨⟨by decide +kernel, by decide +kernel⟩, List.mem_of_getElem? (i := 933) (by decide +kernel), List.mem_of_getElem? (i := 1201) (by decide +kernel), List.mem_of_getElem? (i := 1202) (by decide +kernel)⟩
theorem lw_p55 : lw_okq (⟨"BellTreesModel", "product", "()V"⟩, 53) := ⟨⟨by decide +kernel, by decide +kernel⟩, List.mem_of_getElem? (i := 933) (by decide +kernel), List.mem_of_getElem? (i := 1205) (by decide +kernel), List.mem_of_getElem? (i := 1206) (by decide +kernel)⟩
theorem lw_p56 : lw_okq (⟨"BellTreesModel", "operand", "()V"⟩, 53) := ⟨⟨by decide +kernel, by decide +kernel⟩, List.mem_of_getElem? (i := 933) (by decide +kernel), List.mem_of_getElem? (i := 1209) (by decide +kernel), List.mem_of_getElem? (i := 1210) (by decide +kernel)⟩
theorem lw_p57 : lw_okq (⟨"BellTreesModel", "look", "()I"⟩, 53) := ⟨⟨by decide +kernel, by decide +kernel⟩, List.mem_of_getElem? (i := 933) (by decide +kernel), List.mem_of_getElem? (i := 1213) (by decide +kernel), List.mem_of_getElem? (i := 1214) (by decide +kernel)⟩
theorem lw_p58 : lw_okq (⟨"BellTreesModel", "addStep", "(II)V"⟩, 53) := ⟨⟨by decide +kernel, by decide +kernel⟩, List.mem_of_getElem? (i := 933) (by decide +kernel), List.mem_of_getElem? (i := 1220) (by decide +kernel), List.mem_of_getElem? (i := 1221) (by decide +kernel)⟩
theorem lw_p59 : lw_okq (⟨"BellTreesModel", "opens", "()Z"⟩, 53) := ⟨⟨by decide +kernel, by decide +kernel⟩, List.mem_of_getElem? (i := 933) (by decide +kernel), List.mem_of_getElem? (i := 1224) (by decide +kernel), List.mem_of_getElem? (i := 1225) (by decide +kernel)⟩
theorem lw_p60 : lw_okq (⟨"BellTreesModel", "faulty", "()V"⟩, 53) := ⟨⟨by decide +kernel, by decide +kernel⟩, List.mem_of_getElem? (i := 933) (by decide +kernel), List.mem_of_getElem? (i := 1228) (by decide +kernel), List.mem_of_getElem? (i := 1229) (by decide +kernel)⟩
theorem lw_p61 : lw_okq (⟨"BellTreesModel", "figure", "()V"⟩, 53) := ⟨⟨by decide +kernel, by decide +kernel⟩, List.mem_of_getElem? (i := 933) (by decide +kernel), List.mem_of_getElem? (i := 1232) (by decide +kernel), List.mem_of_getElem? (i := 1233) (by decide +kernel)⟩
theorem lw_p62 : lw_okq (⟨"BellTreesModel", "soundOf", "(IIII)I"⟩, 53) := ⟨⟨by decide +kernel, by decide +kernel⟩, List.mem_of_getElem? (i := 933) (by decide +kernel), List.mem_of_getElem? (i := 1244) (by decide +kernel), List.mem_of_getElem? (i := 1245) (by decide +kernel)⟩
theorem lw_p63 : lw_okq (⟨"BellTreesModel", "isHeard", "(III)Z"⟩, 53) := ⟨⟨by decide +kernel, by decide +kernel⟩, List.mem_of_getElem? (i := 933) (by decide +kernel), List.mem_of_getElem? (i := 1248) (by decide +kernel), List.mem_of_getElem? (i := 1249) (by decide +kernel)⟩
def lw_privs_4 : List (MethodName × Nat) := [(⟨"BellTreesModel", "findFar", "()V"⟩, 53), (⟨"BellTreesModel", "readText", "(I)I"⟩, 53), (⟨"BellTreesModel", "line", "()V"⟩, 53), (⟨"BellTreesModel", "either", "()V"⟩, 53), (⟨"BellTreesModel", "both", "()V"⟩, 53), (⟨"BellTreesModel", "compared", "()V"⟩, 53), (⟨"BellTreesModel", "sum", "()V"⟩, 53), (⟨"BellTreesModel", "product", "()V"⟩, 53), (⟨"BellTreesModel", "operand", "()V"⟩, 53), (⟨"BellTreesModel", "look", "()I"⟩, 53), (⟨"BellTreesModel", "addStep", "(II)V"⟩, 53), (⟨"BellTreesModel", "opens", "()Z"⟩, 53), (⟨"BellTreesModel", "faulty", "()V"⟩, 53), (⟨"BellTreesModel", "figure", "()V"⟩, 53), (⟨"BellTreesModel", "soundOf", "(IIII)I"⟩, 53), (⟨"BellTreesModel", "isHeard", "(III)Z"⟩, 53)]
theorem lw_r4 : ∀ q ∈ lw_privs_4, lw_okq q := List.forall_mem_cons.mpr ⟨lw_p48, List.forall_mem_cons.mpr ⟨lw_p49, List.forall_mem_cons.mpr ⟨lw_p50, List.forall_mem_cons.mpr ⟨lw_p51, List.forall_mem_cons.mpr ⟨lw_p52, List.forall_mem_cons.mpr ⟨lw_p53, List.forall_mem_cons.mpr ⟨lw_p54, List.forall_mem_cons.mpr ⟨lw_p55, List.forall_mem_cons.mpr ⟨lw_p56, List.forall_mem_cons.mpr ⟨lw_p57, List.forall_mem_cons.mpr ⟨lw_p58, List.forall_mem_cons.mpr ⟨lw_p59, List.forall_mem_cons.mpr ⟨lw_p60, List.forall_mem_cons.mpr ⟨lw_p61, List.forall_mem_cons.mpr ⟨lw_p62, List.forall_mem_cons.mpr ⟨lw_p63, fun _ h => absurd h List.not_mem_nil⟩⟩⟩⟩⟩⟩⟩⟩⟩⟩⟩⟩⟩⟩⟩⟩
theorem lw_p64 : lw_okq (⟨"BellTreesModel", "gives", "(I)I"⟩, 53) := ⟨⟨by decide +kernel, by decide +kernel⟩, List.mem_of_getElem? (i := 933) (by decide +kernel), List.mem_of_getElem? (i := 1252) (by decide +kernel), List.mem_of_getElem? (i := 1253) (by decide +kernel)⟩
theorem lw_p65 : lw_okq (⟨"BellTreesModel", "worked", "(III)I"⟩, 53) := ⟨⟨by decide +kernel, by decide +kernel⟩, List.mem_of_getElem? (i := 933) (by decide +kernel), List.mem_of_getElem? (i := 1256) (by decide +kernel), List.mem_of_getElem? (i := 1257) (by decide +kernel)⟩
theorem lw_p66 : lw_okq (⟨"BellTreesModel", "rowFault", "(I)I"⟩, 53) := ⟨⟨by decide +kernel, by decide +kernel⟩, List.mem_of_getElem? (i := 933) (by decide +kernel), List.mem_of_getElem? (i := 1267) (by decide +kernel), List.mem_of_getElem? (i := 1268) (by decide +kernel)⟩
theorem lw_p67 : lw_okq (⟨"BellTreesModel", "minutesOf", "(I)I"⟩, 53) := ⟨⟨by decide +kernel, by decide +kernel⟩, List.mem_of_getElem? (i := 933) (by decide +kernel), List.mem_of_getElem? (i := 1271) (by decide +kernel), List.mem_of_getElem? (i := 1272) (by decide +kernel)⟩
theorem lw_p68 : lw_okq (⟨"BellTreesModel", "findWalks", "(II)V"⟩, 53) := ⟨⟨by decide +kernel, by decide +kernel⟩, List.mem_of_getElem? (i := 933) (by decide +kernel), List.mem_of_getElem? (i := 1275) (by decide +kernel), List.mem_of_getElem? (i := 1276) (by decide +kernel)⟩
theorem lw_p69 : lw_okq (⟨"BellTreesModel", "mayGo", "(II)Z"⟩, 53) := ⟨⟨by decide +kernel, by decide +kernel⟩, List.mem_of_getElem? (i := 933) (by decide +kernel), List.mem_of_getElem? (i := 1279) (by decide +kernel), List.mem_of_getElem? (i := 1280) (by decide +kernel)⟩
theorem lw_p70 : lw_okq (⟨"BellTreesModel", "told", "(II)J"⟩, 53) := ⟨⟨by decide +kernel, by decide +kernel⟩, List.mem_of_getElem? (i := 933) (by decide +kernel), List.mem_of_getElem? (i := 1287) (by decide +kernel), List.mem_of_getElem? (i := 1288) (by decide +kernel)⟩
theorem lw_p71 : lw_okq (⟨"BellTreesModel", "walksMany", "(I)I"⟩, 53) := ⟨⟨by decide +kernel, by decide +kernel⟩, List.mem_of_getElem? (i := 933) (by decide +kernel), List.mem_of_getElem? (i := 1291) (by decide +kernel), List.mem_of_getElem? (i := 1292) (by decide +kernel)⟩
theorem lw_p72 : lw_okq (⟨"BellTreesModel", "canBeOf", "(IIJ)Z"⟩, 53) := ⟨⟨by decide +kernel, by decide +kernel⟩, List.mem_of_getElem? (i := 933) (by decide +kernel), List.mem_of_getElem? (i := 1306) (by decide +kernel), List.mem_of_getElem? (i := 1307) (by decide +kernel)⟩
theorem lw_p73 : lw_okq (⟨"BellTreesModel", "findLeast", "(IIII)V"⟩, 53) := ⟨⟨by decide +kernel, by decide +kernel⟩, List.mem_of_getElem? (i := 933) (by decide +kernel), List.mem_of_getElem? (i := 1314) (by decide +kernel), List.mem_of_getElem? (i := 1315) (by decide +kernel)⟩
theorem lw_p74 : lw_okq (⟨"BellTreesModel", "soundIn", "(III)I"⟩, 53) := ⟨⟨by decide +kernel, by decide +kernel⟩, List.mem_of_getElem? (i := 933) (by decide +kernel), List.mem_of_getElem? (i := 1318) (by decide +kernel), List.mem_of_getElem? (i := 1319) (by decide +kernel)⟩
theorem lw_p75 : lw_okq (⟨"BellTreesModel", "rowsFault", "(I)I"⟩, 53) := ⟨⟨by decide +kernel, by decide +kernel⟩, List.mem_of_getElem? (i := 933) (by decide +kernel), List.mem_of_getElem? (i := 1330) (by decide +kernel), List.mem_of_getElem? (i := 1331) (by decide +kernel)⟩
theorem lw_p76 : lw_okq (⟨"BellTreesModel", "isWalk", "(I)Z"⟩, 53) := ⟨⟨by decide +kernel, by decide +kernel⟩, List.mem_of_getElem? (i := 933) (by decide +kernel), List.mem_of_getElem? (i := 1334) (by decide +kernel), List.mem_of_getElem? (i := 1335) (by decide +kernel)⟩
theorem lw_p77 : lw_okq (⟨"BellTreesModel", "bothHave", "(I)I"⟩, 53) := ⟨⟨by decide +kernel, by decide +kernel⟩, List.mem_of_getElem? (i := 933) (by decide +kernel), List.mem_of_getElem? (i := 1338) (by decide +kernel), List.mem_of_getElem? (i := 1339) (by decide +kernel)⟩
theorem lw_p78 : lw_okq (⟨"BellTreesModel", "walkedSound", "(IIII)I"⟩, 53) := ⟨⟨by decide +kernel, by decide +kernel⟩, List.mem_of_getElem? (i := 933) (by decide +kernel), List.mem_of_getElem? (i := 1342) (by decide +kernel), List.mem_of_getElem? (i := 1343) (by decide +kernel)⟩
theorem lw_p79 : lw_okq (⟨"BellTreesModel", "unlikeIn", "(IIIII)I"⟩, 53) := ⟨⟨by decide +kernel, by decide +kernel⟩, List.mem_of_getElem? (i := 933) (by decide +kernel), List.mem_of_getElem? (i := 1351) (by decide +kernel), List.mem_of_getElem? (i := 1352) (by decide +kernel)⟩
def lw_privs_5 : List (MethodName × Nat) := [(⟨"BellTreesModel", "gives", "(I)I"⟩, 53), (⟨"BellTreesModel", "worked", "(III)I"⟩, 53), (⟨"BellTreesModel", "rowFault", "(I)I"⟩, 53), (⟨"BellTreesModel", "minutesOf", "(I)I"⟩, 53), (⟨"BellTreesModel", "findWalks", "(II)V"⟩, 53), (⟨"BellTreesModel", "mayGo", "(II)Z"⟩, 53), (⟨"BellTreesModel", "told", "(II)J"⟩, 53), (⟨"BellTreesModel", "walksMany", "(I)I"⟩, 53), (⟨"BellTreesModel", "canBeOf", "(IIJ)Z"⟩, 53), (⟨"BellTreesModel", "findLeast", "(IIII)V"⟩, 53), (⟨"BellTreesModel", "soundIn", "(III)I"⟩, 53), (⟨"BellTreesModel", "rowsFault", "(I)I"⟩, 53), (⟨"BellTreesModel", "isWalk", "(I)Z"⟩, 53), (⟨"BellTreesModel", "bothHave", "(I)I"⟩, 53), (⟨"BellTreesModel", "walkedSound", "(IIII)I"⟩, 53), (⟨"BellTreesModel", "unlikeIn", "(IIIII)I"⟩, 53)]
theorem lw_r5 : ∀ q ∈ lw_privs_5, lw_okq q := List.forall_mem_cons.mpr ⟨lw_p64, List.forall_mem_cons.mpr ⟨lw_p65, List.forall_mem_cons.mpr ⟨lw_p66, List.forall_mem_cons.mpr ⟨lw_p67, List.forall_mem_cons.mpr ⟨lw_p68, List.forall_mem_cons.mpr ⟨lw_p69, List.forall_mem_cons.mpr ⟨lw_p70, List.forall_mem_cons.mpr ⟨lw_p71, List.forall_mem_cons.mpr ⟨lw_p72, List.forall_mem_cons.mpr ⟨lw_p73, List.forall_mem_cons.mpr ⟨lw_p74, List.forall_mem_cons.mpr ⟨lw_p75, List.forall_mem_cons.mpr ⟨lw_p76, List.forall_mem_cons.mpr ⟨lw_p77, List.forall_mem_cons.mpr ⟨lw_p78, List.forall_mem_cons.mpr ⟨lw_p79, fun _ h => absurd h List.not_mem_nil⟩⟩⟩⟩⟩⟩⟩⟩⟩⟩⟩⟩⟩⟩⟩⟩
theorem lw_p80 : lw_okq (⟨"BellTreesModel", "walksFault", "(I)I"⟩, 53) := ⟨⟨by decide +kernel, by decide +kernel⟩, List.mem_of_getElem? (i := 933) (by decide +kernel), List.mem_of_getElem? (i := 1359) (by decide +kernel), List.mem_of_getElem? (i := 1360) (by decide +kernel)⟩
theorem lw_p81 : lw_okq (⟨"BellTreesModel", "areEnough", "(III)Z"⟩, 53) := ⟨⟨by decide +kernel, by decide +kernel⟩, List.mem_of_getElem? (i := 933) (by decide +kernel), List.mem_of_getElem? (i := 1366) (by decide +kernel), List.mem_of_getElem? (i := 1367) (by decide +kernel)⟩
theorem lw_p82 : lw_okq (⟨"BellTreesModel", "hasSound", "(III)Z"⟩, 53) := ⟨⟨by decide +kernel, by decide +kernel⟩, List.mem_of_getElem? (i := 933) (by decide +kernel), List.mem_of_getElem? (i := 1370) (by decide +kernel), List.mem_of_getElem? (i := 1371) (by decide +kernel)⟩
theorem lw_p83 : lw_okq (⟨"BellTreesModel", "isTuned", "(I)Z"⟩, 53) := ⟨⟨by decide +kernel, by decide +kernel⟩, List.mem_of_getElem? (i := 933) (by decide +kernel), List.mem_of_getElem? (i := 1378) (by decide +kernel), List.mem_of_getElem? (i := 1379) (by decide +kernel)⟩
theorem lw_p84 : lw_okq (⟨"BellTreesModel", "draw", "(I)I"⟩, 53) := ⟨⟨by decide +kernel, by decide +kernel⟩, List.mem_of_getElem? (i := 933) (by decide +kernel), List.mem_of_getElem? (i := 1386) (by decide +kernel), List.mem_of_getElem? (i := 1387) (by decide +kernel)⟩
theorem lw_p85 : lw_okq (⟨"BellTreesModel", "neighbour", "(II)I"⟩, 53) := ⟨⟨by decide +kernel, by decide +kernel⟩, List.mem_of_getElem? (i := 933) (by decide +kernel), List.mem_of_getElem? (i := 1391) (by decide +kernel), List.mem_of_getElem? (i := 1392) (by decide +kernel)⟩
theorem lw_p86 : lw_okq (⟨"BellTreesModel", "isBody", "(I)Z"⟩, 53) := ⟨⟨by decide +kernel, by decide +kernel⟩, List.mem_of_getElem? (i := 933) (by decide +kernel), List.mem_of_getElem? (i := 1427) (by decide +kernel), List.mem_of_getElem? (i := 1428) (by decide +kernel)⟩
theorem lw_p87 : lw_okq (⟨"BellTreesModel", "ringing", "(II)I"⟩, 53) := ⟨⟨by decide +kernel, by decide +kernel⟩, List.mem_of_getElem? (i := 933) (by decide +kernel), List.mem_of_getElem? (i := 1431) (by decide +kernel), List.mem_of_getElem? (i := 1432) (by decide +kernel)⟩
theorem lw_p88 : lw_okq (⟨"BellTreesModel", "ran", "(I)V"⟩, 53) := ⟨⟨by decide +kernel, by decide +kernel⟩, List.mem_of_getElem? (i := 933) (by decide +kernel), List.mem_of_getElem? (i := 1438) (by decide +kernel), List.mem_of_getElem? (i := 1439) (by decide +kernel)⟩
theorem lw_p89 : lw_okq (⟨"BellTreesModel", "plainRings", "(II)I"⟩, 53) := ⟨⟨by decide +kernel, by decide +kernel⟩, List.mem_of_getElem? (i := 933) (by decide +kernel), List.mem_of_getElem? (i := 1442) (by decide +kernel), List.mem_of_getElem? (i := 1443) (by decide +kernel)⟩
theorem lw_p90 : lw_okq (⟨"BellTreesModel", "stolenRings", "(II)I"⟩, 53) := ⟨⟨by decide +kernel, by decide +kernel⟩, List.mem_of_getElem? (i := 933) (by decide +kernel), List.mem_of_getElem? (i := 1446) (by decide +kernel), List.mem_of_getElem? (i := 1447) (by decide +kernel)⟩
theorem lw_p91 : lw_okq (⟨"BellTreesModel", "brushing", "(II)I"⟩, 53) := ⟨⟨by decide +kernel, by decide +kernel⟩, List.mem_of_getElem? (i := 933) (by decide +kernel), List.mem_of_getElem? (i := 1450) (by decide +kernel), List.mem_of_getElem? (i := 1451) (by decide +kernel)⟩
theorem lw_p92 : lw_okq (⟨"BellTreesModel", "gustBrushes", "(II)I"⟩, 53) := ⟨⟨by decide +kernel, by decide +kernel⟩, List.mem_of_getElem? (i := 933) (by decide +kernel), List.mem_of_getElem? (i := 1454) (by decide +kernel), List.mem_of_getElem? (i := 1455) (by decide +kernel)⟩
theorem lw_p93 : lw_okq (⟨"BellTreesModel", "plainBrushes", "(II)I"⟩, 53) := ⟨⟨by decide +kernel, by decide +kernel⟩, List.mem_of_getElem? (i := 933) (by decide +kernel), List.mem_of_getElem? (i := 1458) (by decide +kernel), List.mem_of_getElem? (i := 1459) (by decide +kernel)⟩
theorem lw_p94 : lw_okq (⟨"BellTreesModel", "hearing", "(II)I"⟩, 53) := ⟨⟨by decide +kernel, by decide +kernel⟩, List.mem_of_getElem? (i := 933) (by decide +kernel), List.mem_of_getElem? (i := 1462) (by decide +kernel), List.mem_of_getElem? (i := 1463) (by decide +kernel)⟩
theorem lw_p95 : lw_okq (⟨"BellTreesModel", "owlHears", "(II)I"⟩, 53) := ⟨⟨by decide +kernel, by decide +kernel⟩, List.mem_of_getElem? (i := 933) (by decide +kernel), List.mem_of_getElem? (i := 1466) (by decide +kernel), List.mem_of_getElem? (i := 1467) (by decide +kernel)⟩
def lw_privs_6 : List (MethodName × Nat) := [(⟨"BellTreesModel", "walksFault", "(I)I"⟩, 53), (⟨"BellTreesModel", "areEnough", "(III)Z"⟩, 53), (⟨"BellTreesModel", "hasSound", "(III)Z"⟩, 53), (⟨"BellTreesModel", "isTuned", "(I)Z"⟩, 53), (⟨"BellTreesModel", "draw", "(I)I"⟩, 53), (⟨"BellTreesModel", "neighbour", "(II)I"⟩, 53), (⟨"BellTreesModel", "isBody", "(I)Z"⟩, 53), (⟨"BellTreesModel", "ringing", "(II)I"⟩, 53), (⟨"BellTreesModel", "ran", "(I)V"⟩, 53), (⟨"BellTreesModel", "plainRings", "(II)I"⟩, 53), (⟨"BellTreesModel", "stolenRings", "(II)I"⟩, 53), (⟨"BellTreesModel", "brushing", "(II)I"⟩, 53), (⟨"BellTreesModel", "gustBrushes", "(II)I"⟩, 53), (⟨"BellTreesModel", "plainBrushes", "(II)I"⟩, 53), (⟨"BellTreesModel", "hearing", "(II)I"⟩, 53), (⟨"BellTreesModel", "owlHears", "(II)I"⟩, 53)]
theorem lw_r6 : ∀ q ∈ lw_privs_6, lw_okq q := List.forall_mem_cons.mpr ⟨lw_p80, List.forall_mem_cons.mpr ⟨lw_p81, List.forall_mem_cons.mpr ⟨lw_p82, List.forall_mem_cons.mpr ⟨lw_p83, List.forall_mem_cons.mpr ⟨lw_p84, List.forall_mem_cons.mpr ⟨lw_p85, List.forall_mem_cons.mpr ⟨lw_p86, List.forall_mem_cons.mpr ⟨lw_p87, List.forall_mem_cons.mpr ⟨lw_p88, List.forall_mem_cons.mpr ⟨lw_p89, List.forall_mem_cons.mpr ⟨lw_p90, List.forall_mem_cons.mpr ⟨lw_p91, List.forall_mem_cons.mpr ⟨lw_p92, List.forall_mem_cons.mpr ⟨lw_p93, List.forall_mem_cons.mpr ⟨lw_p94, List.forall_mem_cons.mpr ⟨lw_p95, fun _ h => absurd h List.not_mem_nil⟩⟩⟩⟩⟩⟩⟩⟩⟩⟩⟩⟩⟩⟩⟩⟩
theorem lw_p96 : lw_okq (⟨"BellTreesModel", "plainHears", "(II)I"⟩, 53) := ⟨⟨by decide +kernel, by decide +kernel⟩, List.mem_of_getElem? (i := 933) (by decide +kernel), List.mem_of_getElem? (i := 1470) (by decide +kernel), List.mem_of_getElem? (i := 1471) (by decide +kernel)⟩
theorem lw_p97 : lw_okq (⟨"BellTreesModel", "writing", "(II)I"⟩, 53) := ⟨⟨by decide +kernel, by decide +kernel⟩, List.mem_of_getElem? (i := 933) (by decide +kernel), List.mem_of_getElem? (i := 1474) (by decide +kernel), List.mem_of_getElem? (i := 1475) (by decide +kernel)⟩
theorem lw_p98 : lw_okq (⟨"BellTreesModel", "plainWrites", "(II)I"⟩, 53) := ⟨⟨by decide +kernel, by decide +kernel⟩, List.mem_of_getElem? (i := 933) (by decide +kernel), List.mem_of_getElem? (i := 1478) (by decide +kernel), List.mem_of_getElem? (i := 1479) (by decide +kernel)⟩
theorem lw_p99 : lw_okq (⟨"BellTreesModel", "whyNoPlace", "(II)I"⟩, 53) := ⟨⟨by decide +kernel, by decide +kernel⟩, List.mem_of_getElem? (i := 933) (by decide +kernel), List.mem_of_getElem? (i := 1498) (by decide +kernel), List.mem_of_getElem? (i := 1499) (by decide +kernel)⟩
def lw_privs_7 : List (MethodName × Nat) := [(⟨"BellTreesModel", "plainHears", "(II)I"⟩, 53), (⟨"BellTreesModel", "writing", "(II)I"⟩, 53), (⟨"BellTreesModel", "plainWrites", "(II)I"⟩, 53), (⟨"BellTreesModel", "whyNoPlace", "(II)I"⟩, 53)]
theorem lw_r7 : ∀ q ∈ lw_privs_7, lw_okq q := List.forall_mem_cons.mpr ⟨lw_p96, List.forall_mem_cons.mpr ⟨lw_p97, List.forall_mem_cons.mpr ⟨lw_p98, List.forall_mem_cons.mpr ⟨lw_p99, fun _ h => absurd h List.not_mem_nil⟩⟩⟩⟩
def lw_privs : List (MethodName × Nat) := lw_privs_1 ++ (lw_privs_2 ++ (lw_privs_3 ++ (lw_privs_4 ++ (lw_privs_5 ++ (lw_privs_6 ++ (lw_privs_7))))))
def lw_tbl : List Cond := k2_sels lw_privs ++ tables_1
theorem lw_privs_ok : ∀ q ∈ lw_privs, lw_okq q := by
  show ∀ q ∈ lw_privs_1 ++ (lw_privs_2 ++ (lw_privs_3 ++ (lw_privs_4 ++ (lw_privs_5 ++ (lw_privs_6 ++ (lw_privs_7)))))), lw_okq q
  exact List.forall_mem_append.mpr ⟨lw_r1, List.forall_mem_append.mpr ⟨lw_r2, List.forall_mem_append.mpr ⟨lw_r3, List.forall_mem_append.mpr ⟨lw_r4, List.forall_mem_append.mpr ⟨lw_r5, List.forall_mem_append.mpr ⟨lw_r6, lw_r7⟩⟩⟩⟩⟩⟩
end
section
/-! printed by wip/whole/gen.py: the classes, their fields, the kinds of cells, the references, the static arrays -/
def bt_nth {α : Type} (d : α) : List α → Nat → α
  | [], _ => d
  | a :: _, 0 => a
  | _ :: r, n + 1 => bt_nth d r n
def bt_R0 : String := "BellTrees"
def bt_T0 : u_T := fun k => bt_nth ("", "", "", false) [("BellTrees", "forest", "LBellTrees$Forest;", true), ("BellTrees", "law", "LBellTrees$Law;", true), ("BellTrees", "sounds", "LBellTrees$Sounds;", true), ("BellTrees", "otherSounds", "LBellTrees$Sounds;", true), ("BellTrees", "walks", "LBellTrees$Walks;", true), ("BellTrees", "changes", "LBellTrees$Changes;", true), ("BellTrees", "image", "LBellTrees$Image;", true), ("BellTrees", "bodies", "LBellTrees$Bodies;", true), ("BellTrees", "shelves", "[LBellTrees$Shelf;", true)] k
def bt_ty0 : Nat → FieldType := fun k => bt_nth .int [(.object "BellTrees$Forest"), (.object "BellTrees$Law"), (.object "BellTrees$Sounds"), (.object "BellTrees$Sounds"), (.object "BellTrees$Walks"), (.object "BellTrees$Changes"), (.object "BellTrees$Image"), (.object "BellTrees$Bodies"), (.array (.object "BellTrees$Shelf"))] k
theorem bt_nm0 : ∀ a, a < 9 → ∀ b, b < 9 → a ≠ b → (bt_T0 a).2.1 ≠ (bt_T0 b).2.1 := by decide +kernel
theorem bt_tyok0 : ∀ k, k < 9 → parseFieldDescriptor (bt_T0 k).2.2.1 = some (bt_ty0 k) := by decide +kernel
theorem bt_in0 : ∀ w ∈ u_ws bt_R0 bt_T0 9, w ∈ lw_tbl := by
  intro w hw
  obtain ⟨k, hk, rfl⟩ := List.mem_map.mp hw
  have hk := List.mem_range.mp hk
  have h : ∀ k, k < 9 → lw_tbl[bt_nth 0 [350, 352, 354, 356, 358, 360, 362, 364, 366] k]? = some (u_lay bt_R0 bt_T0 k) := by decide +kernel
  exact List.mem_of_getElem? (h k hk)
theorem bt_inst0 : Cond.instantiable bt_R0 9 ∈ lw_tbl := List.mem_of_getElem? (i := 116) (by decide +kernel)
def bt_R1 : String := "BellTrees$Forest"
def bt_T1 : u_T := fun k => bt_nth ("", "", "", false) [("BellTrees$Forest", "value", "[[I", true), ("BellTrees$Forest", "near", "[I", true), ("BellTrees$Forest", "far", "[I", true), ("BellTrees$Forest", "heard", "[I", true), ("BellTrees$Forest", "treesThere", "I", false), ("BellTrees$Forest", "pathsThere", "I", false), ("BellTrees$Forest", "walksMade", "I", false)] k
def bt_ty1 : Nat → FieldType := fun k => bt_nth .int [(.array (.array .int)), (.array .int), (.array .int), (.array .int), .int, .int, .int] k
theorem bt_nm1 : ∀ a, a < 7 → ∀ b, b < 7 → a ≠ b → (bt_T1 a).2.1 ≠ (bt_T1 b).2.1 := by decide +kernel
theorem bt_tyok1 : ∀ k, k < 7 → parseFieldDescriptor (bt_T1 k).2.2.1 = some (bt_ty1 k) := by decide +kernel
theorem bt_in1 : ∀ w ∈ u_ws bt_R1 bt_T1 7, w ∈ lw_tbl := by
  intro w hw
  obtain ⟨k, hk, rfl⟩ := List.mem_map.mp hw
  have hk := List.mem_range.mp hk
  have h : ∀ k, k < 7 → lw_tbl[bt_nth 0 [143, 145, 147, 149, 151, 153, 155] k]? = some (u_lay bt_R1 bt_T1 k) := by decide +kernel
  exact List.mem_of_getElem? (h k hk)
theorem bt_inst1 : Cond.instantiable bt_R1 7 ∈ lw_tbl := List.mem_of_getElem? (i := 124) (by decide +kernel)
def bt_R2 : String := "BellTrees$Law"
def bt_T2 : u_T := fun k => bt_nth ("", "", "", false) [("BellTrees$Law", "tape", "[I", true), ("BellTrees$Law", "draft", "[I", true), ("BellTrees$Law", "signs", "[I", true), ("BellTrees$Law", "stack", "[I", true), ("BellTrees$Law", "fed", "I", false), ("BellTrees$Law", "at", "I", false), ("BellTrees$Law", "drafted", "I", false), ("BellTrees$Law", "length", "I", false), ("BellTrees$Law", "top", "I", false), ("BellTrees$Law", "loud", "I", false), ("BellTrees$Law", "far", "I", false), ("BellTrees$Law", "wind", "I", false), ("BellTrees$Law", "pitch", "I", false), ("BellTrees$Law", "snow", "I", false), ("BellTrees$Law", "sort", "I", false)] k
def bt_ty2 : Nat → FieldType := fun k => bt_nth .int [(.array .int), (.array .int), (.array .int), (.array .int), .int, .int, .int, .int, .int, .int, .int, .int, .int, .int, .int] k
theorem bt_nm2 : ∀ a, a < 15 → ∀ b, b < 15 → a ≠ b → (bt_T2 a).2.1 ≠ (bt_T2 b).2.1 := by decide +kernel
theorem bt_tyok2 : ∀ k, k < 15 → parseFieldDescriptor (bt_T2 k).2.2.1 = some (bt_ty2 k) := by decide +kernel
theorem bt_in2 : ∀ w ∈ u_ws bt_R2 bt_T2 15, w ∈ lw_tbl := by
  intro w hw
  obtain ⟨k, hk, rfl⟩ := List.mem_map.mp hw
  have hk := List.mem_range.mp hk
  have h : ∀ k, k < 15 → lw_tbl[bt_nth 0 [180, 182, 184, 186, 188, 190, 192, 194, 196, 198, 200, 202, 204, 206, 208] k]? = some (u_lay bt_R2 bt_T2 k) := by decide +kernel
  exact List.mem_of_getElem? (h k hk)
theorem bt_inst2 : Cond.instantiable bt_R2 15 ∈ lw_tbl := List.mem_of_getElem? (i := 160) (by decide +kernel)
def bt_R3 : String := "BellTrees$Sounds"
def bt_T3 : u_T := fun k => bt_nth ("", "", "", false) [("BellTrees$Sounds", "forest", "LBellTrees$Forest;", true), ("BellTrees$Sounds", "law", "LBellTrees$Law;", true), ("BellTrees$Sounds", "sound", "[[I", true), ("BellTrees$Sounds", "heardIn", "[I", true)] k
def bt_ty3 : Nat → FieldType := fun k => bt_nth .int [(.object "BellTrees$Forest"), (.object "BellTrees$Law"), (.array (.array .int)), (.array .int)] k
theorem bt_nm3 : ∀ a, a < 4 → ∀ b, b < 4 → a ≠ b → (bt_T3 a).2.1 ≠ (bt_T3 b).2.1 := by decide +kernel
theorem bt_tyok3 : ∀ k, k < 4 → parseFieldDescriptor (bt_T3 k).2.2.1 = some (bt_ty3 k) := by decide +kernel
theorem bt_in3 : ∀ w ∈ u_ws bt_R3 bt_T3 4, w ∈ lw_tbl := by
  intro w hw
  obtain ⟨k, hk, rfl⟩ := List.mem_map.mp hw
  have hk := List.mem_range.mp hk
  have h : ∀ k, k < 4 → lw_tbl[bt_nth 0 [222, 224, 226, 228] k]? = some (u_lay bt_R3 bt_T3 k) := by decide +kernel
  exact List.mem_of_getElem? (h k hk)
theorem bt_inst3 : Cond.instantiable bt_R3 4 ∈ lw_tbl := List.mem_of_getElem? (i := 212) (by decide +kernel)
def bt_R4 : String := "BellTrees$Walks"
def bt_T4 : u_T := fun k => bt_nth ("", "", "", false) [("BellTrees$Walks", "forest", "LBellTrees$Forest;", true), ("BellTrees$Walks", "onward", "[[I", true)] k
def bt_ty4 : Nat → FieldType := fun k => bt_nth .int [(.object "BellTrees$Forest"), (.array (.array .int))] k
theorem bt_nm4 : ∀ a, a < 2 → ∀ b, b < 2 → a ≠ b → (bt_T4 a).2.1 ≠ (bt_T4 b).2.1 := by decide +kernel
theorem bt_tyok4 : ∀ k, k < 2 → parseFieldDescriptor (bt_T4 k).2.2.1 = some (bt_ty4 k) := by decide +kernel
theorem bt_in4 : ∀ w ∈ u_ws bt_R4 bt_T4 2, w ∈ lw_tbl := by
  intro w hw
  obtain ⟨k, hk, rfl⟩ := List.mem_map.mp hw
  have hk := List.mem_range.mp hk
  have h : ∀ k, k < 2 → lw_tbl[bt_nth 0 [240, 242] k]? = some (u_lay bt_R4 bt_T4 k) := by decide +kernel
  exact List.mem_of_getElem? (h k hk)
theorem bt_inst4 : Cond.instantiable bt_R4 2 ∈ lw_tbl := List.mem_of_getElem? (i := 232) (by decide +kernel)
def bt_R5 : String := "BellTrees$Changes"
def bt_T5 : u_T := fun k => bt_nth ("", "", "", false) [("BellTrees$Changes", "what", "[I", true), ("BellTrees$Changes", "number", "[I", true), ("BellTrees$Changes", "was", "[I", true), ("BellTrees$Changes", "became", "[I", true), ("BellTrees$Changes", "done", "I", false), ("BellTrees$Changes", "kept", "I", false)] k
def bt_ty5 : Nat → FieldType := fun k => bt_nth .int [(.array .int), (.array .int), (.array .int), (.array .int), .int, .int] k
theorem bt_nm5 : ∀ a, a < 6 → ∀ b, b < 6 → a ≠ b → (bt_T5 a).2.1 ≠ (bt_T5 b).2.1 := by decide +kernel
theorem bt_tyok5 : ∀ k, k < 6 → parseFieldDescriptor (bt_T5 k).2.2.1 = some (bt_ty5 k) := by decide +kernel
theorem bt_in5 : ∀ w ∈ u_ws bt_R5 bt_T5 6, w ∈ lw_tbl := by
  intro w hw
  obtain ⟨k, hk, rfl⟩ := List.mem_map.mp hw
  have hk := List.mem_range.mp hk
  have h : ∀ k, k < 6 → lw_tbl[bt_nth 0 [257, 259, 261, 263, 265, 267] k]? = some (u_lay bt_R5 bt_T5 k) := by decide +kernel
  exact List.mem_of_getElem? (h k hk)
theorem bt_inst5 : Cond.instantiable bt_R5 6 ∈ lw_tbl := List.mem_of_getElem? (i := 246) (by decide +kernel)
def bt_R6 : String := "BellTrees$Image"
def bt_T6 : u_T := fun k => bt_nth ("", "", "", false) [("BellTrees$Image", "pitch", "[I", true), ("BellTrees$Image", "hangs", "[I", true), ("BellTrees$Image", "there", "[I", true), ("BellTrees$Image", "heard", "[I", true), ("BellTrees$Image", "stands", "Z", false), ("BellTrees$Image", "treesKnown", "I", false), ("BellTrees$Image", "walksKnown", "I", false)] k
def bt_ty6 : Nat → FieldType := fun k => bt_nth .int [(.array .int), (.array .int), (.array .int), (.array .int), .boolean, .int, .int] k
theorem bt_nm6 : ∀ a, a < 7 → ∀ b, b < 7 → a ≠ b → (bt_T6 a).2.1 ≠ (bt_T6 b).2.1 := by decide +kernel
theorem bt_tyok6 : ∀ k, k < 7 → parseFieldDescriptor (bt_T6 k).2.2.1 = some (bt_ty6 k) := by decide +kernel
theorem bt_in6 : ∀ w ∈ u_ws bt_R6 bt_T6 7, w ∈ lw_tbl := by
  intro w hw
  obtain ⟨k, hk, rfl⟩ := List.mem_map.mp hw
  have hk := List.mem_range.mp hk
  have h : ∀ k, k < 7 → lw_tbl[bt_nth 0 [283, 285, 287, 289, 291, 293, 295] k]? = some (u_lay bt_R6 bt_T6 k) := by decide +kernel
  exact List.mem_of_getElem? (h k hk)
theorem bt_inst6 : Cond.instantiable bt_R6 7 ∈ lw_tbl := List.mem_of_getElem? (i := 271) (by decide +kernel)
def bt_R7 : String := "BellTrees$Bodies"
def bt_T7 : u_T := fun k => bt_nth ("", "", "", false) [("BellTrees$Bodies", "kinds", "[I", true), ("BellTrees$Bodies", "ranFirst", "[I", true), ("BellTrees$Bodies", "bodiesKept", "I", false), ("BellTrees$Bodies", "ran", "I", false), ("BellTrees$Bodies", "actor", "I", false)] k
def bt_ty7 : Nat → FieldType := fun k => bt_nth .int [(.array .int), (.array .int), .int, .int, .int] k
theorem bt_nm7 : ∀ a, a < 5 → ∀ b, b < 5 → a ≠ b → (bt_T7 a).2.1 ≠ (bt_T7 b).2.1 := by decide +kernel
theorem bt_tyok7 : ∀ k, k < 5 → parseFieldDescriptor (bt_T7 k).2.2.1 = some (bt_ty7 k) := by decide +kernel
theorem bt_in7 : ∀ w ∈ u_ws bt_R7 bt_T7 5, w ∈ lw_tbl := by
  intro w hw
  obtain ⟨k, hk, rfl⟩ := List.mem_map.mp hw
  have hk := List.mem_range.mp hk
  have h : ∀ k, k < 5 → lw_tbl[bt_nth 0 [309, 311, 313, 315, 317] k]? = some (u_lay bt_R7 bt_T7 k) := by decide +kernel
  exact List.mem_of_getElem? (h k hk)
theorem bt_inst7 : Cond.instantiable bt_R7 5 ∈ lw_tbl := List.mem_of_getElem? (i := 299) (by decide +kernel)
def bt_R8 : String := "BellTrees$Shelf"
def bt_T8 : u_T := fun k => bt_nth ("", "", "", false) [("BellTrees$Shelf", "elements", "[J", true), ("BellTrees$Shelf", "heldBody", "I", false), ("BellTrees$Shelf", "rowSort", "I", false), ("BellTrees$Shelf", "size", "I", false)] k
def bt_ty8 : Nat → FieldType := fun k => bt_nth .int [(.array .long), .int, .int, .int] k
theorem bt_nm8 : ∀ a, a < 4 → ∀ b, b < 4 → a ≠ b → (bt_T8 a).2.1 ≠ (bt_T8 b).2.1 := by decide +kernel
theorem bt_tyok8 : ∀ k, k < 4 → parseFieldDescriptor (bt_T8 k).2.2.1 = some (bt_ty8 k) := by decide +kernel
theorem bt_in8 : ∀ w ∈ u_ws bt_R8 bt_T8 4, w ∈ lw_tbl := by
  intro w hw
  obtain ⟨k, hk, rfl⟩ := List.mem_map.mp hw
  have hk := List.mem_range.mp hk
  have h : ∀ k, k < 4 → lw_tbl[bt_nth 0 [331, 333, 335, 337] k]? = some (u_lay bt_R8 bt_T8 k) := by decide +kernel
  exact List.mem_of_getElem? (h k hk)
theorem bt_inst8 : Cond.instantiable bt_R8 4 ∈ lw_tbl := List.mem_of_getElem? (i := 322) (by decide +kernel)
def bt_R9 : String := "BellTreesModel"
def bt_T9 : u_T := fun k => bt_nth ("", "", "", false) [("BellTreesModel", "code", "I", false), ("BellTreesModel", "trees", "I", false), ("BellTreesModel", "pitch", "[I", true), ("BellTreesModel", "loud", "[I", true), ("BellTreesModel", "hangs", "[I", true), ("BellTreesModel", "there", "[I", true), ("BellTreesModel", "beside", "[I", true), ("BellTreesModel", "heard", "[I", true), ("BellTreesModel", "paths", "I", false), ("BellTreesModel", "walks", "I", false), ("BellTreesModel", "wind", "[I", true), ("BellTreesModel", "height", "[I", true), ("BellTreesModel", "snow", "I", false), ("BellTreesModel", "hut", "I", false), ("BellTreesModel", "doneMany", "I", false), ("BellTreesModel", "undoneMany", "I", false), ("BellTreesModel", "changeOf", "[I", true), ("BellTreesModel", "changeAt", "[I", true), ("BellTreesModel", "before", "[I", true), ("BellTreesModel", "behind", "[I", true), ("BellTreesModel", "far", "[I", true), ("BellTreesModel", "tape", "[B", true), ("BellTreesModel", "taped", "I", false), ("BellTreesModel", "here", "I", false), ("BellTreesModel", "fault", "I", false), ("BellTreesModel", "open", "I", false), ("BellTreesModel", "laid", "I", false), ("BellTreesModel", "act", "[B", true), ("BellTreesModel", "with", "[I", true), ("BellTreesModel", "lineMany", "[I", true), ("BellTreesModel", "testEnd", "[S", true), ("BellTreesModel", "lineEnd", "[S", true), ("BellTreesModel", "facts", "[I", true), ("BellTreesModel", "pile", "[I", true), ("BellTreesModel", "hasLaw", "Z", false), ("BellTreesModel", "onward", "[J", true), ("BellTreesModel", "upTo", "[J", true), ("BellTreesModel", "least1", "[I", true), ("BellTreesModel", "drawn", "I", false), ("BellTreesModel", "keptTrees", "I", false), ("BellTreesModel", "keptWalks", "I", false), ("BellTreesModel", "keptPitch", "[I", true), ("BellTreesModel", "keptHangs", "[I", true), ("BellTreesModel", "keptThere", "[I", true), ("BellTreesModel", "keptHeard", "[I", true), ("BellTreesModel", "bodies", "I", false), ("BellTreesModel", "kind", "[I", true), ("BellTreesModel", "traces", "I", false), ("BellTreesModel", "traced", "[I", true), ("BellTreesModel", "holds", "[I", true), ("BellTreesModel", "size", "[I", true), ("BellTreesModel", "elements", "[J", true), ("BellTreesModel", "shifted", "[J", true)] k
def bt_ty9 : Nat → FieldType := fun k => bt_nth .int [.int, .int, (.array .int), (.array .int), (.array .int), (.array .int), (.array .int), (.array .int), .int, .int, (.array .int), (.array .int), .int, .int, .int, .int, (.array .int), (.array .int), (.array .int), (.array .int), (.array .int), (.array .byte), .int, .int, .int, .int, .int, (.array .byte), (.array .int), (.array .int), (.array .short), (.array .short), (.array .int), (.array .int), .boolean, (.array .long), (.array .long), (.array .int), .int, .int, .int, (.array .int), (.array .int), (.array .int), (.array .int), .int, (.array .int), .int, (.array .int), (.array .int), (.array .int), (.array .long), (.array .long)] k
theorem bt_nm9 : ∀ a, a < 53 → ∀ b, b < 53 → a ≠ b → (bt_T9 a).2.1 ≠ (bt_T9 b).2.1 := by decide +kernel
theorem bt_tyok9 : ∀ k, k < 53 → parseFieldDescriptor (bt_T9 k).2.2.1 = some (bt_ty9 k) := by decide +kernel
theorem bt_in9 : ∀ w ∈ u_ws bt_R9 bt_T9 53, w ∈ lw_tbl := by
  intro w hw
  obtain ⟨k, hk, rfl⟩ := List.mem_map.mp hw
  have hk := List.mem_range.mp hk
  have h : ∀ k, k < 53 → lw_tbl[bt_nth 0 [1090, 1092, 1094, 1096, 1098, 1100, 1102, 1104, 1106, 1108, 1110, 1112, 1114, 1116, 1118, 1120, 1122, 1124, 1126, 1128, 1130, 1132, 1134, 1136, 1138, 1140, 1142, 1144, 1146, 1148, 1150, 1152, 1154, 1156, 1158, 1160, 1162, 1164, 1166, 1168, 1170, 1172, 1174, 1176, 1178, 1180, 1182, 1184, 1186, 1188, 1190, 1192, 1194] k]? = some (u_lay bt_R9 bt_T9 k) := by decide +kernel
  exact List.mem_of_getElem? (h k hk)
theorem bt_inst9 : Cond.instantiable bt_R9 53 ∈ lw_tbl := List.mem_of_getElem? (i := 1033) (by decide +kernel)
abbrev bt_cl : List vw_C := [(bt_R0, bt_T0, 9), (bt_R1, bt_T1, 7), (bt_R2, bt_T2, 15), (bt_R3, bt_T3, 4), (bt_R4, bt_T4, 2), (bt_R5, bt_T5, 6), (bt_R6, bt_T6, 7), (bt_R7, bt_T7, 5), (bt_R8, bt_T8, 4), (bt_R9, bt_T9, 53)]
/-- what a field is: 0 int, 1 boolean, 2 a reference -/
def bt_fk (c j : Nat) : Nat := bt_nth 9 (bt_nth [] [[2, 2, 2, 2, 2, 2, 2, 2, 2], [2, 2, 2, 2, 0, 0, 0], [2, 2, 2, 2, 0, 0, 0, 0, 0, 0, 0, 0, 0, 0, 0], [2, 2, 2, 2], [2, 2], [2, 2, 2, 2, 0, 0], [2, 2, 2, 2, 1, 0, 0], [2, 2, 0, 0, 0], [2, 0, 0, 0], [0, 0, 2, 2, 2, 2, 2, 2, 0, 0, 2, 2, 0, 0, 0, 0, 2, 2, 2, 2, 2, 2, 0, 0, 0, 0, 0, 2, 2, 2, 2, 2, 2, 2, 1, 2, 2, 2, 0, 0, 0, 2, 2, 2, 2, 0, 2, 0, 2, 2, 2, 2, 2]] c) j
def bt_nf (c : Nat) : Nat := bt_nth 0 [9, 7, 15, 4, 2, 6, 7, 5, 4, 53] c
-- kinds: 0 BellTrees, 1 Forest, 2 value, 3 value rows, 4 near, 5 far, 6 heard, 7 Law, 8 tape, 9 draft, 10 signs, 11 stack, 12 Sounds, 13 sound, 14 sound rows, 15 heardIn, 16 Walks, 17 onward, 18 onward rows, 19 Changes, 20 what, 21 number, 22 was, 23 became, 24 Image, 25 i.pitch, 26 i.hangs, 27 i.there, 28 i.heard, 29 Bodies, 30 kinds, 31 ranFirst, 32 shelves, 33 Shelf, 34 elements, 35 Model, 36 m.pitch, 37 m.loud, 38 m.hangs, 39 m.there, 40 m.beside, 41 m.heard, 42 m.wind, 43 m.height, 44 m.changeOf, 45 m.changeAt, 46 m.before, 47 m.behind, 48 m.far, 49 m.tape, 50 m.act, 51 m.with, 52 m.lineMany, 53 m.testEnd, 54 m.lineEnd, 55 m.facts, 56 m.pile, 57 m.onward, 58 m.upTo, 59 m.least1, 60 m.keptPitch, 61 m.keptHangs, 62 m.keptThere, 63 m.keptHeard, 64 m.kind, 65 m.traced, 66 m.holds, 67 m.size, 68 m.elements, 69 m.shifted
/-- the shape of a kind: 0 an object of the c-th of bt_cl; 1 ints, 2 longs, 3 bytes, 4 shorts, 5 rows of ints, 6 Shelf; how long -/
def bt_shp (k : Nat) : Nat × Nat := bt_nth (9, 0) [(0, 0), (0, 1), (5, 8), (1, 24), (1, 8), (1, 8), (1, 8), (0, 2), (1, 120), (1, 128), (1, 128), (1, 128), (0, 3), (5, 8), (1, 24), (1, 10), (0, 4), (5, 24), (1, 8), (0, 5), (1, 40), (1, 40), (1, 40), (1, 40), (0, 6), (1, 8), (1, 8), (1, 8), (1, 8), (0, 7), (1, 50), (1, 24), (6, 6), (0, 8), (2, 60), (0, 9), (1, 8), (1, 8), (1, 8), (1, 8), (1, 8), (1, 8), (1, 24), (1, 4), (1, 40), (1, 40), (1, 40), (1, 40), (1, 8), (3, 120), (3, 260), (1, 260), (1, 2), (4, 122), (4, 122), (1, 6), (1, 130), (2, 200), (2, 192), (1, 192), (1, 8), (1, 8), (1, 8), (1, 8), (1, 50), (1, 24), (1, 6), (1, 6), (2, 360), (2, 60)] k
def bt_cntL : List Nat := [1, 1, 1, 8, 1, 1, 1, 1, 1, 1, 1, 1, 2, 2, 16, 2, 1, 1, 24, 1, 1, 1, 1, 1, 1, 1, 1, 1, 1, 1, 1, 1, 1, 6, 6, 1, 1, 1, 1, 1, 1, 1, 1, 1, 1, 1, 1, 1, 1, 1, 1, 1, 1, 1, 1, 1, 1, 1, 1, 1, 1, 1, 1, 1, 1, 1, 1, 1, 1, 1]
/-- how many cells of a kind there are (100 on: the static arrays) -/
def bt_cnt (k : Nat) : Nat := bt_nth 0 bt_cntL k
def bt_NK : Nat := 70
def bt_bas (k : Nat) : Nat := bt_nth 0 [0, 1, 2, 3, 11, 12, 13, 14, 15, 16, 17, 18, 19, 21, 23, 39, 41, 42, 43, 67, 68, 69, 70, 71, 72, 73, 74, 75, 76, 77, 78, 79, 80, 81, 87, 93, 94, 95, 96, 97, 98, 99, 100, 101, 102, 103, 104, 105, 106, 107, 108, 109, 110, 111, 112, 113, 114, 115, 116, 117, 118, 119, 120, 121, 122, 123, 124, 125, 126, 127] k
def bt_NMS : List (Nat × Nat) := (List.range bt_NK).flatMap (fun k => (List.range (bt_cnt k)).map (fun i => (k, i)))
def bt_RF (k i j : Nat) : Option (Nat × Nat) := bt_nth (fun _ _ => none) [fun i j => bt_nth none [some (1, 0), some (7, 0), some (12, 0), some (12, 1), some (16, 0), some (19, 0), some (24, 0), some (29, 0), some (32, 0)] j, fun i j => bt_nth none [some (2, 0), some (4, 0), some (5, 0), some (6, 0), none, none, none] j, fun _ j => some (3, j), fun _ _ => none, fun _ _ => none, fun _ _ => none, fun _ _ => none, fun i j => bt_nth none [some (8, 0), some (9, 0), some (10, 0), some (11, 0), none, none, none, none, none, none, none, none, none, none, none] j, fun _ _ => none, fun _ _ => none, fun _ _ => none, fun _ _ => none, fun i j => bt_nth none [some (1, 0), some (7, 0), some (13, i), some (15, i)] j, fun i j => some (14, 8 * i + j), fun _ _ => none, fun _ _ => none, fun i j => bt_nth none [some (1, 0), some (17, 0)] j, fun _ j => some (18, j), fun _ _ => none, fun i j => bt_nth none [some (20, 0), some (21, 0), some (22, 0), some (23, 0), none, none] j, fun _ _ => none, fun _ _ => none, fun _ _ => none, fun _ _ => none, fun i j => bt_nth none [some (25, 0), some (26, 0), some (27, 0), some (28, 0), none, none, none] j, fun _ _ => none, fun _ _ => none, fun _ _ => none, fun _ _ => none, fun i j => bt_nth none [some (30, 0), some (31, 0), none, none, none] j, fun _ _ => none, fun _ _ => none, fun _ j => some (33, j), fun i j => bt_nth none [some (34, i), none, none, none] j, fun _ _ => none, fun i j => bt_nth none [none, none, some (36, 0), some (37, 0), some (38, 0), some (39, 0), some (40, 0), some (41, 0), none, none, some (42, 0), some (43, 0), none, none, none, none, some (44, 0), some (45, 0), some (46, 0), some (47, 0), some (48, 0), some (49, 0), none, none, none, none, none, some (50, 0), some (51, 0), some (52, 0), some (53, 0), some (54, 0), some (55, 0), some (56, 0), none, some (57, 0), some (58, 0), some (59, 0), none, none, none, some (60, 0), some (61, 0), some (62, 0), some (63, 0), none, some (64, 0), none, some (65, 0), some (66, 0), some (67, 0), some (68, 0), some (69, 0)] j, fun _ _ => none, fun _ _ => none, fun _ _ => none, fun _ _ => none, fun _ _ => none, fun _ _ => none, fun _ _ => none, fun _ _ => none, fun _ _ => none, fun _ _ => none, fun _ _ => none, fun _ _ => none, fun _ _ => none, fun _ _ => none, fun _ _ => none, fun _ _ => none, fun _ _ => none, fun _ _ => none, fun _ _ => none, fun _ _ => none, fun _ _ => none, fun _ _ => none, fun _ _ => none, fun _ _ => none, fun _ _ => none, fun _ _ => none, fun _ _ => none, fun _ _ => none, fun _ _ => none, fun _ _ => none, fun _ _ => none, fun _ _ => none, fun _ _ => none, fun _ _ => none] k i j
def bt_SC (j : Nat) : String × String := bt_nth ("", "") [("BellTrees$Forest", "MOST"), ("BellTrees$Bodies", "ABOVE"), ("BellTrees$Bodies", "OWN")] j
def bt_SN (j : Nat) : Nat := bt_nth 0 [8, 8, 32] j
def bt_SV (j i : Nat) : Int32 := bt_nth 0 (bt_nth [] [[9, 9, 9, 1, 9, 9, 9, 7], [-1, 0, 0, 2, 1, 3, 0, 6], [1, 10, 11, 2, 20, 0, 0, 0, 0, 30, 0, 0, 0, 41, 40, 0, 0, 0, 0, 50, 0, 0, 60, 61, 70, 0, 0, 0, 81, 80, 0, 0]] j) i
theorem bt_pos : ∀ k, k < 70 → ∀ i, i < bt_cnt k → bt_NMS[bt_bas k + i]? = some (k, i) := by decide +kernel
theorem bt_cnt_big (k : Nat) (h : 70 ≤ k) : bt_cnt k = 0 := by
  have e : k = (k - 70) + 70 := by omega
  rw [e]; rfl
theorem bt_mem_ok : ∀ q ∈ bt_NMS, q.1 < 70 ∧ q.2 < bt_cnt q.1 := by decide +kernel
end
section
/-! THE ABSTRACT MACHINE: values, states, the world that a state stands for, one instruction as a predicate -/
abbrev bt_MI : Type := MethodName × ByteArray × Nat × Option FieldType
/-- an instruction, its length; two numbers (a class and a field; a target); its constant; a switch's targets; the called method -/
abbrev bt_E : Type := Instr × Nat × (Nat × Nat) × (Int32 × Int64) × List (Int32 × Nat) × bt_MI
abbrev av_T : Type := Int32 ⊕ (Int64 ⊕ Option (Nat × Nat))
abbrev vi (x : Int32) : av_T := .inl x
abbrev vl (x : Int64) : av_T := .inr (.inl x)
abbrev vr (k i : Nat) : av_T := .inr (.inr (some (k, i)))
abbrev vn : av_T := .inr (.inr none)
abbrev m_I : Type := Nat → Nat → Nat → Int32
abbrev m_L : Type := Nat → Nat → Nat → Int64
abbrev st_T : Type := m_I × m_L
abbrev tn (x : Int32) : Nat := x.toNatClampNeg
def ui (I : m_I) (k i j : Nat) (v : Int32) : m_I := fun a b c => if a = k then (if b = i then (if c = j then v else I a b c) else I a b c) else I a b c
def ul (I : m_L) (k i j : Nat) (v : Int64) : m_L := fun a b c => if a = k then (if b = i then (if c = j then v else I a b c) else I a b c) else I a b c
/-- a row copied -/
def uc (I : m_I) (k i : Nat) (f : Nat → Int32) : m_I := fun a b c => if a = k then (if b = i then f c else I a b c) else I a b c
def ud (I : m_L) (k i : Nat) (f : Nat → Int64) : m_L := fun a b c => if a = k then (if b = i then f c else I a b c) else I a b c
abbrev bt_PT : Type := Launch × va_G × (Nat → ClassId) × (Nat → Nat → Nat) × Nat × (Nat → Nat) × (Nat → Int32) × Nat
def bt_l (P : bt_PT) : Launch := P.1
def bt_D (P : bt_PT) : va_G := P.2.1
def bt_dA (P : bt_PT) : Nat → ClassId := P.2.2.1
def bt_ad (P : bt_PT) : Nat → Nat → Nat := P.2.2.2.1
def bt_B (P : bt_PT) : Nat := P.2.2.2.2.1
def bt_stA (P : bt_PT) : Nat → Nat := P.2.2.2.2.2.1
def bt_xs (P : bt_PT) : Nat → Int32 := P.2.2.2.2.2.2.1
def bt_xn (P : bt_PT) : Nat := P.2.2.2.2.2.2.2
/-- static arrays and (the fourth) the law's script -/
def bt_sv (P : bt_PT) (j i : Nat) : Int32 := if j = 3 then bt_xs P i else bt_SV j i
def bt_sn (P : bt_PT) (j : Nat) : Nat := if j = 3 then bt_xn P else bt_SN j
def bt_A (P : bt_PT) : Nat → Prop := fun q => bt_B P ≤ q
/-- a name's address -/
def bt_adr (P : bt_PT) (q : Nat × Nat) : Nat := if 100 ≤ q.1 then bt_stA P (q.1 - 100) else bt_ad P q.1 q.2
def bt_va (P : bt_PT) : av_T → Value
  | .inl x => .int x
  | .inr (.inl x) => .long x
  | .inr (.inr none) => .null
  | .inr (.inr (some q)) => .ref (bt_adr P q)
def bt_fv (P : bt_PT) (I : m_I) (c k i j : Nat) : Value := if bt_fk c j = 2 then va_rf ((bt_RF k i j).map (bt_adr P)) else .int (I k i j)
def bt_ent (P : bt_PT) (σ : st_T) (q : Nat × Nat) : va_E :=
  match bt_shp q.1 with
  | (0, c) => .inr (c, (List.range (bt_nf c)).map (bt_fv P σ.1 c q.1 q.2))
  | (1, n) => .inl (bt_dA P 0, n, .inl (σ.1 q.1 q.2))
  | (2, n) => .inl (bt_dA P 1, n, .inr (.inl (σ.2 q.1 q.2)))
  | (3, n) => .inl (bt_dA P 2, n, .inl (σ.1 q.1 q.2))
  | (4, n) => .inl (bt_dA P 3, n, .inl (σ.1 q.1 q.2))
  | (5, n) => .inl (bt_dA P 4, n, .inr (.inr (.inr (.inr (fun j => (bt_RF q.1 q.2 j).map (bt_adr P))))))
  | (_, n) => .inl (bt_dA P 5, n, .inr (.inr (.inr (.inr (fun j => (bt_RF q.1 q.2 j).map (bt_adr P))))))
def bt_wl (P : bt_PT) (σ : st_T) : va_W := bt_NMS.map (fun q => (bt_ad P q.1 q.2, bt_ent P σ q))
def bt_tys (P : bt_PT) : List (ClassId × FieldType) := [(bt_dA P 0, .int), (bt_dA P 1, .long), (bt_dA P 2, .byte), (bt_dA P 3, .short), (bt_dA P 4, .array .int), (bt_dA P 5, .object "BellTrees$Shelf")]
/-- the static arrays at a state and a heap -/
def bt_SF (P : bt_PT) (U : State) (H : Heap) : Prop := (∀ j, j < 3 → va_Z (bt_SC j).1 (bt_SC j).2 "[I" (.ref (bt_stA P j)) (bt_A P) U H) ∧ ∀ j, j < 4 → va_T .int (bt_stA P j) (bt_sn P j) (fun i => .int (bt_sv P j i)) (bt_A P) U H
def bt_okP (P : bt_PT) : Prop := (∀ a ∈ bt_NMS, ∀ b ∈ bt_NMS, bt_ad P a.1 a.2 = bt_ad P b.1 b.2 → a = b) ∧ ∀ a ∈ bt_NMS, bt_B P ≤ bt_ad P a.1 a.2
/-- a name of a cell that is there -/
def bt_ok (q : Nat × Nat) : Prop := q.2 < bt_cnt q.1 ∨ (100 ≤ q.1 ∧ q.1 < 104)
def bt_okv (v : av_T) : Prop := match v with
  | .inr (.inr (some q)) => bt_ok q
  | _ => True
/-- the continuations of calls, by what is answered -/
abbrev kI (f : Int32 → m_I → m_L → Prop) : Option av_T → st_T → Prop := fun r σ => match r with
  | some (.inl x) => f x σ.1 σ.2
  | _ => False
abbrev kL (f : Int64 → m_I → m_L → Prop) : Option av_T → st_T → Prop := fun r σ => match r with
  | some (.inr (.inl x)) => f x σ.1 σ.2
  | _ => False
abbrev kR (f : Option (Nat × Nat) → m_I → m_L → Prop) : Option av_T → st_T → Prop := fun r σ => match r with
  | some (.inr (.inr x)) => f x σ.1 σ.2
  | _ => False
abbrev kV (f : m_I → m_L → Prop) : Option av_T → st_T → Prop := fun r σ => match r with
  | none => f σ.1 σ.2
  | _ => False
abbrev bt_WT : Type := bt_MI → List av_T → st_T → (Option av_T → st_T → Prop) → Prop
abbrev bt_NT : Type := Nat → List (Option av_T) → List av_T → st_T → Prop
/-- loads and stores of locals -/
def bt_lg (L : List (Option av_T)) (i : Nat) : Option av_T := bt_nth none L i
def bt_isl : Option av_T → Bool
  | some (.inr (.inl _)) => true
  | _ => false
def bt_set : List (Option av_T) → Nat → Option av_T → List (Option av_T)
  | [], _, _ => []
  | _ :: r, 0, v => v :: r
  | a :: r, n + 1, v => a :: bt_set r n v
/-- a store at i may not cut a long that stands at i - 1 -/
def bt_cut (L : List (Option av_T)) (i : Nat) : Bool := match i with
  | 0 => false
  | j + 1 => bt_isl (bt_nth none L j)
def bt_li (L : List (Option av_T)) (i : Nat) (k : Int32 → Prop) : Prop := match bt_lg L i with
  | some (.inl x) => k x
  | _ => False
def bt_ll (L : List (Option av_T)) (i : Nat) (k : Int64 → Prop) : Prop := match bt_lg L i with
  | some (.inr (.inl x)) => k x
  | _ => False
def bt_la (L : List (Option av_T)) (i : Nat) (k : Option (Nat × Nat) → Prop) : Prop := match bt_lg L i with
  | some (.inr (.inr x)) => k x
  | _ => False
def bt_if (b : Bool) (p : Prop) : Prop := match b with
  | true => p
  | false => False
def bt_ife (b : Bool) (p q : Prop) : Prop := match b with
  | true => p
  | false => q
def bt_si (L : List (Option av_T)) (i : Nat) (S : List av_T) (k : List (Option av_T) → List av_T → Prop) : Prop := match S with
  | .inl x :: r => bt_if (!bt_cut L i) (k (bt_set L i (some (.inl x))) r)
  | _ => False
def bt_sa (L : List (Option av_T)) (i : Nat) (S : List av_T) (k : List (Option av_T) → List av_T → Prop) : Prop := match S with
  | .inr (.inr x) :: r => bt_if (!bt_cut L i) (k (bt_set L i (some (.inr (.inr x)))) r)
  | _ => False
def bt_sl (L : List (Option av_T)) (i : Nat) (S : List av_T) (k : List (Option av_T) → List av_T → Prop) : Prop := match S with
  | .inr (.inl x) :: r => bt_if (!bt_cut L i) (k (bt_set (bt_set L i (some (.inr (.inl x)))) (i + 1) none) r)
  | _ => False
def bt_u1 (S : List av_T) (k : Int32 → List av_T → Prop) : Prop := match S with
  | .inl x :: r => k x r
  | _ => False
def bt_uL (S : List av_T) (k : Int64 → List av_T → Prop) : Prop := match S with
  | .inr (.inl x) :: r => k x r
  | _ => False
def bt_uA (S : List av_T) (k : Option (Nat × Nat) → List av_T → Prop) : Prop := match S with
  | .inr (.inr x) :: r => k x r
  | _ => False
/-- x below y -/
def bt_u2 (S : List av_T) (k : Int32 → Int32 → List av_T → Prop) : Prop := match S with
  | .inl y :: .inl x :: r => k x y r
  | _ => False
def bt_uLL (S : List av_T) (k : Int64 → Int64 → List av_T → Prop) : Prop := match S with
  | .inr (.inl y) :: .inr (.inl x) :: r => k x y r
  | _ => False
def bt_uLI (S : List av_T) (k : Int64 → Int32 → List av_T → Prop) : Prop := match S with
  | .inl y :: .inr (.inl x) :: r => k x y r
  | _ => False
/-- an object (never null here) -/
def bt_uO (S : List av_T) (k : Nat → Nat → List av_T → Prop) : Prop := match S with
  | .inr (.inr (some q)) :: r => k q.1 q.2 r
  | _ => False
def bt_uAr (S : List av_T) (k : Nat → Nat → Int32 → List av_T → Prop) : Prop := match S with
  | .inl i :: .inr (.inr (some q)) :: r => k q.1 q.2 i r
  | _ => False
def bt_uAsI (S : List av_T) (k : Nat → Nat → Int32 → Int32 → List av_T → Prop) : Prop := match S with
  | .inl v :: .inl i :: .inr (.inr (some q)) :: r => k q.1 q.2 i v r
  | _ => False
def bt_uAsL (S : List av_T) (k : Nat → Nat → Int32 → Int64 → List av_T → Prop) : Prop := match S with
  | .inr (.inl v) :: .inl i :: .inr (.inr (some q)) :: r => k q.1 q.2 i v r
  | _ => False
def bt_tag (k : Nat) (t : Nat) (f : Nat → Prop) : Prop := bt_if (Nat.beq (bt_shp k).1 t) (f (bt_shp k).2)
/-- arguments off the stack: the last on top -/
def bt_args : Nat → List av_T → List av_T → (List av_T → List av_T → Prop) → Prop
  | 0, S, acc, k => k acc S
  | _ + 1, [], _, _ => False
  | n + 1, v :: S, acc, k => bt_args n S (v :: acc) k
def bt_cat (v : av_T) : Nat := match v with
  | .inr (.inl _) => 2
  | _ => 1
def bt_words : List av_T → Nat
  | [] => 0
  | v :: r => bt_cat v + bt_words r
/-- what a call goes on with, by its return type -/
def bt_kc (ret : Option FieldType) (Nx : List av_T → st_T → Prop) : Option av_T → st_T → Prop := match ret with
  | none => kV (fun I L => Nx [] (I, L))
  | some .int => kI (fun x I L => Nx [vi x] (I, L))
  | some .boolean => kI (fun x I L => Nx [vi x] (I, L))
  | some .long => kL (fun x I L => Nx [vl x] (I, L))
  | some (.object _) => kR (fun x I L => Nx [.inr (.inr x)] (I, L))
  | _ => fun _ _ => False
/-- the receiver: an object of the called method's own -/
def bt_isob (v : av_T) (c : Nat) : Bool := match v with
  | .inr (.inr (some q)) => Nat.beq (bt_shp q.1).1 0 && Nat.beq (bt_shp q.1).2 c && Nat.ble (q.1 + 1) 100
  | _ => false
def bt_hd (l : List av_T) : av_T := match l with
  | v :: _ => v
  | [] => vn
/-- a call: n arguments (with the receiver, where c < 100: its place among bt_cl) -/
def bt_call (WPc : bt_WT) (en : bt_E) (S : List av_T) (σ : st_T) (Nx : List av_T → st_T → Prop) : Prop :=
  bt_args en.2.2.1.1 S [] (fun As r => bt_if (Nat.ble (bt_words r) 8 && (Nat.beq en.2.2.1.2 100 || bt_isob (bt_hd As) en.2.2.1.2)) (WPc en.2.2.2.2.2 As σ (bt_kc en.2.2.2.2.2.2.2.2 (fun v σ' => Nx (v ++ r) σ'))))
def bt_sw (x : Int32) (Nx : Nat → Prop) (d : Nat) : List (Int32 × Nat) → Prop
  | [] => Nx d
  | q :: r => (x = q.1 → Nx q.2) ∧ (¬ x = q.1 → bt_sw x Nx d r)
def bt_sys : String := "java/lang/System"
/-- System.arraycopy among ints or longs -/
def bt_cpy (S : List av_T) (σ : st_T) (k : List av_T → st_T → Prop) : Prop := match S with
  | .inl n :: .inl dp :: .inr (.inr (some qd)) :: .inl sp :: .inr (.inr (some qs)) :: r =>
    bt_if (Nat.ble (qs.1 + 1) 100 && Nat.ble (qd.1 + 1) 100 && Nat.ble (bt_words r) 8) (bt_ife (Nat.beq (bt_shp qs.1).1 1 && Nat.beq (bt_shp qd.1).1 1)
      ((¬ sp < 0 ∧ ¬ dp < 0 ∧ ¬ n < 0 ∧ tn sp + tn n ≤ (bt_shp qs.1).2 ∧ tn dp + tn n ≤ (bt_shp qd.1).2) ∧ k r (uc σ.1 qd.1 qd.2 (va_cpy (σ.1 qs.1 qs.2) (σ.1 qd.1 qd.2) (tn sp) (tn dp) (tn n)), σ.2))
      (bt_if (Nat.beq (bt_shp qs.1).1 2 && Nat.beq (bt_shp qd.1).1 2)
        ((¬ sp < 0 ∧ ¬ dp < 0 ∧ ¬ n < 0 ∧ tn sp + tn n ≤ (bt_shp qs.1).2 ∧ tn dp + tn n ≤ (bt_shp qd.1).2) ∧ k r (σ.1, ud σ.2 qd.1 qd.2 (va_cpy (σ.2 qs.1 qs.2) (σ.2 qd.1 qd.2) (tn sp) (tn dp) (tn n))))))
  | _ => False
/-- one instruction; P stands for the static arrays' contents alone -/
def bt_st (P : bt_PT) (WPc : bt_WT) (K : Option av_T → st_T → Prop) (ret : Option FieldType) (en : bt_E) (pc : Nat) (L : List (Option av_T)) (S : List av_T) (σ : st_T) (Nx : bt_NT) : Prop :=
  match en.1 with
  | .iconst _ | .bipush _ | .sipush _ | .ldc _ | .ldc_w _ => Nx (pc + en.2.1) L (vi en.2.2.2.1.1 :: S) σ
  | .lconst _ | .ldc2_w _ => Nx (pc + en.2.1) L (vl en.2.2.2.1.2 :: S) σ
  | .aconst_null => Nx (pc + en.2.1) L (vn :: S) σ
  | .iload i => bt_li L i (fun x => Nx (pc + en.2.1) L (vi x :: S) σ)
  | .iload_n i => bt_li L i.1 (fun x => Nx (pc + en.2.1) L (vi x :: S) σ)
  | .lload i => bt_ll L i (fun x => Nx (pc + en.2.1) L (vl x :: S) σ)
  | .lload_n i => bt_ll L i.1 (fun x => Nx (pc + en.2.1) L (vl x :: S) σ)
  | .aload i => bt_la L i (fun x => Nx (pc + en.2.1) L (.inr (.inr x) :: S) σ)
  | .aload_n i => bt_la L i.1 (fun x => Nx (pc + en.2.1) L (.inr (.inr x) :: S) σ)
  | .istore i => bt_si L i S (fun L' S' => Nx (pc + en.2.1) L' S' σ)
  | .istore_n i => bt_si L i.1 S (fun L' S' => Nx (pc + en.2.1) L' S' σ)
  | .lstore i => bt_sl L i S (fun L' S' => Nx (pc + en.2.1) L' S' σ)
  | .lstore_n i => bt_sl L i.1 S (fun L' S' => Nx (pc + en.2.1) L' S' σ)
  | .astore i => bt_sa L i S (fun L' S' => Nx (pc + en.2.1) L' S' σ)
  | .astore_n i => bt_sa L i.1 S (fun L' S' => Nx (pc + en.2.1) L' S' σ)
  | .iinc i _ => bt_li L i (fun x => bt_if (!bt_cut L i) (Nx (pc + en.2.1) (bt_set L i (some (vi (x + en.2.2.2.1.1)))) S σ))
  | .iadd => bt_u2 S (fun x y r => Nx (pc + en.2.1) L (vi (x + y) :: r) σ)
  | .isub => bt_u2 S (fun x y r => Nx (pc + en.2.1) L (vi (x - y) :: r) σ)
  | .imul => bt_u2 S (fun x y r => Nx (pc + en.2.1) L (vi (x * y) :: r) σ)
  | .idiv => bt_u2 S (fun x y r => ¬ y = 0 ∧ Nx (pc + en.2.1) L (vi (x / y) :: r) σ)
  | .irem => bt_u2 S (fun x y r => ¬ y = 0 ∧ Nx (pc + en.2.1) L (vi (x - x / y * y) :: r) σ)
  | .ineg => bt_u1 S (fun x r => Nx (pc + en.2.1) L (vi (-x) :: r) σ)
  | .iand => bt_u2 S (fun x y r => Nx (pc + en.2.1) L (vi (x &&& y) :: r) σ)
  | .ior => bt_u2 S (fun x y r => Nx (pc + en.2.1) L (vi (x ||| y) :: r) σ)
  | .ixor => bt_u2 S (fun x y r => Nx (pc + en.2.1) L (vi (x ^^^ y) :: r) σ)
  | .ishl => bt_u2 S (fun x y r => Nx (pc + en.2.1) L (vi (x <<< (y &&& 31)) :: r) σ)
  | .ishr => bt_u2 S (fun x y r => Nx (pc + en.2.1) L (vi (x >>> (y &&& 31)) :: r) σ)
  | .iushr => bt_u2 S (fun x y r => Nx (pc + en.2.1) L (vi (x.toUInt32 >>> (y.toUInt32 &&& Int32.toUInt32 31)).toInt32 :: r) σ)
  | .ladd => bt_uLL S (fun x y r => Nx (pc + en.2.1) L (vl (x + y) :: r) σ)
  | .land => bt_uLL S (fun x y r => Nx (pc + en.2.1) L (vl (x &&& y) :: r) σ)
  | .lor => bt_uLL S (fun x y r => Nx (pc + en.2.1) L (vl (x ||| y) :: r) σ)
  | .lshl => bt_uLI S (fun x y r => Nx (pc + en.2.1) L (vl (x <<< (y.toInt64 &&& 63)) :: r) σ)
  | .lcmp => bt_uLL S (fun x y r => Nx (pc + en.2.1) L (vi (lg_cmp x y) :: r) σ)
  | .i2l => bt_u1 S (fun x r => Nx (pc + en.2.1) L (vl x.toInt64 :: r) σ)
  | .l2i => bt_uL S (fun x r => Nx (pc + en.2.1) L (vi x.toInt32 :: r) σ)
  | .i2b => bt_u1 S (fun x r => Nx (pc + en.2.1) L (vi x.toInt8.toInt32 :: r) σ)
  | .i2s => bt_u1 S (fun x r => Nx (pc + en.2.1) L (vi x.toInt16.toInt32 :: r) σ)
  | .dup => (match S with | v :: r => bt_if (Nat.beq (bt_cat v) 1) (Nx (pc + en.2.1) L (v :: v :: r) σ) | _ => False)
  | .dup2 => (match S with | v :: w :: r => bt_if (Nat.beq (bt_cat v) 1 && Nat.beq (bt_cat w) 1) (Nx (pc + en.2.1) L (v :: w :: v :: w :: r) σ) | _ => False)
  | .pop => (match S with | v :: r => bt_if (Nat.beq (bt_cat v) 1) (Nx (pc + en.2.1) L r σ) | _ => False)
  | .goto _ => Nx en.2.2.1.1 L S σ
  | .ifCond .eq _ => bt_u1 S (fun x r => (x = 0 → Nx en.2.2.1.1 L r σ) ∧ (¬ x = 0 → Nx (pc + 3) L r σ))
  | .ifCond .ne _ => bt_u1 S (fun x r => (¬ x = 0 → Nx en.2.2.1.1 L r σ) ∧ (x = 0 → Nx (pc + 3) L r σ))
  | .ifCond .lt _ => bt_u1 S (fun x r => (x < 0 → Nx en.2.2.1.1 L r σ) ∧ (¬ x < 0 → Nx (pc + 3) L r σ))
  | .ifCond .ge _ => bt_u1 S (fun x r => (0 ≤ x → Nx en.2.2.1.1 L r σ) ∧ (¬ 0 ≤ x → Nx (pc + 3) L r σ))
  | .ifCond .gt _ => bt_u1 S (fun x r => (0 < x → Nx en.2.2.1.1 L r σ) ∧ (¬ 0 < x → Nx (pc + 3) L r σ))
  | .ifCond .le _ => bt_u1 S (fun x r => (x ≤ 0 → Nx en.2.2.1.1 L r σ) ∧ (¬ x ≤ 0 → Nx (pc + 3) L r σ))
  | .if_icmp .eq _ => bt_u2 S (fun x y r => (x = y → Nx en.2.2.1.1 L r σ) ∧ (¬ x = y → Nx (pc + 3) L r σ))
  | .if_icmp .ne _ => bt_u2 S (fun x y r => (¬ x = y → Nx en.2.2.1.1 L r σ) ∧ (x = y → Nx (pc + 3) L r σ))
  | .if_icmp .lt _ => bt_u2 S (fun x y r => (x < y → Nx en.2.2.1.1 L r σ) ∧ (¬ x < y → Nx (pc + 3) L r σ))
  | .if_icmp .ge _ => bt_u2 S (fun x y r => (y ≤ x → Nx en.2.2.1.1 L r σ) ∧ (¬ y ≤ x → Nx (pc + 3) L r σ))
  | .if_icmp .gt _ => bt_u2 S (fun x y r => (y < x → Nx en.2.2.1.1 L r σ) ∧ (¬ y < x → Nx (pc + 3) L r σ))
  | .if_icmp .le _ => bt_u2 S (fun x y r => (x ≤ y → Nx en.2.2.1.1 L r σ) ∧ (¬ x ≤ y → Nx (pc + 3) L r σ))
  | .ifnull _ => bt_uA S (fun x r => (x = none → Nx en.2.2.1.1 L r σ) ∧ (¬ x = none → Nx (pc + 3) L r σ))
  | .ifnonnull _ => bt_uA S (fun x r => (¬ x = none → Nx en.2.2.1.1 L r σ) ∧ (x = none → Nx (pc + 3) L r σ))
  | .tableswitch _ _ _ _ => bt_u1 S (fun x r => bt_sw x (fun t => Nx t L r σ) en.2.2.1.1 en.2.2.2.2.1)
  | .lookupswitch _ _ => bt_u1 S (fun x r => bt_sw x (fun t => Nx t L r σ) en.2.2.1.1 en.2.2.2.2.1)
  | .getfield _ => bt_uO S (fun k i r => bt_tag k 0 (fun c => bt_if (Nat.ble (k + 1) 100 && Nat.beq c en.2.2.1.1 && Nat.ble (en.2.2.1.2 + 1) (bt_nf c)) (bt_ife (Nat.beq (bt_fk c en.2.2.1.2) 2) (Nx (pc + en.2.1) L (.inr (.inr (bt_RF k i en.2.2.1.2)) :: r) σ) (Nx (pc + en.2.1) L (vi (σ.1 k i en.2.2.1.2) :: r) σ))))
  | .putfield _ => (match S with
    | .inl x :: .inr (.inr (some q)) :: r => bt_tag q.1 0 (fun c => bt_if (Nat.ble (q.1 + 1) 100 && Nat.beq c en.2.2.1.1 && Nat.ble (en.2.2.1.2 + 1) (bt_nf c)) (bt_ife (Nat.beq (bt_fk c en.2.2.1.2) 0) (Nx (pc + en.2.1) L r (ui σ.1 q.1 q.2 en.2.2.1.2 x, σ.2)) (bt_if (Nat.beq (bt_fk c en.2.2.1.2) 1) ((x = 0 ∨ x = 1) ∧ Nx (pc + en.2.1) L r (ui σ.1 q.1 q.2 en.2.2.1.2 x, σ.2)))))
    | _ => False)
  | .getstatic _ => Nx (pc + en.2.1) L (vr (100 + en.2.2.1.1) 0 :: S) σ
  | .arraylength => bt_uO S (fun k _ r => bt_ife (Nat.ble 100 k) (Nx (pc + en.2.1) L (vi (Int32.ofNat (bt_sn P (k - 100))) :: r) σ) (bt_if (!Nat.beq (bt_shp k).1 0) (Nx (pc + en.2.1) L (vi (Int32.ofNat (bt_shp k).2) :: r) σ)))
  | .iaload => bt_uAr S (fun k i j r => bt_ife (Nat.ble 100 k) (vp_in j (bt_sn P (k - 100)) ∧ Nx (pc + en.2.1) L (vi (bt_sv P (k - 100) (tn j)) :: r) σ) (bt_tag k 1 (fun n => vp_in j n ∧ Nx (pc + en.2.1) L (vi (σ.1 k i (tn j)) :: r) σ)))
  | .laload => bt_uAr S (fun k i j r => bt_if (Nat.ble (k + 1) 100) (bt_tag k 2 (fun n => vp_in j n ∧ Nx (pc + en.2.1) L (vl (σ.2 k i (tn j)) :: r) σ)))
  | .baload => bt_uAr S (fun k i j r => bt_if (Nat.ble (k + 1) 100) (bt_tag k 3 (fun n => vp_in j n ∧ Nx (pc + en.2.1) L (vi (σ.1 k i (tn j)) :: r) σ)))
  | .saload => bt_uAr S (fun k i j r => bt_if (Nat.ble (k + 1) 100) (bt_tag k 4 (fun n => vp_in j n ∧ Nx (pc + en.2.1) L (vi (σ.1 k i (tn j)) :: r) σ)))
  | .aaload => bt_uAr S (fun k i j r => bt_if (Nat.ble (k + 1) 100 && (Nat.beq (bt_shp k).1 5 || Nat.beq (bt_shp k).1 6)) (vp_in j (bt_shp k).2 ∧ Nx (pc + en.2.1) L (.inr (.inr (bt_RF k i (tn j))) :: r) σ))
  | .iastore => bt_uAsI S (fun k i j v r => bt_if (Nat.ble (k + 1) 100) (bt_tag k 1 (fun n => vp_in j n ∧ Nx (pc + en.2.1) L r (ui σ.1 k i (tn j) v, σ.2))))
  | .bastore => bt_uAsI S (fun k i j v r => bt_if (Nat.ble (k + 1) 100) (bt_tag k 3 (fun n => vp_in j n ∧ Nx (pc + en.2.1) L r (ui σ.1 k i (tn j) v.toInt8.toInt32, σ.2))))
  | .sastore => bt_uAsI S (fun k i j v r => bt_if (Nat.ble (k + 1) 100) (bt_tag k 4 (fun n => vp_in j n ∧ Nx (pc + en.2.1) L r (ui σ.1 k i (tn j) v.toInt16.toInt32, σ.2))))
  | .lastore => bt_uAsL S (fun k i j v r => bt_if (Nat.ble (k + 1) 100) (bt_tag k 2 (fun n => vp_in j n ∧ Nx (pc + en.2.1) L r (σ.1, ul σ.2 k i (tn j) v))))
  | .invokevirtual _ => bt_if (Nat.ble (en.2.2.1.2 + 1) 100) (bt_call WPc en S σ (fun S' σ' => Nx (pc + 3) L S' σ'))
  | .invokestatic _ => bt_ife (Nat.beq en.2.2.1.2 101) (bt_cpy S σ (fun S' σ' => Nx (pc + 3) L S' σ')) (bt_if (Nat.beq en.2.2.1.2 100) (bt_call WPc en S σ (fun S' σ' => Nx (pc + 3) L S' σ')))
  | .ireturn => (match S with
    | [.inl x] => (match ret with
      | some .int => K (some (vi x)) σ
      | some .boolean => (x = 0 ∨ x = 1) ∧ K (some (vi x)) σ
      | _ => False)
    | _ => False)
  | .lreturn => (match S, ret with
    | [.inr (.inl x)], some .long => K (some (vl x)) σ
    | _, _ => False)
  | .areturn => (match S, ret with
    | [.inr (.inr x)], some (.object _) => K (some (.inr (.inr x))) σ
    | _, _ => False)
  | .return_ => (match S, ret with
    | [], none => K none σ
    | _, _ => False)
  | _ => False
def bt_mem : List Nat → Nat → Bool
  | [], _ => false
  | a :: r, x => Nat.beq a x || bt_mem r x
/-- the code from a place on -/
def bt_suf : List bt_E → Nat → Nat → List bt_E
  | [], _, _ => []
  | en :: r, c, t => match Nat.beq c t with
    | true => en :: r
    | false => bt_suf r (c + en.2.1) t
/-- many instructions, up to the cut points -/
def bt_ex (P : bt_PT) (WPc : bt_WT) (G : bt_NT) (K : Option av_T → st_T → Prop) (ret : Option FieldType) (T : List bt_E) (cuts : List Nat) : Nat → Nat → List bt_E → List (Option av_T) → List av_T → st_T → Prop
  | 0, pc, _, L, S, σ => G pc L S σ
  | _ + 1, _, [], _, _, _ => False
  | f + 1, pc, en :: rest, L, S, σ => bt_st P WPc K ret en pc L S σ (fun pc' L' S' σ' => bt_ife (bt_mem cuts pc') (G pc' L' S' σ') (bt_ife (Nat.beq pc' (pc + en.2.1)) (bt_ex P WPc G K ret T cuts f pc' rest L' S' σ') (bt_ex P WPc G K ret T cuts f pc' (bt_suf T 0 pc') L' S' σ')))
end
section
/-! THE ABSTRACT MACHINE IS SOUND, 1: what the tables say, contracts, locals -/
def bt_gw : List Cond := lw_tbl.filter goodWord
theorem bt_gin {w : Cond} (h : w ∈ lw_tbl) (hg : goodWord w = true) : w ∈ bt_gw := List.mem_filter.mpr ⟨h, hg⟩
theorem bt_gw_good : ∀ w ∈ bt_gw, (w.onTables && w.keeps) = true ∨ ∃ ty, w = .arrayClass ty := fun w h => good_of_word (List.mem_filter.mp h).2
/-- the links to a nest mate's private methods: they are carried with the world -/
def bt_nests : List (String × Nat × MethodName × String) := [("BellTrees$Sounds", 67, ⟨"BellTrees", "isMinute", "(I)Z"⟩, "BellTrees"), ("BellTrees$Walks", 58, ⟨"BellTrees", "isMinute", "(I)Z"⟩, "BellTrees"), ("BellTrees$Forest", 90, ⟨"BellTrees", "nextDraw", "(I)I"⟩, "BellTrees")]
def bt_NW (U : State) : Prop := ∀ q ∈ bt_nests, va_Nw (.methodLinkNest q.1 q.2.1 q.2.2.1 q.2.2.2) U
def bt_lkM (mi : bt_MI) (n : Nat) : Prop := Cond.code mi.1 mi.2.1 mi.2.2.1 mi.2.2.2 ∈ bt_gw ∧ Cond.initialized mi.1.cls ∈ bt_gw ∧ (mi.1.cls ≠ "java/lang/invoke/MethodHandle" ∧ mi.1.cls ≠ "java/lang/invoke/VarHandle" ∧ (parseMethodDescriptor mi.1.desc).map (fun d => d.parameters.length) = some n) ∧ mi.2.2.1 ≤ 21
def bt_lkV (own : String) (idx : Nat) (mi : bt_MI) (n c : Nat) : Prop := (∃ (k : Nat) (T : u_T) (N : Nat), n = k + 1 ∧ bt_cl[c]? = some (mi.1.cls, T, N) ∧ bt_lkM mi k) ∧ Cond.methodLink own idx mi.1 ∈ bt_gw ∧ Cond.instanceMethod mi.1 ∈ bt_gw ∧ Cond.selects mi.1.cls mi.1 mi.1 ∈ bt_gw
def bt_lkS (own : String) (idx : Nat) (mi : bt_MI) (n : Nat) : Prop := bt_lkM mi n ∧ (Cond.methodLink own idx mi.1 ∈ bt_gw ∨ ∃ host : String, (own, idx, mi.1, host) ∈ bt_nests) ∧ Cond.static mi.1 ∈ bt_gw
def bt_lkC (own : String) (idx : Nat) : Prop := Cond.methodLink own idx arraycopyName ∈ bt_gw ∧ Cond.native arraycopyName ∈ bt_gw ∧ Cond.static arraycopyName ∈ bt_gw ∧ Cond.initialized "java/lang/System" ∈ bt_gw
/-- a field: the class at its place, its table in order, the link -/
def bt_lkF (own : String) (idx : Nat) (c k : Nat) (put : Bool) : Prop := ∃ (C : String) (T : u_T) (N : Nat) (ty : Nat → FieldType), bt_cl[c]? = some (C, T, N) ∧ N = bt_nf c ∧ (∀ w ∈ u_ws C T N, w ∈ bt_gw) ∧ (∀ k, k < N → parseFieldDescriptor (T k).2.2.1 = some (ty k)) ∧ (∀ a, a < N → ∀ b, b < N → a ≠ b → (T a).2.1 ≠ (T b).2.1) ∧ (T k).1 = C ∧ Cond.fieldLink own idx C (T k).2.1 (T k).2.2.1 ∈ bt_gw ∧ (put = true → (T k).2.2.2 = false ∧ ((bt_fk c k = 0 ∧ ty k = .int) ∨ (bt_fk c k = 1 ∧ ty k = .boolean)))
def bt_lkG (own : String) (idx : Nat) (j : Nat) : Prop := j < 3 ∧ Cond.fieldLink own idx (bt_SC j).1 (bt_SC j).2 "[I" ∈ bt_gw
def bt_link (own : String) (en : bt_E) : Prop := match en.1 with
  | .invokevirtual idx => bt_lkV own idx en.2.2.2.2.2 en.2.2.1.1 en.2.2.1.2
  | .invokestatic idx => (en.2.2.1.2 = 100 → bt_lkS own idx en.2.2.2.2.2 en.2.2.1.1) ∧ (en.2.2.1.2 = 101 → bt_lkC own idx)
  | .getfield idx => bt_lkF own idx en.2.2.1.1 en.2.2.1.2 false
  | .putfield idx => bt_lkF own idx en.2.2.1.1 en.2.2.1.2 true
  | .getstatic idx => bt_lkG own idx en.2.2.1.1
  | .ldc idx => Cond.constant own idx en.2.2.2.1.1 ∈ bt_gw
  | .ldc_w idx => Cond.constant own idx en.2.2.2.1.1 ∈ bt_gw
  | .ldc2_w idx => Cond.constantLong own idx en.2.2.2.1.2 ∈ bt_gw
  | _ => True
/-- what a program checks of an entry, its decoding apart -/
def bt_ck (maxL pc : Nat) (en : bt_E) : Bool := match en.1 with
  | .iconst n => decide (Int32.ofInt n = en.2.2.2.1.1) && decide (en.2.1 = 1)
  | .bipush n => decide ((Int8.ofInt n).toInt32 = en.2.2.2.1.1) && decide (en.2.1 = 2)
  | .sipush n => decide ((Int16.ofInt n).toInt32 = en.2.2.2.1.1) && decide (en.2.1 = 3)
  | .lconst n => decide (Int64.ofNat (n : Nat) = en.2.2.2.1.2) && decide (en.2.1 = 1)
  | .ldc _ => decide (en.2.1 = 2)
  | .iload _ | .lload _ | .aload _ => decide (en.2.1 = 2)
  | .ldc_w _ | .ldc2_w _ | .getfield _ | .putfield _ | .getstatic _ | .invokevirtual _ | .invokestatic _ => decide (en.2.1 = 3)
  | .istore i | .astore i => decide (i < maxL) && decide (en.2.1 = 2)
  | .istore_n i | .astore_n i => decide (i.1 < maxL) && decide (en.2.1 = 1)
  | .lstore i => decide (i + 1 < maxL) && decide (en.2.1 = 2)
  | .lstore_n i => decide (i.1 + 1 < maxL) && decide (en.2.1 = 1)
  | .iinc i n => decide (i < maxL) && decide (Int32.ofInt n = en.2.2.2.1.1) && decide (en.2.1 = 3)
  | .goto off => decide ((pc : Int) + off = (en.2.2.1.1 : Int)) && decide (en.2.1 = 3)
  | .ifCond _ off => decide ((pc : Int) + off = (en.2.2.1.1 : Int)) && decide (en.2.1 = 3)
  | .if_icmp _ off => decide ((pc : Int) + off = (en.2.2.1.1 : Int)) && decide (en.2.1 = 3)
  | .ifnull off => decide ((pc : Int) + off = (en.2.2.1.1 : Int)) && decide (en.2.1 = 3)
  | .ifnonnull off => decide ((pc : Int) + off = (en.2.2.1.1 : Int)) && decide (en.2.1 = 3)
  | .tableswitch d lo hi offs => decide ((pc : Int) + d = (en.2.2.1.1 : Int)) && decide (-2147483648 ≤ lo) && decide (hi < 2147483648) && decide (lo ≤ hi) && en.2.2.2.2.1.all (fun q => decide (lo ≤ q.1.toInt) && decide (q.1.toInt ≤ hi) && decide ((offs[(q.1.toInt - lo).toNat]?).map (fun o => (pc : Int) + o) = some (q.2 : Int))) && (List.range ((hi - lo).toNat + 1)).all (fun j => en.2.2.2.2.1.any (fun q => decide (q.1.toInt = lo + (j : Int))))
  | .lookupswitch d ps => decide ((pc : Int) + d = (en.2.2.1.1 : Int)) && (ps.toList.zip (ps.toList.drop 1)).all (fun (a, next) => a.1 < next.1) && decide (ps.toList.length = en.2.2.2.2.1.length) && (ps.toList.zip en.2.2.2.2.1).all (fun z => decide (z.2.1.toInt = z.1.1) && decide ((pc : Int) + z.1.2 = (z.2.2 : Int)))
  | .new _ | .invokespecial _ | .newarray _ | .anewarray _ | .multianewarray _ _ => true
  | _ => decide (en.2.1 = 1)
def bt_dec (bytes : ByteArray) (maxL : Nat) : Nat → List bt_E → Bool
  | _, [] => true
  | pc, en :: r => decide (decode bytes pc = .ok (en.1, en.2.1)) && bt_ck maxL pc en && bt_dec bytes maxL (pc + en.2.1) r
def bt_links (own : String) : List bt_E → Prop
  | [] => True
  | en :: r => bt_link own en ∧ bt_links own r
def bt_Cx (P : bt_PT) (mi : bt_MI) (p : Program) (s : State) (m : MethodId) (args : Array Value) (meth : Method) (c : Code) : Prop :=
  p.tables.exec = Jvm.exec ∧ c.code = mi.2.1 ∧ c.maxLocals = mi.2.2.1 ∧ meth.sig.returnType = mi.2.2.2 ∧ meth.locks = false ∧ s.vm.findClass mi.1.cls = some m.cls ∧ (∀ w ∈ bt_gw, w.before args s = true) ∧ va_K (bt_D P) bt_cl (bt_tys P) s ∧ bt_SF P s s.heap ∧ bt_okP P ∧ bt_NW s
def bt_lk (P : bt_PT) (L : List (Option av_T)) (ls : Array Slot) (nL : Nat) : Prop := ls.size = nL ∧ lv_wf ls ∧ ∀ i v, bt_nth none L i = some v → ls[i]? = some (.val (bt_va P v))
def bt_Dy (P : bt_PT) (nL : Nat) (s : State) (H : Heap) (locs : List Loc) (ls : Array Slot) (L : List (Option av_T)) (S : List av_T) (σ : st_T) : Prop :=
  bt_lk P L ls nL ∧ (∀ v ∈ S, bt_okv v) ∧ (∀ i v, bt_nth none L i = some v → bt_okv v) ∧ va_P (bt_D P) bt_cl (bt_wl P σ) H ∧ va_S (bt_A P) s.heap H locs
def bt_isret (bytes : ByteArray) (pc : Nat) : Option av_T → Prop
  | none => decode bytes pc = .ok (.return_, 1)
  | some (.inl _) => decode bytes pc = .ok (.ireturn, 1)
  | some (.inr (.inl _)) => decode bytes pc = .ok (.lreturn, 1)
  | some (.inr (.inr _)) => decode bytes pc = .ok (.areturn, 1)
def bt_rty (ret : Option FieldType) : Option av_T → Prop
  | none => ret = none
  | some (.inl x) => ret = some .int ∨ (ret = some .boolean ∧ (x = 0 ∨ x = 1))
  | some (.inr (.inl _)) => ret = some .long
  | some (.inr (.inr _)) => ∃ n, ret = some (.object n)
/-- how the method's end is taken -/
def bt_Rt (P : bt_PT) (mi : bt_MI) (K : Option av_T → st_T → Prop) (p : Program) (e : Env) (R : Room) (s : State) (m : MethodId) (args : Array Value) (below : List Frame) (meth : Method) (c : Code) (cells slots : Nat) (Q : State → Prop) : Prop :=
  ∀ (r : Option av_T) (σ : st_T) (H : Heap) (locs : List Loc) (pc : Nat) (ls : Array Slot), K r σ → (∀ v, r = some v → bt_okv v) → va_P (bt_D P) bt_cl (bt_wl P σ) H → va_S (bt_A P) s.heap H locs → bt_isret mi.2.1 pc r → bt_rty mi.2.2.2 r →
    W p (bt_l P) e R s m args below meth c H locs cells slots Q (F0 m pc ls (r.toList.map (bt_va P)))
def bt_Cs (P : bt_PT) (d : Nat) (mi : bt_MI) (K : Option av_T → st_T → Prop) (p : Program) (e : Env) (R : Room) (s : State) (m : MethodId) (args : Array Value) (below : List Frame) (meth : Method) (c : Code) (cells slots : Nat) (Q : State → Prop) : Prop :=
  bt_Cx P mi p s m args meth c ∧ d + 1 ≤ R.frames ∧ 40 * (d + 1) ≤ R.locals ∧ (cells ≤ R.cells ∧ slots ≤ R.slots) ∧ bt_Rt P mi K p e R s m args below meth c cells slots Q
/-- from here the method comes to its end, with K -/
def bt_Go (P : bt_PT) (d : Nat) (mi : bt_MI) (K : Option av_T → st_T → Prop) : bt_NT := fun pc L S σ =>
  ∀ (p : Program) (e : Env) (R : Room) (s : State) (m : MethodId) (args : Array Value) (below : List Frame) (meth : Method) (c : Code) (cells slots : Nat) (Q : State → Prop), bt_Cs P d mi K p e R s m args below meth c cells slots Q →
  ∀ (H : Heap) (locs : List Loc) (ls : Array Slot), bt_Dy P mi.2.2.1 s H locs ls L S σ → W p (bt_l P) e R s m args below meth c H locs cells slots Q (F0 m pc ls (S.map (bt_va P)))
def bt_rm (d : Nat) : Room := { frames := d, cells := 0, slots := 0, locals := 40 * d }
def bt_Pc (P : bt_PT) (as : List av_T) (σ : st_T) : Array Value → State → Prop := fun v U => v = (as.map (bt_va P)).toArray ∧ (∀ a ∈ as, bt_okv a) ∧ va_P (bt_D P) bt_cl (bt_wl P σ) U.heap ∧ va_K (bt_D P) bt_cl (bt_tys P) U ∧ bt_SF P U U.heap ∧ bt_okP P ∧ bt_NW U
def bt_Qc (P : bt_PT) (K : Option av_T → st_T → Prop) : Array Value → State → Outcome → State → Prop := fun _ st o t => (∃ (r : Option av_T) (σ : st_T), o = .returned (r.map (bt_va P)) ∧ K r σ ∧ (∀ v, r = some v → bt_okv v) ∧ va_P (bt_D P) bt_cl (bt_wl P σ) t.heap) ∧ va_F (bt_A P) st t
/-- a method's contract as a predicate transformer -/
def bt_WP (P : bt_PT) (d : Nat) : bt_WT := fun mi as σ K => Met (bt_l P) mi.1 (Cond.code mi.1 mi.2.1 mi.2.2.1 mi.2.2.2 :: bt_gw) (bt_rm d) (bt_Pc P as σ) (bt_Qc P K) 0 0 (bt_A P)
-- ---------- locals
theorem bt_set_ne : ∀ (L : List (Option av_T)) (i j : Nat) (v : Option av_T), j ≠ i → bt_nth none (bt_set L i v) j = bt_nth none L j
  | [], i, j, v, _ => by cases i <;> rfl
  | a :: r, 0, j, v, h => by
    cases j with
    | zero => exact absurd rfl h
    | succ j => rfl
  | a :: r, i + 1, j, v, h => by
    cases j with
    | zero => rfl
    | succ j => exact bt_set_ne r i j v (fun e => h (by rw [e]))
theorem bt_set_eq : ∀ (L : List (Option av_T)) (i : Nat) (v : Option av_T) (w : av_T), bt_nth none (bt_set L i v) i = some w → v = some w
  | [], i, v, w, h => by cases i <;> cases h
  | a :: r, 0, v, w, h => h
  | a :: r, i + 1, v, w, h => bt_set_eq r i v w h
def bt_enum (P : bt_PT) : Nat → List (Option av_T) → List (Nat × Value)
  | _, [] => []
  | k, none :: r => bt_enum P (k + 1) r
  | k, some v :: r => (k, bt_va P v) :: bt_enum P (k + 1) r
theorem bt_enum_mem (P : bt_PT) : ∀ (L : List (Option av_T)) (k : Nat) (q : Nat × Value), q ∈ bt_enum P k L → ∃ (j : Nat) (v : av_T), q = (k + j, bt_va P v) ∧ bt_nth none L j = some v
  | [], k, q, h => by cases h
  | none :: r, k, q, h => by
    obtain ⟨j, v, h1, h2⟩ := bt_enum_mem P r (k + 1) q h
    exact ⟨j + 1, v, by rw [h1]; congr 1; omega, h2⟩
  | some w :: r, k, q, h => by
    rcases List.mem_cons.mp h with h | h
    · exact ⟨0, w, h, rfl⟩
    · obtain ⟨j, v, h1, h2⟩ := bt_enum_mem P r (k + 1) q h
      exact ⟨j + 1, v, by rw [h1]; congr 1; omega, h2⟩
theorem bt_mem_enum (P : bt_PT) : ∀ (L : List (Option av_T)) (k j : Nat) (v : av_T), bt_nth none L j = some v → (k + j, bt_va P v) ∈ bt_enum P k L
  | [], k, j, v, h => by cases j <;> cases h
  | none :: r, k, j, v, h => by
    cases j with
    | zero => cases h
    | succ j =>
      have h1 := bt_mem_enum P r (k + 1) j v h
      rw [show k + (j + 1) = k + 1 + j by omega]; exact h1
  | some w :: r, k, j, v, h => by
    cases j with
    | zero => cases h; exact List.mem_cons_self
    | succ j =>
      have h1 := bt_mem_enum P r (k + 1) j v h
      rw [show k + (j + 1) = k + 1 + j by omega]; exact List.mem_cons_of_mem _ h1
theorem bt_lk_has {P : bt_PT} {L : List (Option av_T)} {ls : Array Slot} {nL : Nat} (h : bt_lk P L ls nL) : lv_has ls nL (bt_enum P 0 L) := by
  refine ⟨h.1, h.2.1, fun q hq => ?_⟩
  obtain ⟨j, v, rfl, h2⟩ := bt_enum_mem P L 0 q hq
  rw [Nat.zero_add]; exact h.2.2 j v h2
theorem bt_cat_va (P : bt_PT) (v : av_T) : (bt_va P v).category = bt_cat v := by
  rcases v with x | x | (_ | q) <;> rfl
theorem bt_isl_cat {v : av_T} (h : bt_isl (some v) = false) : bt_cat v = 1 := by
  rcases v with x | x | (_ | q)
  · rfl
  · cases h
  · rfl
  · rfl
theorem bt_cat_isl {v : av_T} (h : bt_cat v = 2) : bt_isl (some v) = true := by
  rcases v with x | x | (_ | q)
  · cases h
  · rfl
  · cases h
  · cases h
theorem bt_lk_store1 {P : bt_PT} {L : List (Option av_T)} {ls' : Array Slot} {nL i : Nat} {v : av_T} (hc : bt_cut L i = false)
    (h : lv_has ls' nL ((i, bt_va P v) :: (bt_enum P 0 L).filter (fun q => !(q.1 == i) && !(q.1 + 1 == i && q.2.category == 2)))) : bt_lk P (bt_set L i (some v)) ls' nL := by
  refine ⟨h.1, h.2.1, fun j w hj => ?_⟩
  by_cases e : j = i
  · subst e
    cases bt_set_eq L j (some v) w hj
    exact h.2.2 _ List.mem_cons_self
  · rw [bt_set_ne L i j _ e] at hj
    refine h.2.2 (j, bt_va P w) (List.mem_cons_of_mem _ (List.mem_filter.mpr ⟨by simpa using bt_mem_enum P L 0 j w hj, ?_⟩))
    simp only [Bool.and_eq_true, Bool.not_eq_true', beq_eq_false_iff_ne, ne_eq, Bool.and_eq_false_iff]
    refine ⟨e, ?_⟩
    by_cases e2 : j + 1 = i
    · right
      subst e2
      have hc' : bt_isl (bt_nth none L j) = false := hc
      rw [hj] at hc'
      rw [bt_cat_va, bt_isl_cat hc']
      decide
    · left; exact e2
theorem bt_lk_store2 {P : bt_PT} {L : List (Option av_T)} {ls' : Array Slot} {nL i : Nat} {v : av_T} (hc : bt_cut L i = false)
    (h : lv_has ls' nL ((i, bt_va P v) :: (bt_enum P 0 L).filter (fun q => !(q.1 == i) && (!(q.1 == i + 1) && !(q.1 + 1 == i && q.2.category == 2))))) : bt_lk P (bt_set (bt_set L i (some v)) (i + 1) none) ls' nL := by
  refine ⟨h.1, h.2.1, fun j w hj => ?_⟩
  by_cases e1 : j = i + 1
  · subst e1
    cases bt_set_eq _ (i + 1) none w hj
  · rw [bt_set_ne _ (i + 1) j _ e1] at hj
    by_cases e : j = i
    · subst e
      cases bt_set_eq L j (some v) w hj
      exact h.2.2 _ List.mem_cons_self
    · rw [bt_set_ne L i j _ e] at hj
      refine h.2.2 (j, bt_va P w) (List.mem_cons_of_mem _ (List.mem_filter.mpr ⟨by simpa using bt_mem_enum P L 0 j w hj, ?_⟩))
      simp only [Bool.and_eq_true, Bool.not_eq_true', beq_eq_false_iff_ne, ne_eq, Bool.and_eq_false_iff]
      refine ⟨e, e1, ?_⟩
      by_cases e2 : j + 1 = i
      · right
        subst e2
        have hc' : bt_isl (bt_nth none L j) = false := hc
        rw [hj] at hc'
        rw [bt_cat_va, bt_isl_cat hc']
        decide
      · left; exact e2
theorem bt_okL_set {L : List (Option av_T)} {i : Nat} {v : av_T} (h : ∀ i v, bt_nth none L i = some v → bt_okv v) (hv : bt_okv v) : ∀ j w, bt_nth none (bt_set L i (some v)) j = some w → bt_okv w := by
  intro j w hj
  by_cases e : j = i
  · subst e
    cases bt_set_eq L j (some v) w hj
    exact hv
  · rw [bt_set_ne L i j _ e] at hj
    exact h j w hj
theorem bt_okL_none {L : List (Option av_T)} {i : Nat} (h : ∀ i v, bt_nth none L i = some v → bt_okv v) : ∀ j w, bt_nth none (bt_set L i none) j = some w → bt_okv w := by
  intro j w hj
  by_cases e : j = i
  · subst e
    cases bt_set_eq L j none w hj
  · rw [bt_set_ne L i j _ e] at hj
    exact h j w hj
end
section
/-! THE ABSTRACT MACHINE IS SOUND, 2: stack, arithmetic, branches -/
theorem bt_RF_ok : ∀ k, k < 70 → ∀ i, i < bt_cnt k → ∀ j, j < (if (bt_shp k).1 = 0 then bt_nf (bt_shp k).2 else (bt_shp k).2) → (match bt_RF k i j with | none => true | some q => Nat.blt q.2 (bt_cnt q.1)) = true := by decide +kernel
theorem bt_pos_inv : ∀ n, n < 128 → (match bt_NMS[n]? with | none => true | some q => Nat.beq (bt_bas q.1 + q.2) n) = true := by decide +kernel
theorem bt_NMS_len : bt_NMS.length = 128 := by decide +kernel
theorem bt_if_inv {b : Bool} {p : Prop} (h : bt_if b p) : b = true ∧ p := by
  cases b with
  | true => exact ⟨rfl, h⟩
  | false => exact h.elim
theorem bt_ife_inv {b : Bool} {p q : Prop} (h : bt_ife b p q) : (b = true ∧ p) ∨ (b = false ∧ q) := by
  cases b with
  | true => exact Or.inl ⟨rfl, h⟩
  | false => exact Or.inr ⟨rfl, h⟩
theorem bt_u1_inv {S : List av_T} {k : Int32 → List av_T → Prop} (h : bt_u1 S k) : ∃ x r, S = vi x :: r ∧ k x r := by
  unfold bt_u1 at h
  split at h
  · exact ⟨_, _, rfl, h⟩
  · exact h.elim
theorem bt_uL_inv {S : List av_T} {k : Int64 → List av_T → Prop} (h : bt_uL S k) : ∃ x r, S = vl x :: r ∧ k x r := by
  unfold bt_uL at h
  split at h
  · exact ⟨_, _, rfl, h⟩
  · exact h.elim
theorem bt_uA_inv {S : List av_T} {k : Option (Nat × Nat) → List av_T → Prop} (h : bt_uA S k) : ∃ x r, S = .inr (.inr x) :: r ∧ k x r := by
  unfold bt_uA at h
  split at h
  · exact ⟨_, _, rfl, h⟩
  · exact h.elim
theorem bt_u2_inv {S : List av_T} {k : Int32 → Int32 → List av_T → Prop} (h : bt_u2 S k) : ∃ x y r, S = vi y :: vi x :: r ∧ k x y r := by
  unfold bt_u2 at h
  split at h
  · exact ⟨_, _, _, rfl, h⟩
  · exact h.elim
theorem bt_uLL_inv {S : List av_T} {k : Int64 → Int64 → List av_T → Prop} (h : bt_uLL S k) : ∃ x y r, S = vl y :: vl x :: r ∧ k x y r := by
  unfold bt_uLL at h
  split at h
  · exact ⟨_, _, _, rfl, h⟩
  · exact h.elim
theorem bt_uLI_inv {S : List av_T} {k : Int64 → Int32 → List av_T → Prop} (h : bt_uLI S k) : ∃ x y r, S = vi y :: vl x :: r ∧ k x y r := by
  unfold bt_uLI at h
  split at h
  · exact ⟨_, _, _, rfl, h⟩
  · exact h.elim
theorem bt_uO_inv {S : List av_T} {k : Nat → Nat → List av_T → Prop} (h : bt_uO S k) : ∃ a b r, S = vr a b :: r ∧ k a b r := by
  unfold bt_uO at h
  split at h
  · exact ⟨_, _, _, rfl, h⟩
  · exact h.elim
theorem bt_uAr_inv {S : List av_T} {k : Nat → Nat → Int32 → List av_T → Prop} (h : bt_uAr S k) : ∃ a b i r, S = vi i :: vr a b :: r ∧ k a b i r := by
  unfold bt_uAr at h
  split at h
  · exact ⟨_, _, _, _, rfl, h⟩
  · exact h.elim
theorem bt_uAsI_inv {S : List av_T} {k : Nat → Nat → Int32 → Int32 → List av_T → Prop} (h : bt_uAsI S k) : ∃ a b i v r, S = vi v :: vi i :: vr a b :: r ∧ k a b i v r := by
  unfold bt_uAsI at h
  split at h
  · exact ⟨_, _, _, _, _, rfl, h⟩
  · exact h.elim
theorem bt_uAsL_inv {S : List av_T} {k : Nat → Nat → Int32 → Int64 → List av_T → Prop} (h : bt_uAsL S k) : ∃ a b i v r, S = vl v :: vi i :: vr a b :: r ∧ k a b i v r := by
  unfold bt_uAsL at h
  split at h
  · exact ⟨_, _, _, _, _, rfl, h⟩
  · exact h.elim
theorem bt_li_inv {L : List (Option av_T)} {i : Nat} {k : Int32 → Prop} (h : bt_li L i k) : ∃ x, bt_nth none L i = some (vi x) ∧ k x := by
  unfold bt_li at h
  split at h
  · next e => exact ⟨_, e, h⟩
  · exact h.elim
theorem bt_ll_inv {L : List (Option av_T)} {i : Nat} {k : Int64 → Prop} (h : bt_ll L i k) : ∃ x, bt_nth none L i = some (vl x) ∧ k x := by
  unfold bt_ll at h
  split at h
  · next e => exact ⟨_, e, h⟩
  · exact h.elim
theorem bt_la_inv {L : List (Option av_T)} {i : Nat} {k : Option (Nat × Nat) → Prop} (h : bt_la L i k) : ∃ x, bt_nth none L i = some (.inr (.inr x)) ∧ k x := by
  unfold bt_la at h
  split at h
  · next e => exact ⟨_, e, h⟩
  · exact h.elim
theorem bt_not_inv {b : Bool} (h : (!b) = true) : b = false := by cases b <;> first | rfl | cases h
theorem bt_si_inv {L : List (Option av_T)} {i : Nat} {S : List av_T} {k : List (Option av_T) → List av_T → Prop} (h : bt_si L i S k) : ∃ x r, S = vi x :: r ∧ bt_cut L i = false ∧ k (bt_set L i (some (vi x))) r := by
  unfold bt_si at h
  split at h
  · obtain ⟨h1, h2⟩ := bt_if_inv h
    exact ⟨_, _, rfl, bt_not_inv h1, h2⟩
  · exact h.elim
theorem bt_sa_inv {L : List (Option av_T)} {i : Nat} {S : List av_T} {k : List (Option av_T) → List av_T → Prop} (h : bt_sa L i S k) : ∃ x r, S = .inr (.inr x) :: r ∧ bt_cut L i = false ∧ k (bt_set L i (some (.inr (.inr x)))) r := by
  unfold bt_sa at h
  split at h
  · obtain ⟨h1, h2⟩ := bt_if_inv h
    exact ⟨_, _, rfl, bt_not_inv h1, h2⟩
  · exact h.elim
theorem bt_sl_inv {L : List (Option av_T)} {i : Nat} {S : List av_T} {k : List (Option av_T) → List av_T → Prop} (h : bt_sl L i S k) : ∃ x r, S = vl x :: r ∧ bt_cut L i = false ∧ k (bt_set (bt_set L i (some (vl x))) (i + 1) none) r := by
  unfold bt_sl at h
  split at h
  · obtain ⟨h1, h2⟩ := bt_if_inv h
    exact ⟨_, _, rfl, bt_not_inv h1, h2⟩
  · exact h.elim
theorem bt_tag_inv {k t : Nat} {f : Nat → Prop} (h : bt_tag k t f) : (bt_shp k).1 = t ∧ f (bt_shp k).2 := by
  obtain ⟨h1, h2⟩ := bt_if_inv h
  exact ⟨Nat.eq_of_beq_eq_true h1, h2⟩
theorem bt_args_inv : ∀ (n : Nat) (S acc : List av_T) (k : List av_T → List av_T → Prop), bt_args n S acc k → ∃ top r, S = top ++ r ∧ top.length = n ∧ k (top.reverse ++ acc) r
  | 0, S, acc, k, h => ⟨[], S, rfl, rfl, h⟩
  | n + 1, [], acc, k, h => h.elim
  | n + 1, v :: S, acc, k, h => by
    obtain ⟨top, r, h1, h2, h3⟩ := bt_args_inv n S (v :: acc) k h
    refine ⟨v :: top, r, by rw [h1]; rfl, by rw [List.length_cons, h2], ?_⟩
    rw [List.reverse_cons, List.append_assoc]
    exact h3
theorem bt_sw_inv (x : Int32) (Nx : Nat → Prop) (d : Nat) : ∀ (l : List (Int32 × Nat)), bt_sw x Nx d l → (∃ q ∈ l, q.1 = x ∧ (∀ q' ∈ l, q'.1 = x → True) ∧ Nx q.2 ∧ l.find? (fun q => decide (q.1 = x)) = some q) ∨ ((∀ q ∈ l, ¬ q.1 = x) ∧ Nx d)
  | [], h => Or.inr ⟨(fun _ h => by cases h), h⟩
  | q :: r, h => by
    by_cases e : x = q.1
    · exact Or.inl ⟨q, List.mem_cons_self, e.symm, fun _ _ _ => trivial, h.1 e, by rw [List.find?_cons_of_pos (by simp [e])]⟩
    · rcases bt_sw_inv x Nx d r (h.2 e) with ⟨q', h1, h2, -, h3, h4⟩ | ⟨h1, h2⟩
      · exact Or.inl ⟨q', List.mem_cons_of_mem _ h1, h2, fun _ _ _ => trivial, h3, by rw [List.find?_cons_of_neg (by simpa using fun z : q.1 = x => e z.symm)]; exact h4⟩
      · refine Or.inr ⟨fun q' hq => ?_, h2⟩
        rcases List.mem_cons.mp hq with rfl | hq
        · exact fun z => e z.symm
        · exact h1 q' hq
theorem bt_Dy_s {P : bt_PT} {nL : Nat} {s : State} {H : Heap} {locs : List Loc} {ls : Array Slot} {L : List (Option av_T)} {S S' : List av_T} {σ : st_T} (h : bt_Dy P nL s H locs ls L S σ) (hs : ∀ v ∈ S', bt_okv v) : bt_Dy P nL s H locs ls L S' σ := ⟨h.1, hs, h.2.2⟩
theorem bt_ok1 {v : av_T} {r : List av_T} (hv : bt_okv v) (h : ∀ v ∈ r, bt_okv v) : ∀ w ∈ v :: r, bt_okv w := List.forall_mem_cons.mpr ⟨hv, h⟩
theorem bt_oki (x : Int32) : bt_okv (vi x) := trivial
theorem bt_okl (x : Int64) : bt_okv (vl x) := trivial
theorem bt_oka {x : Option (Nat × Nat)} (h : ∀ q, x = some q → bt_ok q) : bt_okv (.inr (.inr x)) := by
  cases x with
  | none => trivial
  | some q => exact h q rfl
section BTS
variable {P : bt_PT} {d : Nat} {mi : bt_MI} {K : Option av_T → st_T → Prop} {pc : Nat} {L : List (Option av_T)} {r : List av_T} {σ : st_T}
theorem bt_s_iconst {n : Int} {v : Int32} (hd : decode mi.2.1 pc = .ok (.iconst n, 1)) (hv : Int32.ofInt n = v) (k : bt_Go P d mi K (pc + 1) L (vi v :: r) σ) : bt_Go P d mi K pc L r σ := by
  intro p e R s m args below meth c cells slots Q hC H locs ls hD
  exact lv_iconst hC.1.1 hC.1.2.1 hd hv (k p e R s m args below meth c cells slots Q hC H locs ls (bt_Dy_s hD (bt_ok1 (bt_oki _) hD.2.1)))
theorem bt_s_bipush {n : Int} {v : Int32} (hd : decode mi.2.1 pc = .ok (.bipush n, 2)) (hv : (Int8.ofInt n).toInt32 = v) (k : bt_Go P d mi K (pc + 2) L (vi v :: r) σ) : bt_Go P d mi K pc L r σ := by
  intro p e R s m args below meth c cells slots Q hC H locs ls hD
  exact lv_bipush hC.1.1 hC.1.2.1 hd hv (k p e R s m args below meth c cells slots Q hC H locs ls (bt_Dy_s hD (bt_ok1 (bt_oki _) hD.2.1)))
theorem bt_s_sipush {n : Int} {v : Int32} (hd : decode mi.2.1 pc = .ok (.sipush n, 3)) (hv : (Int16.ofInt n).toInt32 = v) (k : bt_Go P d mi K (pc + 3) L (vi v :: r) σ) : bt_Go P d mi K pc L r σ := by
  intro p e R s m args below meth c cells slots Q hC H locs ls hD
  exact lv_sipush hC.1.1 hC.1.2.1 hd hv (k p e R s m args below meth c cells slots Q hC H locs ls (bt_Dy_s hD (bt_ok1 (bt_oki _) hD.2.1)))
theorem bt_s_ldc {idx : Nat} {v : Int32} (hd : decode mi.2.1 pc = .ok (.ldc idx, 2)) (hl : Cond.constant mi.1.cls idx v ∈ bt_gw) (k : bt_Go P d mi K (pc + 2) L (vi v :: r) σ) : bt_Go P d mi K pc L r σ := by
  intro p e R s m args below meth c cells slots Q hC H locs ls hD
  obtain ⟨hx, hb, hml, hr, hlo, hown, hts, -⟩ := id hC.1
  exact lv_ldc hx hb hown (hts _ hl) hd (k p e R s m args below meth c cells slots Q hC H locs ls (bt_Dy_s hD (bt_ok1 (bt_oki _) hD.2.1)))
theorem bt_s_ldcw {idx : Nat} {v : Int32} (hd : decode mi.2.1 pc = .ok (.ldc_w idx, 3)) (hl : Cond.constant mi.1.cls idx v ∈ bt_gw) (k : bt_Go P d mi K (pc + 3) L (vi v :: r) σ) : bt_Go P d mi K pc L r σ := by
  intro p e R s m args below meth c cells slots Q hC H locs ls hD
  obtain ⟨hx, hb, hml, hr, hlo, hown, hts, -⟩ := id hC.1
  exact lv_ldcw hx hb hown (hts _ hl) hd (k p e R s m args below meth c cells slots Q hC H locs ls (bt_Dy_s hD (bt_ok1 (bt_oki _) hD.2.1)))
theorem bt_s_ldc2 {idx : Nat} {v : Int64} (hd : decode mi.2.1 pc = .ok (.ldc2_w idx, 3)) (hl : Cond.constantLong mi.1.cls idx v ∈ bt_gw) (k : bt_Go P d mi K (pc + 3) L (vl v :: r) σ) : bt_Go P d mi K pc L r σ := by
  intro p e R s m args below meth c cells slots Q hC H locs ls hD
  obtain ⟨hx, hb, hml, hr, hlo, hown, hts, -⟩ := id hC.1
  exact lv_ldc2 hx hb hown (hts _ hl) hd (k p e R s m args below meth c cells slots Q hC H locs ls (bt_Dy_s hD (bt_ok1 (bt_okl _) hD.2.1)))
theorem bt_s_lconst {n : Fin 2} {v : Int64} (hd : decode mi.2.1 pc = .ok (.lconst n, 1)) (hv : Int64.ofNat (n : Nat) = v) (k : bt_Go P d mi K (pc + 1) L (vl v :: r) σ) : bt_Go P d mi K pc L r σ := by
  intro p e R s m args below meth c cells slots Q hC H locs ls hD
  exact lv_lconst hC.1.1 hC.1.2.1 hd hv (k p e R s m args below meth c cells slots Q hC H locs ls (bt_Dy_s hD (bt_ok1 (bt_okl _) hD.2.1)))
theorem bt_s_null (hd : decode mi.2.1 pc = .ok (.aconst_null, 1)) (k : bt_Go P d mi K (pc + 1) L (vn :: r) σ) : bt_Go P d mi K pc L r σ := by
  intro p e R s m args below meth c cells slots Q hC H locs ls hD
  exact lv_null hC.1.1 hC.1.2.1 hd (k p e R s m args below meth c cells slots Q hC H locs ls (bt_Dy_s hD (bt_ok1 trivial hD.2.1)))
theorem bt_s_iload {i : Nat} {x : Int32} (hd : decode mi.2.1 pc = .ok (.iload i, 2)) (hi : bt_nth none L i = some (vi x)) (k : bt_Go P d mi K (pc + 2) L (vi x :: r) σ) : bt_Go P d mi K pc L r σ := by
  intro p e R s m args below meth c cells slots Q hC H locs ls hD
  exact lv_iload hC.1.1 hC.1.2.1 hd (hD.1.2.2 i _ hi) (k p e R s m args below meth c cells slots Q hC H locs ls (bt_Dy_s hD (bt_ok1 (bt_oki _) hD.2.1)))
theorem bt_s_iload_n {i : Fin 4} {x : Int32} (hd : decode mi.2.1 pc = .ok (.iload_n i, 1)) (hi : bt_nth none L i.1 = some (vi x)) (k : bt_Go P d mi K (pc + 1) L (vi x :: r) σ) : bt_Go P d mi K pc L r σ := by
  intro p e R s m args below meth c cells slots Q hC H locs ls hD
  exact lv_iload_n hC.1.1 hC.1.2.1 hd rfl (hD.1.2.2 i.1 _ hi) (k p e R s m args below meth c cells slots Q hC H locs ls (bt_Dy_s hD (bt_ok1 (bt_oki _) hD.2.1)))
theorem bt_s_lload {i : Nat} {x : Int64} (hd : decode mi.2.1 pc = .ok (.lload i, 2)) (hi : bt_nth none L i = some (vl x)) (k : bt_Go P d mi K (pc + 2) L (vl x :: r) σ) : bt_Go P d mi K pc L r σ := by
  intro p e R s m args below meth c cells slots Q hC H locs ls hD
  exact lv_lload hC.1.1 hC.1.2.1 hd (hD.1.2.2 i _ hi) (k p e R s m args below meth c cells slots Q hC H locs ls (bt_Dy_s hD (bt_ok1 (bt_okl _) hD.2.1)))
theorem bt_s_lload_n {i : Fin 4} {x : Int64} (hd : decode mi.2.1 pc = .ok (.lload_n i, 1)) (hi : bt_nth none L i.1 = some (vl x)) (k : bt_Go P d mi K (pc + 1) L (vl x :: r) σ) : bt_Go P d mi K pc L r σ := by
  intro p e R s m args below meth c cells slots Q hC H locs ls hD
  exact lv_lload_n hC.1.1 hC.1.2.1 hd rfl (hD.1.2.2 i.1 _ hi) (k p e R s m args below meth c cells slots Q hC H locs ls (bt_Dy_s hD (bt_ok1 (bt_okl _) hD.2.1)))
theorem bt_s_aload {i : Nat} {x : Option (Nat × Nat)} (hd : decode mi.2.1 pc = .ok (.aload i, 2)) (hi : bt_nth none L i = some (.inr (.inr x))) (k : bt_Go P d mi K (pc + 2) L (.inr (.inr x) :: r) σ) : bt_Go P d mi K pc L r σ := by
  intro p e R s m args below meth c cells slots Q hC H locs ls hD
  have hk := k p e R s m args below meth c cells slots Q hC H locs ls (bt_Dy_s hD (bt_ok1 (hD.2.2.1 i _ hi) hD.2.1))
  cases x with
  | none => exact lv_aloadN hC.1.1 hC.1.2.1 hd (hD.1.2.2 i _ hi) hk
  | some q => exact lv_aload hC.1.1 hC.1.2.1 hd (hD.1.2.2 i _ hi) hk
theorem bt_s_aload_n {i : Fin 4} {x : Option (Nat × Nat)} (hd : decode mi.2.1 pc = .ok (.aload_n i, 1)) (hi : bt_nth none L i.1 = some (.inr (.inr x))) (k : bt_Go P d mi K (pc + 1) L (.inr (.inr x) :: r) σ) : bt_Go P d mi K pc L r σ := by
  intro p e R s m args below meth c cells slots Q hC H locs ls hD
  have hk := k p e R s m args below meth c cells slots Q hC H locs ls (bt_Dy_s hD (bt_ok1 (hD.2.2.1 i.1 _ hi) hD.2.1))
  cases x with
  | none => exact lv_aload_nN hC.1.1 hC.1.2.1 hd rfl (hD.1.2.2 i.1 _ hi) hk
  | some q => exact lv_aload_n hC.1.1 hC.1.2.1 hd rfl (hD.1.2.2 i.1 _ hi) hk
theorem bt_s_istore {i : Nat} {x : Int32} (hd : decode mi.2.1 pc = .ok (.istore i, 2)) (hn : i < mi.2.2.1) (hc : bt_cut L i = false) (k : bt_Go P d mi K (pc + 2) (bt_set L i (some (vi x))) r σ) : bt_Go P d mi K pc L (vi x :: r) σ := by
  intro p e R s m args below meth c cells slots Q hC H locs ls hD
  refine lv_istore hC.1.1 hC.1.2.1 hd (bt_lk_has hD.1) hn rfl (fun ls' hl' => ?_)
  exact k p e R s m args below meth c cells slots Q hC H locs ls' ⟨bt_lk_store1 hc hl', fun v hv => hD.2.1 v (List.mem_cons_of_mem _ hv), bt_okL_set hD.2.2.1 (bt_oki _), hD.2.2.2⟩
theorem bt_s_istore_n {i : Fin 4} {x : Int32} (hd : decode mi.2.1 pc = .ok (.istore_n i, 1)) (hn : i.1 < mi.2.2.1) (hc : bt_cut L i.1 = false) (k : bt_Go P d mi K (pc + 1) (bt_set L i.1 (some (vi x))) r σ) : bt_Go P d mi K pc L (vi x :: r) σ := by
  intro p e R s m args below meth c cells slots Q hC H locs ls hD
  refine lv_istore_n hC.1.1 hC.1.2.1 hd rfl (bt_lk_has hD.1) hn rfl (fun ls' hl' => ?_)
  exact k p e R s m args below meth c cells slots Q hC H locs ls' ⟨bt_lk_store1 hc hl', fun v hv => hD.2.1 v (List.mem_cons_of_mem _ hv), bt_okL_set hD.2.2.1 (bt_oki _), hD.2.2.2⟩
theorem bt_s_lstore {i : Nat} {x : Int64} (hd : decode mi.2.1 pc = .ok (.lstore i, 2)) (hn : i + 1 < mi.2.2.1) (hc : bt_cut L i = false) (k : bt_Go P d mi K (pc + 2) (bt_set (bt_set L i (some (vl x))) (i + 1) none) r σ) : bt_Go P d mi K pc L (vl x :: r) σ := by
  intro p e R s m args below meth c cells slots Q hC H locs ls hD
  refine lv_lstore hC.1.1 hC.1.2.1 hd (bt_lk_has hD.1) hn rfl (fun ls' hl' => ?_)
  exact k p e R s m args below meth c cells slots Q hC H locs ls' ⟨bt_lk_store2 hc hl', fun v hv => hD.2.1 v (List.mem_cons_of_mem _ hv), bt_okL_none (bt_okL_set hD.2.2.1 (bt_okl _)), hD.2.2.2⟩
theorem bt_s_lstore_n {i : Fin 4} {x : Int64} (hd : decode mi.2.1 pc = .ok (.lstore_n i, 1)) (hn : i.1 + 1 < mi.2.2.1) (hc : bt_cut L i.1 = false) (k : bt_Go P d mi K (pc + 1) (bt_set (bt_set L i.1 (some (vl x))) (i.1 + 1) none) r σ) : bt_Go P d mi K pc L (vl x :: r) σ := by
  intro p e R s m args below meth c cells slots Q hC H locs ls hD
  refine lv_lstore_n hC.1.1 hC.1.2.1 hd rfl (bt_lk_has hD.1) hn rfl (fun ls' hl' => ?_)
  exact k p e R s m args below meth c cells slots Q hC H locs ls' ⟨bt_lk_store2 hc hl', fun v hv => hD.2.1 v (List.mem_cons_of_mem _ hv), bt_okL_none (bt_okL_set hD.2.2.1 (bt_okl _)), hD.2.2.2⟩
theorem bt_s_astore {i : Nat} {x : Option (Nat × Nat)} (hd : decode mi.2.1 pc = .ok (.astore i, 2)) (hn : i < mi.2.2.1) (hc : bt_cut L i = false) (k : bt_Go P d mi K (pc + 2) (bt_set L i (some (.inr (.inr x)))) r σ) : bt_Go P d mi K pc L (.inr (.inr x) :: r) σ := by
  intro p e R s m args below meth c cells slots Q hC H locs ls hD
  have ho := hD.2.1 _ List.mem_cons_self
  have hk : ∀ ls' : Array Slot, lv_has ls' mi.2.2.1 ((i, bt_va P (.inr (.inr x))) :: (bt_enum P 0 L).filter (fun q => !(q.1 == i) && !(q.1 + 1 == i && q.2.category == 2))) → W p (bt_l P) e R s m args below meth c H locs cells slots Q (F0 m (pc + 2) ls' (r.map (bt_va P))) := fun ls' hl' =>
    k p e R s m args below meth c cells slots Q hC H locs ls' ⟨bt_lk_store1 hc hl', fun v hv => hD.2.1 v (List.mem_cons_of_mem _ hv), bt_okL_set hD.2.2.1 ho, hD.2.2.2⟩
  cases x with
  | none => exact lv_astoreN hC.1.1 hC.1.2.1 hd (bt_lk_has hD.1) hn rfl hk
  | some q => exact lv_astore hC.1.1 hC.1.2.1 hd (bt_lk_has hD.1) hn rfl hk
theorem bt_s_astore_n {i : Fin 4} {x : Option (Nat × Nat)} (hd : decode mi.2.1 pc = .ok (.astore_n i, 1)) (hn : i.1 < mi.2.2.1) (hc : bt_cut L i.1 = false) (k : bt_Go P d mi K (pc + 1) (bt_set L i.1 (some (.inr (.inr x)))) r σ) : bt_Go P d mi K pc L (.inr (.inr x) :: r) σ := by
  intro p e R s m args below meth c cells slots Q hC H locs ls hD
  have ho := hD.2.1 _ List.mem_cons_self
  have hk : ∀ ls' : Array Slot, lv_has ls' mi.2.2.1 ((i.1, bt_va P (.inr (.inr x))) :: (bt_enum P 0 L).filter (fun q => !(q.1 == i.1) && !(q.1 + 1 == i.1 && q.2.category == 2))) → W p (bt_l P) e R s m args below meth c H locs cells slots Q (F0 m (pc + 1) ls' (r.map (bt_va P))) := fun ls' hl' =>
    k p e R s m args below meth c cells slots Q hC H locs ls' ⟨bt_lk_store1 hc hl', fun v hv => hD.2.1 v (List.mem_cons_of_mem _ hv), bt_okL_set hD.2.2.1 ho, hD.2.2.2⟩
  cases x with
  | none => exact lv_astore_nN hC.1.1 hC.1.2.1 hd rfl (bt_lk_has hD.1) hn rfl hk
  | some q => exact lv_astore_n hC.1.1 hC.1.2.1 hd rfl (bt_lk_has hD.1) hn rfl hk
theorem bt_s_iinc {i : Nat} {n : Int} {x v : Int32} (hd : decode mi.2.1 pc = .ok (.iinc i n, 3)) (hn : i < mi.2.2.1) (hv : Int32.ofInt n = v) (hi : bt_nth none L i = some (vi x)) (hc : bt_cut L i = false) (k : bt_Go P d mi K (pc + 3) (bt_set L i (some (vi (x + v)))) r σ) : bt_Go P d mi K pc L r σ := by
  intro p e R s m args below meth c cells slots Q hC H locs ls hD
  obtain ⟨j, hj⟩ := List.getElem?_of_mem (bt_mem_enum P L 0 i _ hi)
  rw [Nat.zero_add] at hj
  refine lv_iinc (k := j) hC.1.1 hC.1.2.1 hd (bt_lk_has hD.1) hj (v := x + v) (by rw [hv]) hn rfl (fun ls' hl' => ?_)
  exact k p e R s m args below meth c cells slots Q hC H locs ls' ⟨bt_lk_store1 hc hl', hD.2.1, bt_okL_set hD.2.2.1 (bt_oki _), hD.2.2.2⟩
theorem bt_s_iadd {x y : Int32} (hd : decode mi.2.1 pc = .ok (.iadd, 1)) (k : bt_Go P d mi K (pc + 1) L (vi (x + y) :: r) σ) : bt_Go P d mi K pc L (vi y :: vi x :: r) σ := by
  intro p e R s m args below meth c cells slots Q hC H locs ls hD
  exact lv_iadd hC.1.1 hC.1.2.1 hd (k p e R s m args below meth c cells slots Q hC H locs ls (bt_Dy_s hD (bt_ok1 trivial (fun v hv => hD.2.1 v (List.mem_cons_of_mem _ (List.mem_cons_of_mem _ hv))))))
theorem bt_s_isub {x y : Int32} (hd : decode mi.2.1 pc = .ok (.isub, 1)) (k : bt_Go P d mi K (pc + 1) L (vi (x - y) :: r) σ) : bt_Go P d mi K pc L (vi y :: vi x :: r) σ := by
  intro p e R s m args below meth c cells slots Q hC H locs ls hD
  exact lv_isub hC.1.1 hC.1.2.1 hd (k p e R s m args below meth c cells slots Q hC H locs ls (bt_Dy_s hD (bt_ok1 trivial (fun v hv => hD.2.1 v (List.mem_cons_of_mem _ (List.mem_cons_of_mem _ hv))))))
theorem bt_s_imul {x y : Int32} (hd : decode mi.2.1 pc = .ok (.imul, 1)) (k : bt_Go P d mi K (pc + 1) L (vi (x * y) :: r) σ) : bt_Go P d mi K pc L (vi y :: vi x :: r) σ := by
  intro p e R s m args below meth c cells slots Q hC H locs ls hD
  exact lv_imul hC.1.1 hC.1.2.1 hd (k p e R s m args below meth c cells slots Q hC H locs ls (bt_Dy_s hD (bt_ok1 trivial (fun v hv => hD.2.1 v (List.mem_cons_of_mem _ (List.mem_cons_of_mem _ hv))))))
theorem bt_s_iand {x y : Int32} (hd : decode mi.2.1 pc = .ok (.iand, 1)) (k : bt_Go P d mi K (pc + 1) L (vi (x &&& y) :: r) σ) : bt_Go P d mi K pc L (vi y :: vi x :: r) σ := by
  intro p e R s m args below meth c cells slots Q hC H locs ls hD
  exact lv_iand hC.1.1 hC.1.2.1 hd (k p e R s m args below meth c cells slots Q hC H locs ls (bt_Dy_s hD (bt_ok1 trivial (fun v hv => hD.2.1 v (List.mem_cons_of_mem _ (List.mem_cons_of_mem _ hv))))))
theorem bt_s_ior {x y : Int32} (hd : decode mi.2.1 pc = .ok (.ior, 1)) (k : bt_Go P d mi K (pc + 1) L (vi (x ||| y) :: r) σ) : bt_Go P d mi K pc L (vi y :: vi x :: r) σ := by
  intro p e R s m args below meth c cells slots Q hC H locs ls hD
  exact lv_ior hC.1.1 hC.1.2.1 hd (k p e R s m args below meth c cells slots Q hC H locs ls (bt_Dy_s hD (bt_ok1 trivial (fun v hv => hD.2.1 v (List.mem_cons_of_mem _ (List.mem_cons_of_mem _ hv))))))
theorem bt_s_ixor {x y : Int32} (hd : decode mi.2.1 pc = .ok (.ixor, 1)) (k : bt_Go P d mi K (pc + 1) L (vi (x ^^^ y) :: r) σ) : bt_Go P d mi K pc L (vi y :: vi x :: r) σ := by
  intro p e R s m args below meth c cells slots Q hC H locs ls hD
  exact lv_ixor hC.1.1 hC.1.2.1 hd (k p e R s m args below meth c cells slots Q hC H locs ls (bt_Dy_s hD (bt_ok1 trivial (fun v hv => hD.2.1 v (List.mem_cons_of_mem _ (List.mem_cons_of_mem _ hv))))))
theorem bt_s_ishl {x y : Int32} (hd : decode mi.2.1 pc = .ok (.ishl, 1)) (k : bt_Go P d mi K (pc + 1) L (vi (x <<< (y &&& 31)) :: r) σ) : bt_Go P d mi K pc L (vi y :: vi x :: r) σ := by
  intro p e R s m args below meth c cells slots Q hC H locs ls hD
  exact lv_ishl hC.1.1 hC.1.2.1 hd (k p e R s m args below meth c cells slots Q hC H locs ls (bt_Dy_s hD (bt_ok1 trivial (fun v hv => hD.2.1 v (List.mem_cons_of_mem _ (List.mem_cons_of_mem _ hv))))))
theorem bt_s_ishr {x y : Int32} (hd : decode mi.2.1 pc = .ok (.ishr, 1)) (k : bt_Go P d mi K (pc + 1) L (vi (x >>> (y &&& 31)) :: r) σ) : bt_Go P d mi K pc L (vi y :: vi x :: r) σ := by
  intro p e R s m args below meth c cells slots Q hC H locs ls hD
  exact lv_ishr hC.1.1 hC.1.2.1 hd (k p e R s m args below meth c cells slots Q hC H locs ls (bt_Dy_s hD (bt_ok1 trivial (fun v hv => hD.2.1 v (List.mem_cons_of_mem _ (List.mem_cons_of_mem _ hv))))))
theorem bt_s_idiv {x y : Int32} (hd : decode mi.2.1 pc = .ok (.idiv, 1)) (hy : ¬ y = 0) (k : bt_Go P d mi K (pc + 1) L (vi (x / y) :: r) σ) : bt_Go P d mi K pc L (vi y :: vi x :: r) σ := by
  intro p e R s m args below meth c cells slots Q hC H locs ls hD
  exact lv_idiv hC.1.1 hC.1.2.1 hd hy (k p e R s m args below meth c cells slots Q hC H locs ls (bt_Dy_s hD (bt_ok1 trivial (fun v hv => hD.2.1 v (List.mem_cons_of_mem _ (List.mem_cons_of_mem _ hv))))))
theorem bt_s_irem {x y : Int32} (hd : decode mi.2.1 pc = .ok (.irem, 1)) (hy : ¬ y = 0) (k : bt_Go P d mi K (pc + 1) L (vi (x - x / y * y) :: r) σ) : bt_Go P d mi K pc L (vi y :: vi x :: r) σ := by
  intro p e R s m args below meth c cells slots Q hC H locs ls hD
  exact lv_irem hC.1.1 hC.1.2.1 hd hy (k p e R s m args below meth c cells slots Q hC H locs ls (bt_Dy_s hD (bt_ok1 trivial (fun v hv => hD.2.1 v (List.mem_cons_of_mem _ (List.mem_cons_of_mem _ hv))))))
theorem bt_s_iushr {x y : Int32} (hd : decode mi.2.1 pc = .ok (.iushr, 1)) (k : bt_Go P d mi K (pc + 1) L (vi ((x.toUInt32 >>> (y.toUInt32 &&& Int32.toUInt32 31)).toInt32) :: r) σ) : bt_Go P d mi K pc L (vi y :: vi x :: r) σ := by
  intro p e R s m args below meth c cells slots Q hC H locs ls hD
  exact lv_iushr hC.1.1 hC.1.2.1 hd rfl (k p e R s m args below meth c cells slots Q hC H locs ls (bt_Dy_s hD (bt_ok1 trivial (fun v hv => hD.2.1 v (List.mem_cons_of_mem _ (List.mem_cons_of_mem _ hv))))))
theorem bt_s_ladd {x y : Int64} (hd : decode mi.2.1 pc = .ok (.ladd, 1)) (k : bt_Go P d mi K (pc + 1) L (vl (x + y) :: r) σ) : bt_Go P d mi K pc L (vl y :: vl x :: r) σ := by
  intro p e R s m args below meth c cells slots Q hC H locs ls hD
  exact lv_ladd hC.1.1 hC.1.2.1 hd (k p e R s m args below meth c cells slots Q hC H locs ls (bt_Dy_s hD (bt_ok1 trivial (fun v hv => hD.2.1 v (List.mem_cons_of_mem _ (List.mem_cons_of_mem _ hv))))))
theorem bt_s_land {x y : Int64} (hd : decode mi.2.1 pc = .ok (.land, 1)) (k : bt_Go P d mi K (pc + 1) L (vl (x &&& y) :: r) σ) : bt_Go P d mi K pc L (vl y :: vl x :: r) σ := by
  intro p e R s m args below meth c cells slots Q hC H locs ls hD
  exact lv_land hC.1.1 hC.1.2.1 hd (k p e R s m args below meth c cells slots Q hC H locs ls (bt_Dy_s hD (bt_ok1 trivial (fun v hv => hD.2.1 v (List.mem_cons_of_mem _ (List.mem_cons_of_mem _ hv))))))
theorem bt_s_lor {x y : Int64} (hd : decode mi.2.1 pc = .ok (.lor, 1)) (k : bt_Go P d mi K (pc + 1) L (vl (x ||| y) :: r) σ) : bt_Go P d mi K pc L (vl y :: vl x :: r) σ := by
  intro p e R s m args below meth c cells slots Q hC H locs ls hD
  exact lv_lor hC.1.1 hC.1.2.1 hd (k p e R s m args below meth c cells slots Q hC H locs ls (bt_Dy_s hD (bt_ok1 trivial (fun v hv => hD.2.1 v (List.mem_cons_of_mem _ (List.mem_cons_of_mem _ hv))))))
theorem bt_s_lcmp {x y : Int64} (hd : decode mi.2.1 pc = .ok (.lcmp, 1)) (k : bt_Go P d mi K (pc + 1) L (vi (lg_cmp x y) :: r) σ) : bt_Go P d mi K pc L (vl y :: vl x :: r) σ := by
  intro p e R s m args below meth c cells slots Q hC H locs ls hD
  exact W.lcmp hC.1.1 hC.1.2.1 hd (k p e R s m args below meth c cells slots Q hC H locs ls (bt_Dy_s hD (bt_ok1 trivial (fun v hv => hD.2.1 v (List.mem_cons_of_mem _ (List.mem_cons_of_mem _ hv))))))
theorem bt_s_lshl {x : Int64} {y : Int32} (hd : decode mi.2.1 pc = .ok (.lshl, 1)) (k : bt_Go P d mi K (pc + 1) L (vl (x <<< (y.toInt64 &&& 63)) :: r) σ) : bt_Go P d mi K pc L (vi y :: vl x :: r) σ := by
  intro p e R s m args below meth c cells slots Q hC H locs ls hD
  exact lv_lshl hC.1.1 hC.1.2.1 hd rfl (k p e R s m args below meth c cells slots Q hC H locs ls (bt_Dy_s hD (bt_ok1 trivial (fun v hv => hD.2.1 v (List.mem_cons_of_mem _ (List.mem_cons_of_mem _ hv))))))
theorem bt_s_ineg {x : Int32} (hd : decode mi.2.1 pc = .ok (.ineg, 1)) (k : bt_Go P d mi K (pc + 1) L (vi (-x) :: r) σ) : bt_Go P d mi K pc L (vi x :: r) σ := by
  intro p e R s m args below meth c cells slots Q hC H locs ls hD
  exact lv_ineg hC.1.1 hC.1.2.1 hd (k p e R s m args below meth c cells slots Q hC H locs ls (bt_Dy_s hD (bt_ok1 trivial (fun v hv => hD.2.1 v (List.mem_cons_of_mem _ hv)))))
theorem bt_s_i2l {x : Int32} (hd : decode mi.2.1 pc = .ok (.i2l, 1)) (k : bt_Go P d mi K (pc + 1) L (vl (x.toInt64) :: r) σ) : bt_Go P d mi K pc L (vi x :: r) σ := by
  intro p e R s m args below meth c cells slots Q hC H locs ls hD
  exact lv_i2l hC.1.1 hC.1.2.1 hd rfl (k p e R s m args below meth c cells slots Q hC H locs ls (bt_Dy_s hD (bt_ok1 trivial (fun v hv => hD.2.1 v (List.mem_cons_of_mem _ hv)))))
theorem bt_s_l2i {x : Int64} (hd : decode mi.2.1 pc = .ok (.l2i, 1)) (k : bt_Go P d mi K (pc + 1) L (vi (x.toInt32) :: r) σ) : bt_Go P d mi K pc L (vl x :: r) σ := by
  intro p e R s m args below meth c cells slots Q hC H locs ls hD
  exact lv_l2i hC.1.1 hC.1.2.1 hd rfl (k p e R s m args below meth c cells slots Q hC H locs ls (bt_Dy_s hD (bt_ok1 trivial (fun v hv => hD.2.1 v (List.mem_cons_of_mem _ hv)))))
theorem bt_s_i2b {x : Int32} (hd : decode mi.2.1 pc = .ok (.i2b, 1)) (k : bt_Go P d mi K (pc + 1) L (vi (x.toInt8.toInt32) :: r) σ) : bt_Go P d mi K pc L (vi x :: r) σ := by
  intro p e R s m args below meth c cells slots Q hC H locs ls hD
  exact lv_i2b hC.1.1 hC.1.2.1 hd rfl (k p e R s m args below meth c cells slots Q hC H locs ls (bt_Dy_s hD (bt_ok1 trivial (fun v hv => hD.2.1 v (List.mem_cons_of_mem _ hv)))))
theorem bt_s_i2s {x : Int32} (hd : decode mi.2.1 pc = .ok (.i2s, 1)) (k : bt_Go P d mi K (pc + 1) L (vi (x.toInt16.toInt32) :: r) σ) : bt_Go P d mi K pc L (vi x :: r) σ := by
  intro p e R s m args below meth c cells slots Q hC H locs ls hD
  exact lv_i2s hC.1.1 hC.1.2.1 hd rfl (k p e R s m args below meth c cells slots Q hC H locs ls (bt_Dy_s hD (bt_ok1 trivial (fun v hv => hD.2.1 v (List.mem_cons_of_mem _ hv)))))
theorem bt_s_dup {v : av_T} (hd : decode mi.2.1 pc = .ok (.dup, 1)) (hv : bt_cat v = 1) (k : bt_Go P d mi K (pc + 1) L (v :: v :: r) σ) : bt_Go P d mi K pc L (v :: r) σ := by
  intro p e R s m args below meth c cells slots Q hC H locs ls hD
  exact lv_dup hC.1.1 hC.1.2.1 hd (by rw [bt_cat_va, hv]) (k p e R s m args below meth c cells slots Q hC H locs ls (bt_Dy_s hD (bt_ok1 (hD.2.1 _ List.mem_cons_self) hD.2.1)))
theorem bt_s_dup2 {v w : av_T} (hd : decode mi.2.1 pc = .ok (.dup2, 1)) (hv : bt_cat v = 1) (hw : bt_cat w = 1) (k : bt_Go P d mi K (pc + 1) L (v :: w :: v :: w :: r) σ) : bt_Go P d mi K pc L (v :: w :: r) σ := by
  intro p e R s m args below meth c cells slots Q hC H locs ls hD
  exact lv_dup2_11 hC.1.1 hC.1.2.1 hd (by rw [bt_cat_va, hv]) (by rw [bt_cat_va, hw]) (k p e R s m args below meth c cells slots Q hC H locs ls (bt_Dy_s hD (bt_ok1 (hD.2.1 _ List.mem_cons_self) (bt_ok1 (hD.2.1 _ (List.mem_cons_of_mem _ List.mem_cons_self)) hD.2.1))))
theorem bt_s_pop {v : av_T} (hd : decode mi.2.1 pc = .ok (.pop, 1)) (hv : bt_cat v = 1) (k : bt_Go P d mi K (pc + 1) L r σ) : bt_Go P d mi K pc L (v :: r) σ := by
  intro p e R s m args below meth c cells slots Q hC H locs ls hD
  exact lv_pop hC.1.1 hC.1.2.1 hd (by rw [bt_cat_va, hv]) (k p e R s m args below meth c cells slots Q hC H locs ls (bt_Dy_s hD (fun v hv => hD.2.1 v (List.mem_cons_of_mem _ hv))))
theorem bt_s_goto {off : Int} {t : Nat} (hd : decode mi.2.1 pc = .ok (.goto off, 3)) (ht : (pc : Int) + off = (t : Int)) (k : bt_Go P d mi K t L r σ) : bt_Go P d mi K pc L r σ := by
  intro p e R s m args below meth c cells slots Q hC H locs ls hD
  exact lv_goto hC.1.1 hC.1.2.1 hd ht (k p e R s m args below meth c cells slots Q hC H locs ls hD)
theorem bt_s_if_eq {x : Int32} {off : Int} {t : Nat} (hd : decode mi.2.1 pc = .ok (.ifCond .eq off, 3)) (ht : (pc : Int) + off = (t : Int)) (k1 : x = 0 → bt_Go P d mi K t L r σ) (k2 : ¬ x = 0 → bt_Go P d mi K (pc + 3) L r σ) : bt_Go P d mi K pc L (vi x :: r) σ := by
  intro p e R s m args below meth c cells slots Q hC H locs ls hD
  have hD2 := bt_Dy_s hD (fun v hv => hD.2.1 v (List.mem_cons_of_mem _ hv))
  exact lv_if_eq hC.1.1 hC.1.2.1 hd ht (fun h => k1 h p e R s m args below meth c cells slots Q hC H locs ls hD2) (fun h => k2 h p e R s m args below meth c cells slots Q hC H locs ls hD2)
theorem bt_s_icmp_eq {x y : Int32} {off : Int} {t : Nat} (hd : decode mi.2.1 pc = .ok (.if_icmp .eq off, 3)) (ht : (pc : Int) + off = (t : Int)) (k1 : x = y → bt_Go P d mi K t L r σ) (k2 : ¬ x = y → bt_Go P d mi K (pc + 3) L r σ) : bt_Go P d mi K pc L (vi y :: vi x :: r) σ := by
  intro p e R s m args below meth c cells slots Q hC H locs ls hD
  have hD2 := bt_Dy_s hD (fun v hv => hD.2.1 v (List.mem_cons_of_mem _ (List.mem_cons_of_mem _ hv)))
  exact lv_icmp_eq hC.1.1 hC.1.2.1 hd ht (fun h => k1 h p e R s m args below meth c cells slots Q hC H locs ls hD2) (fun h => k2 h p e R s m args below meth c cells slots Q hC H locs ls hD2)
theorem bt_s_if_ne {x : Int32} {off : Int} {t : Nat} (hd : decode mi.2.1 pc = .ok (.ifCond .ne off, 3)) (ht : (pc : Int) + off = (t : Int)) (k1 : ¬ x = 0 → bt_Go P d mi K t L r σ) (k2 : x = 0 → bt_Go P d mi K (pc + 3) L r σ) : bt_Go P d mi K pc L (vi x :: r) σ := by
  intro p e R s m args below meth c cells slots Q hC H locs ls hD
  have hD2 := bt_Dy_s hD (fun v hv => hD.2.1 v (List.mem_cons_of_mem _ hv))
  exact lv_if_ne hC.1.1 hC.1.2.1 hd ht (fun h => k1 h p e R s m args below meth c cells slots Q hC H locs ls hD2) (fun h => k2 h p e R s m args below meth c cells slots Q hC H locs ls hD2)
theorem bt_s_icmp_ne {x y : Int32} {off : Int} {t : Nat} (hd : decode mi.2.1 pc = .ok (.if_icmp .ne off, 3)) (ht : (pc : Int) + off = (t : Int)) (k1 : ¬ x = y → bt_Go P d mi K t L r σ) (k2 : x = y → bt_Go P d mi K (pc + 3) L r σ) : bt_Go P d mi K pc L (vi y :: vi x :: r) σ := by
  intro p e R s m args below meth c cells slots Q hC H locs ls hD
  have hD2 := bt_Dy_s hD (fun v hv => hD.2.1 v (List.mem_cons_of_mem _ (List.mem_cons_of_mem _ hv)))
  exact lv_icmp_ne hC.1.1 hC.1.2.1 hd ht (fun h => k1 h p e R s m args below meth c cells slots Q hC H locs ls hD2) (fun h => k2 h p e R s m args below meth c cells slots Q hC H locs ls hD2)
theorem bt_s_if_lt {x : Int32} {off : Int} {t : Nat} (hd : decode mi.2.1 pc = .ok (.ifCond .lt off, 3)) (ht : (pc : Int) + off = (t : Int)) (k1 : x < 0 → bt_Go P d mi K t L r σ) (k2 : ¬ x < 0 → bt_Go P d mi K (pc + 3) L r σ) : bt_Go P d mi K pc L (vi x :: r) σ := by
  intro p e R s m args below meth c cells slots Q hC H locs ls hD
  have hD2 := bt_Dy_s hD (fun v hv => hD.2.1 v (List.mem_cons_of_mem _ hv))
  exact lv_if_lt hC.1.1 hC.1.2.1 hd ht (fun h => k1 h p e R s m args below meth c cells slots Q hC H locs ls hD2) (fun h => k2 h p e R s m args below meth c cells slots Q hC H locs ls hD2)
theorem bt_s_icmp_lt {x y : Int32} {off : Int} {t : Nat} (hd : decode mi.2.1 pc = .ok (.if_icmp .lt off, 3)) (ht : (pc : Int) + off = (t : Int)) (k1 : x < y → bt_Go P d mi K t L r σ) (k2 : ¬ x < y → bt_Go P d mi K (pc + 3) L r σ) : bt_Go P d mi K pc L (vi y :: vi x :: r) σ := by
  intro p e R s m args below meth c cells slots Q hC H locs ls hD
  have hD2 := bt_Dy_s hD (fun v hv => hD.2.1 v (List.mem_cons_of_mem _ (List.mem_cons_of_mem _ hv)))
  exact lv_icmp_lt hC.1.1 hC.1.2.1 hd ht (fun h => k1 h p e R s m args below meth c cells slots Q hC H locs ls hD2) (fun h => k2 h p e R s m args below meth c cells slots Q hC H locs ls hD2)
theorem bt_s_if_ge {x : Int32} {off : Int} {t : Nat} (hd : decode mi.2.1 pc = .ok (.ifCond .ge off, 3)) (ht : (pc : Int) + off = (t : Int)) (k1 : 0 ≤ x → bt_Go P d mi K t L r σ) (k2 : ¬ 0 ≤ x → bt_Go P d mi K (pc + 3) L r σ) : bt_Go P d mi K pc L (vi x :: r) σ := by
  intro p e R s m args below meth c cells slots Q hC H locs ls hD
  have hD2 := bt_Dy_s hD (fun v hv => hD.2.1 v (List.mem_cons_of_mem _ hv))
  exact lv_if_ge hC.1.1 hC.1.2.1 hd ht (fun h => k1 h p e R s m args below meth c cells slots Q hC H locs ls hD2) (fun h => k2 h p e R s m args below meth c cells slots Q hC H locs ls hD2)
theorem bt_s_icmp_ge {x y : Int32} {off : Int} {t : Nat} (hd : decode mi.2.1 pc = .ok (.if_icmp .ge off, 3)) (ht : (pc : Int) + off = (t : Int)) (k1 : y ≤ x → bt_Go P d mi K t L r σ) (k2 : ¬ y ≤ x → bt_Go P d mi K (pc + 3) L r σ) : bt_Go P d mi K pc L (vi y :: vi x :: r) σ := by
  intro p e R s m args below meth c cells slots Q hC H locs ls hD
  have hD2 := bt_Dy_s hD (fun v hv => hD.2.1 v (List.mem_cons_of_mem _ (List.mem_cons_of_mem _ hv)))
  exact lv_icmp_ge hC.1.1 hC.1.2.1 hd ht (fun h => k1 h p e R s m args below meth c cells slots Q hC H locs ls hD2) (fun h => k2 h p e R s m args below meth c cells slots Q hC H locs ls hD2)
theorem bt_s_if_gt {x : Int32} {off : Int} {t : Nat} (hd : decode mi.2.1 pc = .ok (.ifCond .gt off, 3)) (ht : (pc : Int) + off = (t : Int)) (k1 : 0 < x → bt_Go P d mi K t L r σ) (k2 : ¬ 0 < x → bt_Go P d mi K (pc + 3) L r σ) : bt_Go P d mi K pc L (vi x :: r) σ := by
  intro p e R s m args below meth c cells slots Q hC H locs ls hD
  have hD2 := bt_Dy_s hD (fun v hv => hD.2.1 v (List.mem_cons_of_mem _ hv))
  exact lv_if_gt hC.1.1 hC.1.2.1 hd ht (fun h => k1 h p e R s m args below meth c cells slots Q hC H locs ls hD2) (fun h => k2 h p e R s m args below meth c cells slots Q hC H locs ls hD2)
theorem bt_s_icmp_gt {x y : Int32} {off : Int} {t : Nat} (hd : decode mi.2.1 pc = .ok (.if_icmp .gt off, 3)) (ht : (pc : Int) + off = (t : Int)) (k1 : y < x → bt_Go P d mi K t L r σ) (k2 : ¬ y < x → bt_Go P d mi K (pc + 3) L r σ) : bt_Go P d mi K pc L (vi y :: vi x :: r) σ := by
  intro p e R s m args below meth c cells slots Q hC H locs ls hD
  have hD2 := bt_Dy_s hD (fun v hv => hD.2.1 v (List.mem_cons_of_mem _ (List.mem_cons_of_mem _ hv)))
  exact lv_icmp_gt hC.1.1 hC.1.2.1 hd ht (fun h => k1 h p e R s m args below meth c cells slots Q hC H locs ls hD2) (fun h => k2 h p e R s m args below meth c cells slots Q hC H locs ls hD2)
theorem bt_s_if_le {x : Int32} {off : Int} {t : Nat} (hd : decode mi.2.1 pc = .ok (.ifCond .le off, 3)) (ht : (pc : Int) + off = (t : Int)) (k1 : x ≤ 0 → bt_Go P d mi K t L r σ) (k2 : ¬ x ≤ 0 → bt_Go P d mi K (pc + 3) L r σ) : bt_Go P d mi K pc L (vi x :: r) σ := by
  intro p e R s m args below meth c cells slots Q hC H locs ls hD
  have hD2 := bt_Dy_s hD (fun v hv => hD.2.1 v (List.mem_cons_of_mem _ hv))
  exact lv_if_le hC.1.1 hC.1.2.1 hd ht (fun h => k1 h p e R s m args below meth c cells slots Q hC H locs ls hD2) (fun h => k2 h p e R s m args below meth c cells slots Q hC H locs ls hD2)
theorem bt_s_icmp_le {x y : Int32} {off : Int} {t : Nat} (hd : decode mi.2.1 pc = .ok (.if_icmp .le off, 3)) (ht : (pc : Int) + off = (t : Int)) (k1 : x ≤ y → bt_Go P d mi K t L r σ) (k2 : ¬ x ≤ y → bt_Go P d mi K (pc + 3) L r σ) : bt_Go P d mi K pc L (vi y :: vi x :: r) σ := by
  intro p e R s m args below meth c cells slots Q hC H locs ls hD
  have hD2 := bt_Dy_s hD (fun v hv => hD.2.1 v (List.mem_cons_of_mem _ (List.mem_cons_of_mem _ hv)))
  exact lv_icmp_le hC.1.1 hC.1.2.1 hd ht (fun h => k1 h p e R s m args below meth c cells slots Q hC H locs ls hD2) (fun h => k2 h p e R s m args below meth c cells slots Q hC H locs ls hD2)
theorem bt_s_ifnull {x : Option (Nat × Nat)} {off : Int} {t : Nat} (hd : decode mi.2.1 pc = .ok (.ifnull off, 3)) (ht : (pc : Int) + off = (t : Int)) (k1 : x = none → bt_Go P d mi K t L r σ) (k2 : ¬ x = none → bt_Go P d mi K (pc + 3) L r σ) : bt_Go P d mi K pc L (.inr (.inr x) :: r) σ := by
  intro p e R s m args below meth c cells slots Q hC H locs ls hD
  have hD2 := bt_Dy_s hD (fun v hv => hD.2.1 v (List.mem_cons_of_mem _ hv))
  cases x with
  | none => exact lv_ifnullN hC.1.1 hC.1.2.1 hd ht (k1 rfl p e R s m args below meth c cells slots Q hC H locs ls hD2)
  | some q => exact lv_ifnull hC.1.1 hC.1.2.1 hd (k2 (fun z => by cases z) p e R s m args below meth c cells slots Q hC H locs ls hD2)
theorem bt_s_ifnonnull {x : Option (Nat × Nat)} {off : Int} {t : Nat} (hd : decode mi.2.1 pc = .ok (.ifnonnull off, 3)) (ht : (pc : Int) + off = (t : Int)) (k1 : ¬ x = none → bt_Go P d mi K t L r σ) (k2 : x = none → bt_Go P d mi K (pc + 3) L r σ) : bt_Go P d mi K pc L (.inr (.inr x) :: r) σ := by
  intro p e R s m args below meth c cells slots Q hC H locs ls hD
  have hD2 := bt_Dy_s hD (fun v hv => hD.2.1 v (List.mem_cons_of_mem _ hv))
  cases x with
  | none => exact lv_ifnonnullN hC.1.1 hC.1.2.1 hd (k2 rfl p e R s m args below meth c cells slots Q hC H locs ls hD2)
  | some q => exact lv_ifnonnull hC.1.1 hC.1.2.1 hd ht (k1 (fun z => by cases z) p e R s m args below meth c cells slots Q hC H locs ls hD2)
end BTS
end
section
/-! THE ABSTRACT MACHINE IS SOUND, 3: the world's cells -/
theorem bt_valid {k i : Nat} (h : bt_ok (k, i)) (hk : k < 100) : i < bt_cnt k ∧ k < 70 := by
  have h1 : i < bt_cnt k := by
    rcases h with h | h
    · exact h
    · exact absurd h.1 (by show ¬ 100 ≤ k; omega)
  refine ⟨h1, ?_⟩
  rcases Nat.lt_or_ge k 70 with q | q
  · exact q
  · rw [bt_cnt_big k q] at h1; omega
theorem bt_wl_at (P : bt_PT) (σ : st_T) {k i : Nat} (h : i < bt_cnt k ∧ k < 70) : (bt_wl P σ)[bt_bas k + i]? = some (bt_ad P k i, bt_ent P σ (k, i)) := by
  unfold bt_wl
  rw [List.getElem?_map, bt_pos k h.2 i h.1]
  rfl
theorem bt_D_of {P : bt_PT} (h : bt_okP P) (σ : st_T) : va_D (bt_A P) (bt_wl P σ) := by
  have key : ∀ (n : Nat) (q : Nat × va_E), (bt_wl P σ)[n]? = some q → ∃ a, bt_NMS[n]? = some a ∧ q = (bt_ad P a.1 a.2, bt_ent P σ a) := by
    intro n q hq
    unfold bt_wl at hq
    rw [List.getElem?_map] at hq
    cases ha : bt_NMS[n]? with
    | none => rw [ha] at hq; cases hq
    | some a => rw [ha] at hq; cases hq; exact ⟨a, rfl, rfl⟩
  have hn : ∀ (n : Nat) (a : Nat × Nat), bt_NMS[n]? = some a → bt_bas a.1 + a.2 = n := by
    intro n a ha
    have hlt : n < 128 := by
      have := (List.getElem?_eq_some_iff.mp ha).1
      rw [bt_NMS_len] at this; exact this
    have h1 := bt_pos_inv n hlt
    rw [ha] at h1
    exact Nat.eq_of_beq_eq_true h1
  refine ⟨fun i j x y hi hj hxy => ?_, fun n q hq => ?_⟩
  · obtain ⟨a, h1, rfl⟩ := key i x hi
    obtain ⟨b, h2, rfl⟩ := key j y hj
    have e := h.1 a (List.mem_of_getElem? h1) b (List.mem_of_getElem? h2) hxy
    subst e
    rw [← hn i a h1, ← hn j a h2]
  · obtain ⟨a, h1, rfl⟩ := key n q hq
    exact h.2 a (List.mem_of_getElem? h1)
theorem bt_ent_congr (P : bt_PT) {σ σ' : st_T} {q : Nat × Nat} (h1 : σ.1 q.1 q.2 = σ'.1 q.1 q.2) (h2 : σ.2 q.1 q.2 = σ'.2 q.1 q.2) : bt_ent P σ q = bt_ent P σ' q := by
  have h3 : ∀ c, bt_fv P σ.1 c q.1 q.2 = bt_fv P σ'.1 c q.1 q.2 := by
    intro c
    funext j
    unfold bt_fv
    rw [h1]
  unfold bt_ent
  rw [h1, h2]
  split <;> first | rfl | (rw [h3])
theorem bt_wl_set (P : bt_PT) {σ σ' : st_T} {k i : Nat} (h : i < bt_cnt k ∧ k < 70) (h1 : ∀ a b, ¬ (a = k ∧ b = i) → σ.1 a b = σ'.1 a b) (h2 : ∀ a b, ¬ (a = k ∧ b = i) → σ.2 a b = σ'.2 a b) {e : va_E} (he : e = bt_ent P σ' (k, i)) : (bt_wl P σ).set (bt_bas k + i) (bt_ad P k i, e) = bt_wl P σ' := by
  subst he
  have hp := bt_pos k h.2 i h.1
  apply List.ext_getElem?
  intro n
  by_cases hn : n = bt_bas k + i
  · subst hn
    have hl : bt_bas k + i < (bt_wl P σ).length := by
      unfold bt_wl; rw [List.length_map]; exact (List.getElem?_eq_some_iff.mp hp).1
    rw [List.getElem?_set_self hl, bt_wl_at P σ' h]
  · rw [List.getElem?_set_ne (fun z => hn z.symm)]
    unfold bt_wl
    rw [List.getElem?_map, List.getElem?_map]
    cases ha : bt_NMS[n]? with
    | none => rfl
    | some a =>
      have hlt : n < 128 := by
        have := (List.getElem?_eq_some_iff.mp ha).1
        rw [bt_NMS_len] at this; exact this
      have hz := bt_pos_inv n hlt
      rw [ha] at hz
      have hz := Nat.eq_of_beq_eq_true hz
      have hne : ¬ (a.1 = k ∧ a.2 = i) := fun z => hn (by rw [← hz, z.1, z.2])
      show some (bt_ad P a.1 a.2, bt_ent P σ a) = some (bt_ad P a.1 a.2, bt_ent P σ' a)
      rw [bt_ent_congr P (h1 _ _ hne) (h2 _ _ hne)]
theorem ui_ne {I : m_I} {k i j : Nat} {v : Int32} {a b : Nat} (h : ¬ (a = k ∧ b = i)) : I a b = ui I k i j v a b := by
  funext c
  unfold ui
  by_cases h1 : a = k
  · have h2 : ¬ b = i := fun z => h ⟨h1, z⟩
    rw [if_pos h1, if_neg h2]
  · rw [if_neg h1]
theorem ul_ne {I : m_L} {k i j : Nat} {v : Int64} {a b : Nat} (h : ¬ (a = k ∧ b = i)) : I a b = ul I k i j v a b := by
  funext c
  unfold ul
  by_cases h1 : a = k
  · have h2 : ¬ b = i := fun z => h ⟨h1, z⟩
    rw [if_pos h1, if_neg h2]
  · rw [if_neg h1]
theorem uc_ne {I : m_I} {k i : Nat} {f : Nat → Int32} {a b : Nat} (h : ¬ (a = k ∧ b = i)) : I a b = uc I k i f a b := by
  funext c
  unfold uc
  by_cases h1 : a = k
  · have h2 : ¬ b = i := fun z => h ⟨h1, z⟩
    rw [if_pos h1, if_neg h2]
  · rw [if_neg h1]
theorem ud_ne {I : m_L} {k i : Nat} {f : Nat → Int64} {a b : Nat} (h : ¬ (a = k ∧ b = i)) : I a b = ud I k i f a b := by
  funext c
  unfold ud
  by_cases h1 : a = k
  · have h2 : ¬ b = i := fun z => h ⟨h1, z⟩
    rw [if_pos h1, if_neg h2]
  · rw [if_neg h1]
theorem ui_row (I : m_I) (k i j : Nat) (v : Int32) : ui I k i j v k i = upd (I k i) j v := by
  funext c
  simp [ui, upd]
theorem ul_row (I : m_L) (k i j : Nat) (v : Int64) : ul I k i j v k i = vp_updL (I k i) j v := by
  funext c
  simp [ul, vp_updL]
theorem uc_row (I : m_I) (k i : Nat) (f : Nat → Int32) : uc I k i f k i = f := by
  funext c
  simp [uc]
theorem ud_row (I : m_L) (k i : Nat) (f : Nat → Int64) : ud I k i f k i = f := by
  funext c
  simp [ud]
theorem bt_ent0 (P : bt_PT) (σ : st_T) {k i c : Nat} (h : bt_shp k = (0, c)) : bt_ent P σ (k, i) = .inr (c, (List.range (bt_nf c)).map (bt_fv P σ.1 c k i)) := by
  unfold bt_ent; rw [h]; rfl
theorem bt_ent1 (P : bt_PT) (σ : st_T) {k i n : Nat} (h : bt_shp k = (1, n)) : bt_ent P σ (k, i) = .inl (bt_dA P 0, n, .inl (σ.1 k i)) := by
  unfold bt_ent; rw [h]; rfl
theorem bt_ent2 (P : bt_PT) (σ : st_T) {k i n : Nat} (h : bt_shp k = (2, n)) : bt_ent P σ (k, i) = .inl (bt_dA P 1, n, .inr (.inl (σ.2 k i))) := by
  unfold bt_ent; rw [h]; rfl
theorem bt_ent3 (P : bt_PT) (σ : st_T) {k i n : Nat} (h : bt_shp k = (3, n)) : bt_ent P σ (k, i) = .inl (bt_dA P 2, n, .inl (σ.1 k i)) := by
  unfold bt_ent; rw [h]; rfl
theorem bt_ent4 (P : bt_PT) (σ : st_T) {k i n : Nat} (h : bt_shp k = (4, n)) : bt_ent P σ (k, i) = .inl (bt_dA P 3, n, .inl (σ.1 k i)) := by
  unfold bt_ent; rw [h]; rfl
theorem bt_ent5 (P : bt_PT) (σ : st_T) {k i n : Nat} (h : bt_shp k = (5, n)) : bt_ent P σ (k, i) = .inl (bt_dA P 4, n, .inr (.inr (.inr (.inr (fun j => (bt_RF k i j).map (bt_adr P)))))) := by
  unfold bt_ent; rw [h]; rfl
theorem bt_ent6 (P : bt_PT) (σ : st_T) {k i n : Nat} (h : bt_shp k = (6, n)) : bt_ent P σ (k, i) = .inl (bt_dA P 5, n, .inr (.inr (.inr (.inr (fun j => (bt_RF k i j).map (bt_adr P)))))) := by
  unfold bt_ent; rw [h]; rfl
theorem bt_shp_eq {k t : Nat} (h : (bt_shp k).1 = t) : bt_shp k = (t, (bt_shp k).2) := by rw [← h]
theorem bt_adr_lt (P : bt_PT) {k i : Nat} (h : k < 100) : bt_adr P (k, i) = bt_ad P k i := by
  unfold bt_adr; rw [if_neg (by show ¬ 100 ≤ k; omega)]
theorem bt_va_rf (P : bt_PT) (x : Option (Nat × Nat)) : va_rf (x.map (bt_adr P)) = bt_va P (.inr (.inr x)) := by
  cases x <;> rfl
theorem bt_RF_val {k i j : Nat} (h : i < bt_cnt k ∧ k < 70) (hj : j < (if (bt_shp k).1 = 0 then bt_nf (bt_shp k).2 else (bt_shp k).2)) : bt_okv (.inr (.inr (bt_RF k i j))) := by
  have h1 := bt_RF_ok k h.2 i h.1 j hj
  refine bt_oka (fun q hq => ?_)
  rw [hq] at h1
  exact Or.inl (Nat.le_of_ble_eq_true h1)
theorem bt_rset {f : Nat → Value} {n j : Nat} {v : Value} : ((List.range n).map f).set j v = (List.range n).map (fun t => if t = j then v else f t) := by
  apply List.ext_getElem?
  intro t
  rw [List.getElem?_map]
  by_cases ht : t = j
  · subst ht
    by_cases hl : t < n
    · rw [List.getElem?_set_self (by simpa using hl), List.getElem?_range hl]
      simp
    · rw [List.getElem?_eq_none (by simp; omega), List.getElem?_eq_none (by simp; omega)]
      rfl
  · rw [List.getElem?_set_ne (fun z => ht z.symm), List.getElem?_map]
    by_cases hl : t < n
    · rw [List.getElem?_range hl]
      simp [ht]
    · rw [List.getElem?_eq_none (by simp; omega)]
      rfl
theorem bt_fv_put (P : bt_PT) (I : m_I) {c k i j : Nat} {x : Int32} (hj : bt_fk c j ≠ 2) : (fun t => if t = j then Value.int x else bt_fv P I c k i t) = bt_fv P (ui I k i j x) c k i := by
  funext t
  unfold bt_fv
  rw [ui_row]
  by_cases ht : t = j
  · subst ht
    rw [if_pos rfl, if_neg hj]
    simp [upd]
  · rw [if_neg ht]
    simp [upd, ht]
section BTH
variable {P : bt_PT} {d : Nat} {mi : bt_MI} {K : Option av_T → st_T → Prop} {pc : Nat} {L : List (Option av_T)} {r : List av_T} {σ : st_T}
theorem bt_dr1 {v : av_T} (h : ∀ w ∈ v :: r, bt_okv w) : ∀ w ∈ r, bt_okv w := fun w hw => h w (List.mem_cons_of_mem _ hw)
theorem bt_s_getfield {idx c j k i : Nat} (hd : decode mi.2.1 pc = .ok (.getfield idx, 3)) (hl : bt_lkF mi.1.cls idx c j false) (hk : k < 100) (hs : bt_shp k = (0, c)) (hj : j < bt_nf c)
    (k1 : bt_fk c j = 2 → bt_Go P d mi K (pc + 3) L (.inr (.inr (bt_RF k i j)) :: r) σ) (k2 : ¬ bt_fk c j = 2 → bt_Go P d mi K (pc + 3) L (vi (σ.1 k i j) :: r) σ) : bt_Go P d mi K pc L (vr k i :: r) σ := by
  intro p e R s m args below meth c0 cells slots Q hC H locs ls hD
  obtain ⟨hx, hb, hml, hr, hlo, hown, hts, hK, hSF, hokP, hNW⟩ := id hC.1
  obtain ⟨C, T, N, ty, hc, hN, hin, hty, hnm, hT, hlink, -⟩ := hl
  have hv := bt_valid (hD.2.1 _ List.mem_cons_self) hk
  have he := bt_wl_at P σ hv
  rw [bt_ent0 P σ hs] at he
  have hP := hD.2.2.2.1
  show W p (bt_l P) e R s m args below meth c0 H locs cells slots Q (F0 m pc ls (Value.ref (bt_adr P (k, i)) :: r.map (bt_va P)))
  rw [bt_adr_lt P hk]
  have hfs : ((List.range (bt_nf c)).map (bt_fv P σ.1 c k i))[j]? = some (bt_fv P σ.1 c k i j) := by
    rw [List.getElem?_map, List.getElem?_range hj]; rfl
  refine va_get (D := bt_D P) (ci := c) (C := C) (T := T) (N := N) hx hb hts hin hown hK hP _ he hc j (by omega) (hts _ hlink) (by rw [hT]; exact fun _ h => h) hfs hd ?_
  by_cases h2 : bt_fk c j = 2
  · have hz := k1 h2 p e R s m args below meth c0 cells slots Q hC H locs ls (bt_Dy_s hD (bt_ok1 (bt_RF_val hv (by rw [hs]; exact hj)) (bt_dr1 hD.2.1)))
    have e1 : bt_fv P σ.1 c k i j = bt_va P (.inr (.inr (bt_RF k i j))) := by
      unfold bt_fv; rw [if_pos h2, bt_va_rf]
    rw [e1]
    exact hz
  · have hz := k2 h2 p e R s m args below meth c0 cells slots Q hC H locs ls (bt_Dy_s hD (bt_ok1 (bt_oki _) (bt_dr1 hD.2.1)))
    have e1 : bt_fv P σ.1 c k i j = bt_va P (vi (σ.1 k i j)) := by
      unfold bt_fv; rw [if_neg h2]; rfl
    rw [e1]
    exact hz
theorem bt_s_putfield {idx c j k i : Nat} {x : Int32} (hd : decode mi.2.1 pc = .ok (.putfield idx, 3)) (hl : bt_lkF mi.1.cls idx c j true) (hk : k < 100) (hs : bt_shp k = (0, c)) (hj : j < bt_nf c)
    (hz : bt_fk c j = 0 ∨ (bt_fk c j = 1 ∧ (x = 0 ∨ x = 1))) (k1 : bt_Go P d mi K (pc + 3) L r (ui σ.1 k i j x, σ.2)) : bt_Go P d mi K pc L (vi x :: vr k i :: r) σ := by
  intro p e R s m args below meth c0 cells slots Q hC H locs ls hD
  obtain ⟨hx, hb, hml, hr, hlo, hown, hts, hK, hSF, hokP, hNW⟩ := id hC.1
  obtain ⟨C, T, N, ty, hc, hN, hin, hty, hnm, hT, hlink, hput⟩ := hl
  obtain ⟨hfin, hkind⟩ := hput rfl
  have hv := bt_valid (hD.2.1 _ (List.mem_cons_of_mem _ List.mem_cons_self)) hk
  have he := bt_wl_at P σ hv
  rw [bt_ent0 P σ hs] at he
  have hP := hD.2.2.2.1
  show W p (bt_l P) e R s m args below meth c0 H locs cells slots Q (F0 m pc ls (Value.int x :: Value.ref (bt_adr P (k, i)) :: r.map (bt_va P)))
  rw [bt_adr_lt P hk]
  have hnar : narrow (ty j) (.int x) = .int x ∧ fits (ty j) (.int x) = true := by
    rcases hkind with ⟨h1, h2⟩ | ⟨h1, h2⟩
    · rw [h2]; exact ⟨rfl, rfl⟩
    · rw [h2]
      rcases hz with h3 | ⟨-, h3⟩
      · rw [h1] at h3; cases h3
      · rcases h3 with rfl | rfl <;> exact ⟨rfl, rfl⟩
  have hne : bt_fk c j ≠ 2 := by
    rcases hkind with ⟨h1, h2⟩ | ⟨h1, h2⟩ <;> rw [h1] <;> decide
  refine va_put (D := bt_D P) (ci := c) (C := C) (T := T) (N := N) hx hb hts hin ty hty hnm hown hK hP (bt_D_of hokP σ) hD.2.2.2.2 _ he hc j (by omega) (hts _ hlink) (by rw [hT]; exact fun _ h => h) hfin (hty j (by omega)) hnar.1 hnar.2 (by simpa using hj) hd (fun H1 locs1 hP1 _ hS1 => ?_)
  rw [bt_rset, bt_fv_put P σ.1 hne, bt_wl_set P (σ := σ) (σ' := (ui σ.1 k i j x, σ.2)) hv (fun a b h => ui_ne h) (fun _ _ _ => rfl) (bt_ent0 P _ hs).symm] at hP1
  exact k1 p e R s m args below meth c0 cells slots Q hC H1 locs1 ls ⟨hD.1, bt_dr1 (bt_dr1 hD.2.1), hD.2.2.1, hP1, hS1⟩
theorem bt_s_getstatic {idx j : Nat} (hd : decode mi.2.1 pc = .ok (.getstatic idx, 3)) (hl : bt_lkG mi.1.cls idx j) (k1 : bt_Go P d mi K (pc + 3) L (vr (100 + j) 0 :: r) σ) : bt_Go P d mi K pc L r σ := by
  intro p e R s m args below meth c0 cells slots Q hC H locs ls hD
  obtain ⟨hx, hb, hml, hr, hlo, hown, hts, hK, hSF, hokP, hNW⟩ := id hC.1
  obtain ⟨hj, hlink⟩ := hl
  refine va_gets hx hb (hSF.1 j hj) hD.2.2.2.2 hown (hts _ hlink) (fun _ h => h) hd ?_
  have hz := k1 p e R s m args below meth c0 cells slots Q hC H locs ls (bt_Dy_s hD (bt_ok1 (Or.inr ⟨by show 100 ≤ 100 + j; omega, by show 100 + j < 104; omega⟩) hD.2.1))
  have e1 : bt_va P (vr (100 + j) 0) = .ref (bt_stA P j) := by
    show Value.ref (bt_adr P (100 + j, 0)) = _
    unfold bt_adr
    rw [if_pos (by show 100 ≤ 100 + j; omega)]
    rw [show (100 + j, 0).1 - 100 = j from by show 100 + j - 100 = j; omega]
  rw [← e1]
  exact hz
theorem bt_st_ok {k i : Nat} (h : bt_ok (k, i)) (hk : ¬ k < 100) : k - 100 < 4 := by
  rcases h with h | h
  · have h1 : i < bt_cnt k := h
    rw [bt_cnt_big k (by omega)] at h1; omega
  · have := h.2
    have : k < 104 := this
    omega
theorem bt_adr_st (P : bt_PT) {k i : Nat} (hk : ¬ k < 100) : bt_adr P (k, i) = bt_stA P (k - 100) := by
  unfold bt_adr; rw [if_pos (by show 100 ≤ k; omega)]
theorem bt_s_alen_st {k i : Nat} (hd : decode mi.2.1 pc = .ok (.arraylength, 1)) (hk : ¬ k < 100) (k1 : bt_Go P d mi K (pc + 1) L (vi (Int32.ofNat (bt_sn P (k - 100))) :: r) σ) : bt_Go P d mi K pc L (vr k i :: r) σ := by
  intro p e R s m args below meth c0 cells slots Q hC H locs ls hD
  obtain ⟨hx, hb, hml, hr, hlo, hown, hts, hK, hSF, hokP, hNW⟩ := id hC.1
  show W p (bt_l P) e R s m args below meth c0 H locs cells slots Q (F0 m pc ls (Value.ref (bt_adr P (k, i)) :: r.map (bt_va P)))
  rw [bt_adr_st P hk]
  exact va_tlen hx hb (hSF.2 (k - 100) (bt_st_ok (hD.2.1 _ List.mem_cons_self) hk)) hD.2.2.2.2 rfl hd (k1 p e R s m args below meth c0 cells slots Q hC H locs ls (bt_Dy_s hD (bt_ok1 (bt_oki _) (bt_dr1 hD.2.1))))
theorem bt_s_iald_st {k i : Nat} {j : Int32} (hd : decode mi.2.1 pc = .ok (.iaload, 1)) (hk : ¬ k < 100) (hin : vp_in j (bt_sn P (k - 100))) (k1 : bt_Go P d mi K (pc + 1) L (vi (bt_sv P (k - 100) (tn j)) :: r) σ) : bt_Go P d mi K pc L (vi j :: vr k i :: r) σ := by
  intro p e R s m args below meth c0 cells slots Q hC H locs ls hD
  obtain ⟨hx, hb, hml, hr, hlo, hown, hts, hK, hSF, hokP, hNW⟩ := id hC.1
  show W p (bt_l P) e R s m args below meth c0 H locs cells slots Q (F0 m pc ls (Value.int j :: Value.ref (bt_adr P (k, i)) :: r.map (bt_va P)))
  rw [bt_adr_st P hk]
  exact va_ti hx hb (hSF.2 (k - 100) (bt_st_ok (hD.2.1 _ (List.mem_cons_of_mem _ List.mem_cons_self)) hk)) hD.2.2.2.2 hin rfl hd (k1 p e R s m args below meth c0 cells slots Q hC H locs ls (bt_Dy_s hD (bt_ok1 (bt_oki _) (bt_dr1 (bt_dr1 hD.2.1)))))
theorem bt_s_iaload {k i n : Nat} {j : Int32} (hd : decode mi.2.1 pc = .ok (.iaload, 1)) (hk : k < 100) (hs : bt_shp k = (1, n)) (hin : vp_in j n) (k1 : bt_Go P d mi K (pc + 1) L (vi (σ.1 k i (tn j)) :: r) σ) : bt_Go P d mi K pc L (vi j :: vr k i :: r) σ := by
  intro p e R s m args below meth c0 cells slots Q hC H locs ls hD
  obtain ⟨hx, hb, hml, hr, hlo, hown, hts, hK, hSF, hokP, hNW⟩ := id hC.1
  have hv := bt_valid (hD.2.1 _ (List.mem_cons_of_mem _ List.mem_cons_self)) hk
  have he := bt_wl_at P σ hv
  rw [bt_ent1 P σ hs] at he
  show W p (bt_l P) e R s m args below meth c0 H locs cells slots Q (F0 m pc ls (Value.int j :: Value.ref (bt_adr P (k, i)) :: r.map (bt_va P)))
  rw [bt_adr_lt P hk]
  exact va_iald hx hb hK hD.2.2.2.1 _ 0 he rfl hin hd (k1 p e R s m args below meth c0 cells slots Q hC H locs ls (bt_Dy_s hD (bt_ok1 trivial (bt_dr1 (bt_dr1 hD.2.1)))))
theorem bt_s_laload {k i n : Nat} {j : Int32} (hd : decode mi.2.1 pc = .ok (.laload, 1)) (hk : k < 100) (hs : bt_shp k = (2, n)) (hin : vp_in j n) (k1 : bt_Go P d mi K (pc + 1) L (vl (σ.2 k i (tn j)) :: r) σ) : bt_Go P d mi K pc L (vi j :: vr k i :: r) σ := by
  intro p e R s m args below meth c0 cells slots Q hC H locs ls hD
  obtain ⟨hx, hb, hml, hr, hlo, hown, hts, hK, hSF, hokP, hNW⟩ := id hC.1
  have hv := bt_valid (hD.2.1 _ (List.mem_cons_of_mem _ List.mem_cons_self)) hk
  have he := bt_wl_at P σ hv
  rw [bt_ent2 P σ hs] at he
  show W p (bt_l P) e R s m args below meth c0 H locs cells slots Q (F0 m pc ls (Value.int j :: Value.ref (bt_adr P (k, i)) :: r.map (bt_va P)))
  rw [bt_adr_lt P hk]
  exact va_lald hx hb hK hD.2.2.2.1 _ 1 he rfl hin hd (k1 p e R s m args below meth c0 cells slots Q hC H locs ls (bt_Dy_s hD (bt_ok1 trivial (bt_dr1 (bt_dr1 hD.2.1)))))
theorem bt_s_baload {k i n : Nat} {j : Int32} (hd : decode mi.2.1 pc = .ok (.baload, 1)) (hk : k < 100) (hs : bt_shp k = (3, n)) (hin : vp_in j n) (k1 : bt_Go P d mi K (pc + 1) L (vi (σ.1 k i (tn j)) :: r) σ) : bt_Go P d mi K pc L (vi j :: vr k i :: r) σ := by
  intro p e R s m args below meth c0 cells slots Q hC H locs ls hD
  obtain ⟨hx, hb, hml, hr, hlo, hown, hts, hK, hSF, hokP, hNW⟩ := id hC.1
  have hv := bt_valid (hD.2.1 _ (List.mem_cons_of_mem _ List.mem_cons_self)) hk
  have he := bt_wl_at P σ hv
  rw [bt_ent3 P σ hs] at he
  show W p (bt_l P) e R s m args below meth c0 H locs cells slots Q (F0 m pc ls (Value.int j :: Value.ref (bt_adr P (k, i)) :: r.map (bt_va P)))
  rw [bt_adr_lt P hk]
  exact va_bald hx hb hK hD.2.2.2.1 _ 2 he rfl hin hd (k1 p e R s m args below meth c0 cells slots Q hC H locs ls (bt_Dy_s hD (bt_ok1 trivial (bt_dr1 (bt_dr1 hD.2.1)))))
theorem bt_s_saload {k i n : Nat} {j : Int32} (hd : decode mi.2.1 pc = .ok (.saload, 1)) (hk : k < 100) (hs : bt_shp k = (4, n)) (hin : vp_in j n) (k1 : bt_Go P d mi K (pc + 1) L (vi (σ.1 k i (tn j)) :: r) σ) : bt_Go P d mi K pc L (vi j :: vr k i :: r) σ := by
  intro p e R s m args below meth c0 cells slots Q hC H locs ls hD
  obtain ⟨hx, hb, hml, hr, hlo, hown, hts, hK, hSF, hokP, hNW⟩ := id hC.1
  have hv := bt_valid (hD.2.1 _ (List.mem_cons_of_mem _ List.mem_cons_self)) hk
  have he := bt_wl_at P σ hv
  rw [bt_ent4 P σ hs] at he
  show W p (bt_l P) e R s m args below meth c0 H locs cells slots Q (F0 m pc ls (Value.int j :: Value.ref (bt_adr P (k, i)) :: r.map (bt_va P)))
  rw [bt_adr_lt P hk]
  exact va_sald hx hb hK hD.2.2.2.1 _ 3 he rfl hin hd (k1 p e R s m args below meth c0 cells slots Q hC H locs ls (bt_Dy_s hD (bt_ok1 trivial (bt_dr1 (bt_dr1 hD.2.1)))))
theorem bt_s_iastore {k i n : Nat} {j : Int32} {v : Int32} (hd : decode mi.2.1 pc = .ok (.iastore, 1)) (hk : k < 100) (hs : bt_shp k = (1, n)) (hin : vp_in j n) (k1 : bt_Go P d mi K (pc + 1) L r (ui σ.1 k i (tn j) v, σ.2)) : bt_Go P d mi K pc L (vi v :: vi j :: vr k i :: r) σ := by
  intro p e R s m args below meth c0 cells slots Q hC H locs ls hD
  obtain ⟨hx, hb, hml, hr, hlo, hown, hts, hK, hSF, hokP, hNW⟩ := id hC.1
  have hv := bt_valid (hD.2.1 _ (List.mem_cons_of_mem _ (List.mem_cons_of_mem _ List.mem_cons_self))) hk
  have he := bt_wl_at P σ hv
  rw [bt_ent1 P σ hs] at he
  show W p (bt_l P) e R s m args below meth c0 H locs cells slots Q (F0 m pc ls (Value.int v :: Value.int j :: Value.ref (bt_adr P (k, i)) :: r.map (bt_va P)))
  rw [bt_adr_lt P hk]
  refine va_iast hx hb hK hD.2.2.2.1 (bt_D_of hokP σ) hD.2.2.2.2 _ 0 he rfl hin hd (fun H1 locs1 hP1 _ hS1 => ?_)
  rw [bt_wl_set P (σ := σ) (σ' := (ui σ.1 k i (tn j) v, σ.2)) hv (fun a b h => ui_ne h) (fun _ _ _ => rfl) (by rw [bt_ent1 P _ hs]; dsimp only; rw [ui_row])] at hP1
  exact k1 p e R s m args below meth c0 cells slots Q hC H1 locs1 ls ⟨hD.1, bt_dr1 (bt_dr1 (bt_dr1 hD.2.1)), hD.2.2.1, hP1, hS1⟩
theorem bt_s_bastore {k i n : Nat} {j : Int32} {v : Int32} (hd : decode mi.2.1 pc = .ok (.bastore, 1)) (hk : k < 100) (hs : bt_shp k = (3, n)) (hin : vp_in j n) (k1 : bt_Go P d mi K (pc + 1) L r (ui σ.1 k i (tn j) (v.toInt8.toInt32), σ.2)) : bt_Go P d mi K pc L (vi v :: vi j :: vr k i :: r) σ := by
  intro p e R s m args below meth c0 cells slots Q hC H locs ls hD
  obtain ⟨hx, hb, hml, hr, hlo, hown, hts, hK, hSF, hokP, hNW⟩ := id hC.1
  have hv := bt_valid (hD.2.1 _ (List.mem_cons_of_mem _ (List.mem_cons_of_mem _ List.mem_cons_self))) hk
  have he := bt_wl_at P σ hv
  rw [bt_ent3 P σ hs] at he
  show W p (bt_l P) e R s m args below meth c0 H locs cells slots Q (F0 m pc ls (Value.int v :: Value.int j :: Value.ref (bt_adr P (k, i)) :: r.map (bt_va P)))
  rw [bt_adr_lt P hk]
  refine va_bast hx hb hK hD.2.2.2.1 (bt_D_of hokP σ) hD.2.2.2.2 _ 2 he rfl hin hd (fun H1 locs1 hP1 _ hS1 => ?_)
  rw [vp_nar_byte] at hP1
  rw [bt_wl_set P (σ := σ) (σ' := (ui σ.1 k i (tn j) (v.toInt8.toInt32), σ.2)) hv (fun a b h => ui_ne h) (fun _ _ _ => rfl) (by rw [bt_ent3 P _ hs]; dsimp only; rw [ui_row])] at hP1
  exact k1 p e R s m args below meth c0 cells slots Q hC H1 locs1 ls ⟨hD.1, bt_dr1 (bt_dr1 (bt_dr1 hD.2.1)), hD.2.2.1, hP1, hS1⟩
theorem bt_s_sastore {k i n : Nat} {j : Int32} {v : Int32} (hd : decode mi.2.1 pc = .ok (.sastore, 1)) (hk : k < 100) (hs : bt_shp k = (4, n)) (hin : vp_in j n) (k1 : bt_Go P d mi K (pc + 1) L r (ui σ.1 k i (tn j) (v.toInt16.toInt32), σ.2)) : bt_Go P d mi K pc L (vi v :: vi j :: vr k i :: r) σ := by
  intro p e R s m args below meth c0 cells slots Q hC H locs ls hD
  obtain ⟨hx, hb, hml, hr, hlo, hown, hts, hK, hSF, hokP, hNW⟩ := id hC.1
  have hv := bt_valid (hD.2.1 _ (List.mem_cons_of_mem _ (List.mem_cons_of_mem _ List.mem_cons_self))) hk
  have he := bt_wl_at P σ hv
  rw [bt_ent4 P σ hs] at he
  show W p (bt_l P) e R s m args below meth c0 H locs cells slots Q (F0 m pc ls (Value.int v :: Value.int j :: Value.ref (bt_adr P (k, i)) :: r.map (bt_va P)))
  rw [bt_adr_lt P hk]
  refine va_sast hx hb hK hD.2.2.2.1 (bt_D_of hokP σ) hD.2.2.2.2 _ 3 he rfl hin hd (fun H1 locs1 hP1 _ hS1 => ?_)
  rw [vp_nar_short] at hP1
  rw [bt_wl_set P (σ := σ) (σ' := (ui σ.1 k i (tn j) (v.toInt16.toInt32), σ.2)) hv (fun a b h => ui_ne h) (fun _ _ _ => rfl) (by rw [bt_ent4 P _ hs]; dsimp only; rw [ui_row])] at hP1
  exact k1 p e R s m args below meth c0 cells slots Q hC H1 locs1 ls ⟨hD.1, bt_dr1 (bt_dr1 (bt_dr1 hD.2.1)), hD.2.2.1, hP1, hS1⟩
theorem bt_s_lastore {k i n : Nat} {j : Int32} {v : Int64} (hd : decode mi.2.1 pc = .ok (.lastore, 1)) (hk : k < 100) (hs : bt_shp k = (2, n)) (hin : vp_in j n) (k1 : bt_Go P d mi K (pc + 1) L r (σ.1, ul σ.2 k i (tn j) v)) : bt_Go P d mi K pc L (vl v :: vi j :: vr k i :: r) σ := by
  intro p e R s m args below meth c0 cells slots Q hC H locs ls hD
  obtain ⟨hx, hb, hml, hr, hlo, hown, hts, hK, hSF, hokP, hNW⟩ := id hC.1
  have hv := bt_valid (hD.2.1 _ (List.mem_cons_of_mem _ (List.mem_cons_of_mem _ List.mem_cons_self))) hk
  have he := bt_wl_at P σ hv
  rw [bt_ent2 P σ hs] at he
  show W p (bt_l P) e R s m args below meth c0 H locs cells slots Q (F0 m pc ls (Value.long v :: Value.int j :: Value.ref (bt_adr P (k, i)) :: r.map (bt_va P)))
  rw [bt_adr_lt P hk]
  refine va_last hx hb hK hD.2.2.2.1 (bt_D_of hokP σ) hD.2.2.2.2 _ 1 he rfl hin hd (fun H1 locs1 hP1 _ hS1 => ?_)
  rw [bt_wl_set P (σ := σ) (σ' := (σ.1, ul σ.2 k i (tn j) v)) hv (fun _ _ _ => rfl) (fun a b h => ul_ne h) (by rw [bt_ent2 P _ hs]; dsimp only; rw [ul_row])] at hP1
  exact k1 p e R s m args below meth c0 cells slots Q hC H1 locs1 ls ⟨hD.1, bt_dr1 (bt_dr1 (bt_dr1 hD.2.1)), hD.2.2.1, hP1, hS1⟩
theorem bt_s_aaload {k i : Nat} {j : Int32} (hd : decode mi.2.1 pc = .ok (.aaload, 1)) (hk : k < 100) (hs : (bt_shp k).1 = 5 ∨ (bt_shp k).1 = 6) (hin : vp_in j (bt_shp k).2) (k1 : bt_Go P d mi K (pc + 1) L (.inr (.inr (bt_RF k i (tn j))) :: r) σ) : bt_Go P d mi K pc L (vi j :: vr k i :: r) σ := by
  intro p e R s m args below meth c0 cells slots Q hC H locs ls hD
  obtain ⟨hx, hb, hml, hr, hlo, hown, hts, hK, hSF, hokP, hNW⟩ := id hC.1
  have hv := bt_valid (hD.2.1 _ (List.mem_cons_of_mem _ List.mem_cons_self)) hk
  have he := bt_wl_at P σ hv
  have hlt : tn j < (bt_shp k).2 := Nat.not_le.mp fun q => hin (Or.inr q)
  have hz := k1 p e R s m args below meth c0 cells slots Q hC H locs ls (bt_Dy_s hD (bt_ok1 (bt_RF_val hv (by rw [if_neg (by rcases hs with h | h <;> rw [h] <;> decide)]; exact hlt)) (bt_dr1 (bt_dr1 hD.2.1))))
  show W p (bt_l P) e R s m args below meth c0 H locs cells slots Q (F0 m pc ls (Value.int j :: Value.ref (bt_adr P (k, i)) :: r.map (bt_va P)))
  rw [bt_adr_lt P hk]
  have hz : W p (bt_l P) e R s m args below meth c0 H locs cells slots Q (F0 m (pc + 1) ls (va_rf ((bt_RF k i (tn j)).map (bt_adr P)) :: r.map (bt_va P))) := by rw [bt_va_rf]; exact hz
  rcases hs with hs | hs
  · rw [bt_ent5 P σ (bt_shp_eq hs)] at he
    exact W.aald (v := va_rf ((bt_RF k i (tn j)).map (bt_adr P))) (ty := .array .int) hx hb (hD.2.2.2.1 _ _ he) ((hK.2 4 (bt_dA P 4, .array .int) rfl).1 (bt_shp k).2 (fun j => va_rf ((bt_RF k i j).map (bt_adr P)))) rfl (fun q => by cases q) (by show ¬ (j < 0 ∨ (arrV _ _ _).slots.size ≤ _); rw [arrV_size]; exact hin) (by show (arrV _ _ _).slots[_]? = _; rw [arrV_read _ _ hlt]) rfl rfl hd hz
  · rw [bt_ent6 P σ (bt_shp_eq hs)] at he
    exact va_aldq (C := "BellTrees$Shelf") hx hb hK hD.2.2.2.1 _ 5 he rfl hin hd hz
theorem bt_s_alen {k i : Nat} (hd : decode mi.2.1 pc = .ok (.arraylength, 1)) (hk : k < 100) (hs : ¬ (bt_shp k).1 = 0) (k1 : bt_Go P d mi K (pc + 1) L (vi (Int32.ofNat (bt_shp k).2) :: r) σ) : bt_Go P d mi K pc L (vr k i :: r) σ := by
  intro p e R s m args below meth c0 cells slots Q hC H locs ls hD
  obtain ⟨hx, hb, hml, hr, hlo, hown, hts, hK, hSF, hokP, hNW⟩ := id hC.1
  have hv := bt_valid (hD.2.1 _ List.mem_cons_self) hk
  have he := bt_wl_at P σ hv
  have hz := k1 p e R s m args below meth c0 cells slots Q hC H locs ls (bt_Dy_s hD (bt_ok1 (bt_oki _) (bt_dr1 hD.2.1)))
  show W p (bt_l P) e R s m args below meth c0 H locs cells slots Q (F0 m pc ls (Value.ref (bt_adr P (k, i)) :: r.map (bt_va P)))
  rw [bt_adr_lt P hk]
  have hsh : (bt_shp k).1 = 1 ∨ (bt_shp k).1 = 2 ∨ (bt_shp k).1 = 3 ∨ (bt_shp k).1 = 4 ∨ (bt_shp k).1 = 5 ∨ (bt_shp k).1 = 6 := by
    have h : ∀ k, k < 70 → (bt_shp k).1 = 0 ∨ (bt_shp k).1 = 1 ∨ (bt_shp k).1 = 2 ∨ (bt_shp k).1 = 3 ∨ (bt_shp k).1 = 4 ∨ (bt_shp k).1 = 5 ∨ (bt_shp k).1 = 6 := by decide +kernel
    rcases h k hv.2 with q | q
    · exact absurd q hs
    · exact q
  rcases hsh with h | h | h | h | h | h
  · rw [bt_ent1 P σ (bt_shp_eq h)] at he
    exact va_alen hx hb hK hD.2.2.2.1 _ 0 he (ty := .int) rfl rfl hd hz
  · rw [bt_ent2 P σ (bt_shp_eq h)] at he
    exact va_alen hx hb hK hD.2.2.2.1 _ 1 he (ty := .long) rfl rfl hd hz
  · rw [bt_ent3 P σ (bt_shp_eq h)] at he
    exact va_alen hx hb hK hD.2.2.2.1 _ 2 he (ty := .byte) rfl rfl hd hz
  · rw [bt_ent4 P σ (bt_shp_eq h)] at he
    exact va_alen hx hb hK hD.2.2.2.1 _ 3 he (ty := .short) rfl rfl hd hz
  · rw [bt_ent5 P σ (bt_shp_eq h)] at he
    exact va_alen hx hb hK hD.2.2.2.1 _ 4 he (ty := .array .int) rfl rfl hd hz
  · rw [bt_ent6 P σ (bt_shp_eq h)] at he
    exact va_alen hx hb hK hD.2.2.2.1 _ 5 he (ty := .object "BellTrees$Shelf") rfl rfl hd hz
theorem bt_s_cpyi {idx k1 i1 k2 i2 n1 n2 : Nat} {sp dp n : Int32} (hd : decode mi.2.1 pc = .ok (.invokestatic idx, 3)) (hl : bt_lkC mi.1.cls idx) (hk1 : k1 < 100) (hk2 : k2 < 100) (hs1 : bt_shp k1 = (1, n1)) (hs2 : bt_shp k2 = (1, n2)) (hw : bt_words r ≤ 8) (h1 : ¬ sp < 0) (h2 : ¬ dp < 0) (h3 : ¬ n < 0) (h4 : tn sp + tn n ≤ n1) (h5 : tn dp + tn n ≤ n2) (k0 : bt_Go P d mi K (pc + 3) L r (uc σ.1 k2 i2 (va_cpy (σ.1 k1 i1) (σ.1 k2 i2) (tn sp) (tn dp) (tn n)), σ.2)) : bt_Go P d mi K pc L (vi n :: vi dp :: vr k2 i2 :: vi sp :: vr k1 i1 :: r) σ := by
  intro p e R s m args below meth c0 cells slots Q hC H locs ls hD
  obtain ⟨hx, hb, hml, hr, hlo, hown, hts, hK, hSF, hokP, hNW⟩ := id hC.1
  obtain ⟨l1, l2, l3, l4⟩ := hl
  have hv1 := bt_valid (hD.2.1 _ (List.mem_cons_of_mem _ (List.mem_cons_of_mem _ (List.mem_cons_of_mem _ (List.mem_cons_of_mem _ List.mem_cons_self))))) hk1
  have hv2 := bt_valid (hD.2.1 _ (List.mem_cons_of_mem _ (List.mem_cons_of_mem _ List.mem_cons_self))) hk2
  have he1 := bt_wl_at P σ hv1
  have he2 := bt_wl_at P σ hv2
  rw [bt_ent1 P σ hs1] at he1
  rw [bt_ent1 P σ hs2] at he2
  show W p (bt_l P) e R s m args below meth c0 H locs cells slots Q (F0 m pc ls (Value.int n :: Value.int dp :: Value.ref (bt_adr P (k2, i2)) :: Value.int sp :: Value.ref (bt_adr P (k1, i1)) :: r.map (bt_va P)))
  rw [bt_adr_lt P hk1, bt_adr_lt P hk2]
  have hwd : ∀ q : List av_T, ((q.map (bt_va P)).map fun v => v.category).sum = bt_words q := by
    intro q
    induction q with
    | nil => rfl
    | cons a q ih => simp only [List.map_cons, List.sum_cons, bt_words, bt_cat_va, ih]
  refine va_copyi hx hb (hml.trans hD.1.1.symm) hown (hts _ l1) (hts _ l2) (hts _ l3) (hts _ l4) hK hD.2.2.2.1 (bt_D_of hokP σ) hD.2.2.2.2 _ _ 0 0 he1 he2 rfl rfl rfl h1 h2 h3 h4 h5 (fun _ _ => rfl) (Nat.le_trans (Nat.succ_le_succ (Nat.zero_le d)) hC.2.1) ?_ hd (fun H1 locs1 hP1 _ hS1 => ?_)
  · have h6 := hC.2.2.1
    rw [hwd r]
    have h7 : nativeFrameWords "java/lang/System" "arraycopy" 5 ≤ 20 := by decide +kernel
    omega
  · rw [bt_wl_set P (σ := σ) (σ' := (uc σ.1 k2 i2 (va_cpy (σ.1 k1 i1) (σ.1 k2 i2) (tn sp) (tn dp) (tn n)), σ.2)) hv2 (fun a b h => uc_ne h) (fun _ _ _ => rfl) (by rw [bt_ent1 P _ hs2]; dsimp only; rw [uc_row])] at hP1
    exact k0 p e R s m args below meth c0 cells slots Q hC H1 locs1 ls ⟨hD.1, bt_dr1 (bt_dr1 (bt_dr1 (bt_dr1 (bt_dr1 hD.2.1)))), hD.2.2.1, hP1, hS1⟩
theorem bt_s_cpyl {idx k1 i1 k2 i2 n1 n2 : Nat} {sp dp n : Int32} (hd : decode mi.2.1 pc = .ok (.invokestatic idx, 3)) (hl : bt_lkC mi.1.cls idx) (hk1 : k1 < 100) (hk2 : k2 < 100) (hs1 : bt_shp k1 = (2, n1)) (hs2 : bt_shp k2 = (2, n2)) (hw : bt_words r ≤ 8) (h1 : ¬ sp < 0) (h2 : ¬ dp < 0) (h3 : ¬ n < 0) (h4 : tn sp + tn n ≤ n1) (h5 : tn dp + tn n ≤ n2) (k0 : bt_Go P d mi K (pc + 3) L r (σ.1, ud σ.2 k2 i2 (va_cpy (σ.2 k1 i1) (σ.2 k2 i2) (tn sp) (tn dp) (tn n)))) : bt_Go P d mi K pc L (vi n :: vi dp :: vr k2 i2 :: vi sp :: vr k1 i1 :: r) σ := by
  intro p e R s m args below meth c0 cells slots Q hC H locs ls hD
  obtain ⟨hx, hb, hml, hr, hlo, hown, hts, hK, hSF, hokP, hNW⟩ := id hC.1
  obtain ⟨l1, l2, l3, l4⟩ := hl
  have hv1 := bt_valid (hD.2.1 _ (List.mem_cons_of_mem _ (List.mem_cons_of_mem _ (List.mem_cons_of_mem _ (List.mem_cons_of_mem _ List.mem_cons_self))))) hk1
  have hv2 := bt_valid (hD.2.1 _ (List.mem_cons_of_mem _ (List.mem_cons_of_mem _ List.mem_cons_self))) hk2
  have he1 := bt_wl_at P σ hv1
  have he2 := bt_wl_at P σ hv2
  rw [bt_ent2 P σ hs1] at he1
  rw [bt_ent2 P σ hs2] at he2
  show W p (bt_l P) e R s m args below meth c0 H locs cells slots Q (F0 m pc ls (Value.int n :: Value.int dp :: Value.ref (bt_adr P (k2, i2)) :: Value.int sp :: Value.ref (bt_adr P (k1, i1)) :: r.map (bt_va P)))
  rw [bt_adr_lt P hk1, bt_adr_lt P hk2]
  have hwd : ∀ q : List av_T, ((q.map (bt_va P)).map fun v => v.category).sum = bt_words q := by
    intro q
    induction q with
    | nil => rfl
    | cons a q ih => simp only [List.map_cons, List.sum_cons, bt_words, bt_cat_va, ih]
  refine va_copyl hx hb (hml.trans hD.1.1.symm) hown (hts _ l1) (hts _ l2) (hts _ l3) (hts _ l4) hK hD.2.2.2.1 (bt_D_of hokP σ) hD.2.2.2.2 _ _ 1 1 he1 he2 rfl rfl rfl h1 h2 h3 h4 h5 (fun _ _ => rfl) (Nat.le_trans (Nat.succ_le_succ (Nat.zero_le d)) hC.2.1) ?_ hd (fun H1 locs1 hP1 _ hS1 => ?_)
  · have h6 := hC.2.2.1
    rw [hwd r]
    have h7 : nativeFrameWords "java/lang/System" "arraycopy" 5 ≤ 20 := by decide +kernel
    omega
  · rw [bt_wl_set P (σ := σ) (σ' := (σ.1, ud σ.2 k2 i2 (va_cpy (σ.2 k1 i1) (σ.2 k2 i2) (tn sp) (tn dp) (tn n)))) hv2 (fun _ _ _ => rfl) (fun a b h => ud_ne h) (by rw [bt_ent2 P _ hs2]; dsimp only; rw [ud_row])] at hP1
    exact k0 p e R s m args below meth c0 cells slots Q hC H1 locs1 ls ⟨hD.1, bt_dr1 (bt_dr1 (bt_dr1 (bt_dr1 (bt_dr1 hD.2.1)))), hD.2.2.1, hP1, hS1⟩
end BTH
end
section
/-! THE ABSTRACT MACHINE IS SOUND, 4: calls, ends, switches; all instructions; a method's contract -/
theorem bt_SF_moved {P : bt_PT} {u U : State} {H : Heap} (hvm : u.vm.Alike U.vm) (h : bt_SF P u H) : bt_SF P U H := ⟨fun j hj => va_Z.moved hvm (h.1 j hj), fun j hj => va_T.moved hvm (h.2 j hj)⟩
theorem bt_SF_kept {P : bt_PT} {U : State} {H H1 : Heap} (h : bt_SF P U H) (hq : ∀ a : Nat, a < H.size → ¬ bt_A P a → H1[a]? = H[a]?) : bt_SF P U H1 := ⟨fun j hj => (h.1 j hj).kept hq, fun j hj => (h.2 j hj).kept hq⟩
theorem bt_NW_warm {s U : State} (hW : s.WarmedH U.vm) (h : bt_NW s) : bt_NW U := fun q hq => va_Nw.warmM hW (h q hq)
theorem bt_goodM {mi : bt_MI} {n : Nat} (h : bt_lkM mi n) : GoodIn bt_gw (Cond.code mi.1 mi.2.1 mi.2.2.1 mi.2.2.2 :: bt_gw) := fun w hw => by
  rcases List.mem_cons.mp hw with rfl | hw
  · exact ⟨h.1, bt_gw_good _ h.1⟩
  · exact ⟨hw, bt_gw_good _ hw⟩
theorem bt_blind (P : bt_PT) (as : List av_T) (σ : st_T) : FrameBlind (bt_Pc P as σ) := fun a U g mk h => by
  obtain ⟨h1, h2, h3, h4, h5, h6, h7⟩ := h
  exact ⟨h1, h2, h3, va_K.moved (u := U) (U := U.calling g mk a) (Vm.Alike.refl U.vm) h4, bt_SF_moved (u := U) (U := U.calling g mk a) (Vm.Alike.refl U.vm) h5, h6, fun q hq => va_Nw.same rfl (show U.vm = (U.calling g mk a).vm from rfl) (h7 q hq)⟩
section BTC
variable {p : Program} {l : Launch} {e : Env} {R : Room} {s : State} {m : MethodId} {args : Array Value} {below : List Frame} {meth : Method} {c : Code} {H : Heap} {locs : List Loc} {cells slots : Nat} {Q : State → Prop}
theorem bt_cont {P : bt_PT} {K : Option av_T → st_T → Prop} {a : Array Value} {rest st0 : List Value} {pc : Nat} {ls : Array Slot} (hr : va_Run p l e R s m args below meth c H locs cells slots 0 0 (F0 m pc ls st0) rest (bt_Qc P K a) (bt_A P)) (hS : va_S (bt_A P) s.heap H locs)
    (kk : ∀ (r : Option av_T) (σ : st_T) (H1 : Heap) (locs1 : List Loc), K r σ → (∀ v, r = some v → bt_okv v) → va_P (bt_D P) bt_cl (bt_wl P σ) H1 → va_S (bt_A P) s.heap H1 locs1 → W p l e R s m args below meth c H1 locs1 cells slots Q (F0 m (pc + 3) ls (r.toList.map (bt_va P) ++ rest))) : W p l e R s m args below meth c H locs cells slots Q (F0 m pc ls st0) := by
  intro T hT X
  obtain ⟨v, st₀, t, T', L, h0, X', hL, e1, e2, ⟨⟨r, σ, hv, hp, ho, hb⟩, hz, hk⟩, st⟩ := hr T hT X
  cases hv
  rw [h0] at hz hk
  have hb' : va_P (bt_D P) bt_cl (bt_wl P σ) T'.heap := by rw [e1]; exact hb
  obtain ⟨t2, a1, b1⟩ := kk r σ T'.heap (locs ++ L) hp ho hb'
    ⟨Nat.le_trans hS.1 (by rw [e1]; exact hz), fun q h1 h2 => by rw [e1, hk q (Nat.lt_of_lt_of_le h1 hS.1) h2]; exact hS.2.1 q h1 h2, fun q hq => by
      rcases List.mem_append.mp hq with h | h
      · exact hS.2.2 q h
      · exact hL q h⟩ T' rfl X'
  refine ⟨t2, st t2 ?_, b1⟩
  have e3 : (r.map (bt_va P)).toList ++ rest = r.toList.map (bt_va P) ++ rest := by cases r <;> rfl
  rw [e3]
  exact a1
end BTC
theorem bt_kc_inv {ret : Option FieldType} {Nx : List av_T → st_T → Prop} {r : Option av_T} {σ : st_T} (h : bt_kc ret Nx r σ) : Nx r.toList σ := by
  unfold bt_kc at h
  split at h <;> rcases r with _ | (x | x | x) <;> first | exact h.elim | exact h
theorem bt_sumw (P : bt_PT) : ∀ q : List av_T, ((q.map (bt_va P)).map fun v => v.category).sum = bt_words q
  | [] => rfl
  | a :: q => by simp only [List.map_cons, List.sum_cons, bt_words, bt_cat_va, bt_sumw P q]
section BTD
variable {P : bt_PT} {d : Nat} {mi : bt_MI} {K : Option av_T → st_T → Prop} {pc : Nat} {L : List (Option av_T)} {r : List av_T} {σ : st_T}
theorem bt_ok_at {a b r : List av_T} (h : ∀ v ∈ a ++ b ++ r, bt_okv v) : ∀ v ∈ r, bt_okv v := fun v hv => h v (List.mem_append_right _ hv)
theorem bt_Pc_now {p : Program} {s : State} {m : MethodId} {args : Array Value} {meth : Method} {c : Code} {H : Heap} {locs : List Loc} {as : List av_T} (hC : bt_Cx P mi p s m args meth c) (hP : va_P (bt_D P) bt_cl (bt_wl P σ) H) (hS : va_S (bt_A P) s.heap H locs) (ho : ∀ v ∈ as, bt_okv v) {U : State} (hU : U.heap = H) (hW : s.WarmedH U.vm) : bt_Pc P as σ (as.map (bt_va P)).toArray U := by
  obtain ⟨hx, hb, hml, hr, hlo, hown, hts, hK, hSF, hokP, hNW⟩ := hC
  subst hU
  exact ⟨rfl, ho, hP, va_K.moved hW.alike hK, bt_SF_moved hW.alike (bt_SF_kept hSF (fun a h1 h2 => hS.2.1 a h1 h2)), hokP, bt_NW_warm hW hNW⟩
/-- a virtual call: receiver (k, i), arguments as (the last on top) -/
theorem bt_s_callV {idx n c k i : Nat} {cm : bt_MI} {as : List av_T} {Nx : List av_T → st_T → Prop} (hd : decode mi.2.1 pc = .ok (.invokevirtual idx, 3)) (hl : bt_lkV mi.1.cls idx cm n c) (hn : (vr k i :: as).length = n) (hw : bt_words r ≤ 8) (hk : k < 100) (hs : bt_shp k = (0, c))
    (hWP : bt_WP P d cm (vr k i :: as) σ (bt_kc cm.2.2.2 Nx)) (hN : ∀ v σ', Nx v σ' → (∀ w ∈ v, bt_okv w) → bt_Go P d mi K (pc + 3) L (v ++ r) σ') : bt_Go P d mi K pc L ((vr k i :: as).reverse ++ r) σ := by
  intro p e R s m args below meth c0 cells slots Q hC H locs ls hD
  obtain ⟨hx, hb, hml, hr, hlo, hown, hts, hK, hSF, hokP, hNW⟩ := id hC.1
  obtain ⟨⟨n1, T, N, en, hc, hM⟩, l1, l2, l3⟩ := hl
  have hoS := hD.2.1
  have hoR : ∀ v ∈ r, bt_okv v := fun v hv => hoS v (List.mem_append_right _ hv)
  have hoA : ∀ v ∈ vr k i :: as, bt_okv v := fun v hv => hoS v (List.mem_append_left _ (List.mem_reverse.mpr hv))
  have hv := bt_valid (hoA _ List.mem_cons_self) hk
  have he := bt_wl_at P σ hv
  rw [bt_ent0 P σ hs] at he
  have hlen : (as.map (bt_va P)).length = n1 := by
    rw [List.length_map]
    have : as.length + 1 = n := hn
    omega
  have hgood : GoodIn bt_gw (wsV mi.1.cls idx cm.1.cls cm.1 (Cond.code cm.1 cm.2.1 cm.2.2.1 cm.2.2.2 :: bt_gw)) := fun w hw => by
    unfold wsV at hw
    rcases List.mem_append.mp hw with h | h
    · have hin : w ∈ bt_gw := by
        simp only [List.mem_cons, List.not_mem_nil, or_false] at h
        rcases h with rfl | rfl | rfl | rfl
        · exact l1
        · exact l2
        · exact l3
        · exact hM.2.1
      exact ⟨hin, bt_gw_good _ hin⟩
    · exact bt_goodM hM w h
  have hfr := hC.2.1
  have hlc := hC.2.2.1
  have hmx := hM.2.2.2
  have hrun := va_runV (l := bt_l P) (R := R) (s := s) (e := e) (args := args) (below := below) (meth := meth) (c := c0) (H := H) (locs := locs) (cells := cells) (slots := slots) (p := p) (m := m) (b := bt_ad P k i) (As := as.map (bt_va P)) (rest := r.map (bt_va P)) (g := F0 m pc ls (((vr k i :: as).reverse ++ r).map (bt_va P))) (Ts := bt_gw) (own := mi.1.cls) (nL := mi.2.2.1) ⟨hx, hb, hml, hown, hts⟩ hWP
    (cwV n1 hts hgood rfl rfl rfl ⟨rfl, hM.2.2.1⟩ ⟨by show d + 1 ≤ R.frames; exact hfr, by show 8 + (cm.2.2.1 + 11) + 40 * d ≤ R.locals; omega⟩)
    ⟨bt_blind P _ σ, va_recv hK hD.2.2.2.1 hc he, fun U hU hW => by
      have h := bt_Pc_now (σ := σ) hC.1 hD.2.2.2.1 hD.2.2.2.2 hoA hU hW
      have e1 : ((vr k i :: as).map (bt_va P)).toArray = (Value.ref (bt_ad P k i) :: as.map (bt_va P)).toArray := by
        show (Value.ref (bt_adr P (k, i)) :: as.map (bt_va P)).toArray = _
        rw [bt_adr_lt P hk]
      rw [e1] at h
      exact h⟩ rfl hlen hD.1.1
    (by show ((vr k i :: as).reverse ++ r).map (bt_va P) = _
        rw [List.map_append, List.reverse_cons, List.map_append, List.append_assoc, List.map_reverse]
        show _ ++ ([Value.ref (bt_adr P (k, i))] ++ _) = _
        rw [bt_adr_lt P hk]; rfl)
    (lv_room (by rw [bt_sumw]; exact hw)) hd ⟨by rw [Nat.add_zero]; exact hC.2.2.2.1.1, by rw [Nat.add_zero]; exact hC.2.2.2.1.2⟩
  refine bt_cont hrun hD.2.2.2.2 (fun r0 σ' H1 locs1 hK1 ho1 hP1 hS1 => ?_)
  have hNx := bt_kc_inv hK1
  have hov : ∀ w ∈ r0.toList, bt_okv w := fun w hw => ho1 w (by cases r0 with | none => cases hw | some z => rw [List.mem_singleton.mp hw])
  have hgo := hN _ _ hNx hov p e R s m args below meth c0 cells slots Q hC H1 locs1 ls ⟨hD.1, fun v hv => (List.mem_append.mp hv).elim (hov v) (hoR v), hD.2.2.1, hP1, hS1⟩
  rw [List.map_append] at hgo
  exact hgo
/-- a static call -/
theorem bt_s_callS {idx n : Nat} {cm : bt_MI} {as : List av_T} {Nx : List av_T → st_T → Prop} (hd : decode mi.2.1 pc = .ok (.invokestatic idx, 3)) (hl : bt_lkS mi.1.cls idx cm n) (hn : as.length = n) (hw : bt_words r ≤ 8)
    (hWP : bt_WP P d cm as σ (bt_kc cm.2.2.2 Nx)) (hN : ∀ v σ', Nx v σ' → (∀ w ∈ v, bt_okv w) → bt_Go P d mi K (pc + 3) L (v ++ r) σ') : bt_Go P d mi K pc L (as.reverse ++ r) σ := by
  intro p e R s m args below meth c0 cells slots Q hC H locs ls hD
  obtain ⟨hx, hb, hml, hr, hlo, hown, hts, hK, hSF, hokP, hNW⟩ := id hC.1
  obtain ⟨hM, l1, l2⟩ := hl
  have hoS := hD.2.1
  have hoR : ∀ v ∈ r, bt_okv v := fun v hv => hoS v (List.mem_append_right _ hv)
  have hoA : ∀ v ∈ as, bt_okv v := fun v hv => hoS v (List.mem_append_left _ (List.mem_reverse.mpr hv))
  have hlen : (as.map (bt_va P)).length = n := by rw [List.length_map]; exact hn
  have hfr := hC.2.1
  have hlc := hC.2.2.1
  have hmx := hM.2.2.2
  have hRm : (bt_rm d).frames + 1 ≤ R.frames ∧ 8 + (cm.2.2.1 + 11) + (bt_rm d).locals ≤ R.locals := ⟨by show d + 1 ≤ R.frames; exact hfr, by show 8 + (cm.2.2.1 + 11) + 40 * d ≤ R.locals; omega⟩
  have hpre : PreS s H (bt_Pc P as σ) (as.map (bt_va P)) := ⟨bt_blind P _ σ, fun U hU hW => bt_Pc_now (σ := σ) hC.1 hD.2.2.2.1 hD.2.2.2.2 hoA hU hW⟩
  have hst : (as.reverse ++ r).map (bt_va P) = (as.map (bt_va P)).reverse ++ r.map (bt_va P) := by rw [List.map_append, List.map_reverse]
  have hrun : va_Run p (bt_l P) e R s m args below meth c0 H locs cells slots 0 0 (F0 m pc ls ((as.reverse ++ r).map (bt_va P))) (r.map (bt_va P)) (bt_Qc P (bt_kc cm.2.2.2 Nx) (as.map (bt_va P)).toArray) (bt_A P) := by
    rcases l1 with l1 | ⟨host, l1⟩
    · have hgood : GoodIn bt_gw (va_wsS mi.1.cls idx cm.1 (Cond.code cm.1 cm.2.1 cm.2.2.1 cm.2.2.2 :: bt_gw)) := fun w hw => by
        unfold va_wsS at hw
        rcases List.mem_append.mp hw with h | h
        · have hin : w ∈ bt_gw := by
            simp only [List.mem_cons, List.not_mem_nil, or_false] at h
            rcases h with rfl | rfl | rfl
            · exact l1
            · exact l2
            · exact hM.2.1
          exact ⟨hin, bt_gw_good _ hin⟩
        · exact bt_goodM hM w h
      exact va_runS (l := bt_l P) (Ts := bt_gw) (own := mi.1.cls) (nL := mi.2.2.1) ⟨hx, hb, hml, hown, hts⟩ hWP (va_cwS n hts hgood rfl rfl rfl hM.2.2.1 hRm) hpre rfl hlen hD.1.1 hst (lv_room (by rw [bt_sumw]; exact hw)) hd ⟨by rw [Nat.add_zero]; exact hC.2.2.2.1.1, by rw [Nat.add_zero]; exact hC.2.2.2.1.2⟩
    · exact va_runSN (l := bt_l P) (Ts := bt_gw) (own := mi.1.cls) (nL := mi.2.2.1) (host := host) ⟨hx, hb, hml, hown, hts⟩ hWP ⟨va_cnB n hts (bt_goodM hM) rfl rfl rfl (hNW _ l1) (hts _ hM.2.1) hM.2.2.1 hRm, hts _ l2, trivial⟩ hpre rfl hlen hD.1.1 hst (lv_room (by rw [bt_sumw]; exact hw)) hd ⟨by rw [Nat.add_zero]; exact hC.2.2.2.1.1, by rw [Nat.add_zero]; exact hC.2.2.2.1.2⟩
  refine bt_cont hrun hD.2.2.2.2 (fun r0 σ' H1 locs1 hK1 ho1 hP1 hS1 => ?_)
  have hNx := bt_kc_inv hK1
  have hov : ∀ w ∈ r0.toList, bt_okv w := fun w hw => ho1 w (by cases r0 with | none => cases hw | some z => rw [List.mem_singleton.mp hw])
  have hgo := hN _ _ hNx hov p e R s m args below meth c0 cells slots Q hC H1 locs1 ls ⟨hD.1, fun v hv => (List.mem_append.mp hv).elim (hov v) (hoR v), hD.2.2.1, hP1, hS1⟩
  rw [List.map_append] at hgo
  exact hgo
/-- the method's end -/
theorem bt_s_ret {v : Option av_T} (hd : bt_isret mi.2.1 pc v) (ht : bt_rty mi.2.2.2 v) (hK : K v σ) : bt_Go P d mi K pc L v.toList σ := by
  intro p e R s m args below meth c0 cells slots Q hC H locs ls hD
  exact hC.2.2.2.2 v σ H locs pc ls hK (fun w hw => hD.2.1 w (by rw [hw]; exact List.mem_cons_self)) hD.2.2.2.1 hD.2.2.2.2 hd ht
theorem bt_s_table {dflt lo hi : Int} {offs : Array Int} {len t : Nat} {sw : List (Int32 × Nat)} {x : Int32} {Nx : Nat → Prop} (hd : decode mi.2.1 pc = .ok (.tableswitch dflt lo hi offs, len)) (hck : bt_ck mi.2.2.1 pc (.tableswitch dflt lo hi offs, len, (t, 0), (0, 0), sw, mi) = true) (hN : ∀ t, Nx t → bt_Go P d mi K t L r σ) (h : bt_sw x Nx t sw) : bt_Go P d mi K pc L (vi x :: r) σ := by
  intro p e R s m args below meth c0 cells slots Q hC H locs ls hD
  obtain ⟨hx, hb, hml, hr, hlo, hown, hts, hK, hSF, hokP, hNW⟩ := id hC.1
  have hD2 := bt_Dy_s hD (bt_dr1 hD.2.1)
  simp only [bt_ck, Bool.and_eq_true, decide_eq_true_eq] at hck
  obtain ⟨⟨⟨⟨⟨h1, h2⟩, h3⟩, h4⟩, h5⟩, h6⟩ := hck
  rcases bt_sw_inv x Nx t sw h with ⟨q, hq, hqx, -, hNx, -⟩ | ⟨hno, hNx⟩
  · have h7 := List.all_eq_true.mp h5 q hq
    simp only [Bool.and_eq_true, decide_eq_true_eq] at h7
    obtain ⟨⟨h8, h9⟩, h10⟩ := h7
    rw [hqx] at h8 h9 h10
    cases ho : offs[(x.toInt - lo).toNat]? with
    | none => rw [ho] at h10; cases h10
    | some o =>
      rw [ho] at h10
      exact lv_tableIn hx hb hd (by omega) (by omega) ho (Option.some.inj h10) (hN _ hNx p e R s m args below meth c0 cells slots Q hC H locs ls hD2)
  · refine lv_tableOut hx hb hd ?_ h1 (hN _ hNx p e R s m args below meth c0 cells slots Q hC H locs ls hD2)
    rcases Int.lt_or_le x.toInt lo with q1 | q1
    · exact Or.inl q1
    rcases Int.lt_or_le hi x.toInt with q2 | q2
    · exact Or.inr q2
    exfalso
    have h7 := List.all_eq_true.mp h6 (x.toInt - lo).toNat (List.mem_range.mpr (by omega))
    obtain ⟨q, hq, hqe⟩ := List.any_eq_true.mp h7
    have hqe := of_decide_eq_true hqe
    exact hno q hq (Int32.toInt_inj.mp (by omega))
theorem bt_s_look {dflt : Int} {ps : Array (Int × Int)} {len t : Nat} {sw : List (Int32 × Nat)} {x : Int32} {Nx : Nat → Prop} (hd : decode mi.2.1 pc = .ok (.lookupswitch dflt ps, len)) (hck : bt_ck mi.2.2.1 pc (.lookupswitch dflt ps, len, (t, 0), (0, 0), sw, mi) = true) (hN : ∀ t, Nx t → bt_Go P d mi K t L r σ) (h : bt_sw x Nx t sw) : bt_Go P d mi K pc L (vi x :: r) σ := by
  intro p e R s m args below meth c0 cells slots Q hC H locs ls hD
  obtain ⟨hx, hb, hml, hr, hlo, hown, hts, hK, hSF, hokP, hNW⟩ := id hC.1
  have hD2 := bt_Dy_s hD (bt_dr1 hD.2.1)
  simp only [bt_ck, Bool.and_eq_true, decide_eq_true_eq] at hck
  obtain ⟨⟨⟨h1, h2⟩, h3⟩, h4⟩ := hck
  have key : ∀ (a : List (Int × Int)) (w : List (Int32 × Nat)), a.length = w.length → ((a.zip w).all (fun z => decide (z.2.1.toInt = z.1.1) && decide ((pc : Int) + z.1.2 = (z.2.2 : Int)))) = true → bt_sw x Nx t w → ∃ tgt : Nat, Nx tgt ∧ (pc : Int) + Op.lookupswitch.offset a dflt x.toInt = (tgt : Int) := by
    intro a
    induction a with
    | nil =>
      intro w hlen _ hsw
      cases w with
      | nil => exact ⟨t, hsw, by rw [← h1]; rfl⟩
      | cons q w => cases hlen
    | cons z a ih =>
      intro w hlen hall hsw
      cases w with
      | nil => cases hlen
      | cons q w =>
        rw [List.zip_cons_cons, List.all_cons] at hall
        simp only [Bool.and_eq_true, decide_eq_true_eq] at hall
        obtain ⟨⟨g1, g2⟩, g3⟩ := hall
        by_cases ex : x = q.1
        · refine ⟨q.2, hsw.1 ex, ?_⟩
          rw [← g2]
          congr 1
          subst ex
          obtain ⟨za, zo⟩ := z
          simp only [Op.lookupswitch.offset]
          dsimp only at g1
          rw [if_pos (by rw [g1] <;> simp)]
        · obtain ⟨tgt, f1, f2⟩ := ih w (by simpa using hlen) (by simpa using g3) (hsw.2 ex)
          refine ⟨tgt, f1, ?_⟩
          rw [← f2]
          obtain ⟨za, zo⟩ := z
          rw [lv_osw (k := q.1) ex g1]
  obtain ⟨tgt, f1, f2⟩ := key ps.toList sw h3 h4 h
  exact lv_lookup hx hb hd h2 rfl f2 (hN _ f1 p e R s m args below meth c0 cells slots Q hC H locs ls hD2)
end BTD
end
section
/-! THE ABSTRACT MACHINE IS SOUND, 5: every instruction; many; a contract from its body -/
theorem bt_beqT {a b : Nat} (h : Nat.beq a b = true) : a = b := Nat.eq_of_beq_eq_true h
theorem bt_and {a b : Bool} (h : (a && b) = true) : a = true ∧ b = true := by cases a <;> cases b <;> first | exact ⟨rfl, rfl⟩ | cases h
theorem bt_or {a b : Bool} (h : (a || b) = true) : a = true ∨ b = true := by cases a <;> cases b <;> first | exact Or.inl rfl | exact Or.inr rfl | cases h
theorem bt_le100 {k : Nat} (h : Nat.ble (k + 1) 100 = true) : k < 100 := Nat.le_of_ble_eq_true h
theorem bt_shpP {k t : Nat} (h : (bt_shp k).1 = t) : bt_shp k = (t, (bt_shp k).2) := by rw [← h]
theorem bt_isob_inv {v : av_T} {c : Nat} (h : bt_isob v c = true) : ∃ k i, v = vr k i ∧ k < 100 ∧ bt_shp k = (0, c) := by
  rcases v with x | x | (_ | q)
  · cases h
  · cases h
  · cases h
  · obtain ⟨h1, h2⟩ := bt_and h
    obtain ⟨h3, h4⟩ := bt_and h1
    refine ⟨q.1, q.2, rfl, bt_le100 h2, ?_⟩
    rw [← bt_beqT h3, ← bt_beqT h4]
theorem bt_bfalse {a b : Nat} (h : Nat.beq a b = false) : ¬ a = b := fun e => by
  subst e
  rw [Nat.beq_refl] at h
  cases h
theorem bt_blefalse {a b : Nat} (h : Nat.ble a b = false) : ¬ a ≤ b := fun e => by
  rw [Nat.ble_eq_true_of_le e] at h
  cases h
set_option maxHeartbeats 4000000 in
/-- one instruction -/
theorem bt_sound {P : bt_PT} {d : Nat} {mi : bt_MI} {K : Option av_T → st_T → Prop} {pc : Nat} {L : List (Option av_T)} {S : List av_T} {σ : st_T} {en : bt_E} {Nx : bt_NT} (hd : decode mi.2.1 pc = .ok (en.1, en.2.1)) (hck : bt_ck mi.2.2.1 pc en = true) (hl : bt_link mi.1.cls en)
    (h : bt_st P (bt_WP P d) K mi.2.2.2 en pc L S σ Nx) (hN : ∀ pc' L' S' σ', Nx pc' L' S' σ' → bt_Go P d mi K pc' L' S' σ') : bt_Go P d mi K pc L S σ := by
  obtain ⟨ins, len, ⟨an, bn⟩, ⟨zi, zl⟩, sw, cm⟩ := en
  cases ins with
  | iconst n =>
    simp only [bt_ck, Bool.and_eq_true, decide_eq_true_eq] at hck
    obtain ⟨h1, h2⟩ := hck
    subst h2
    exact bt_s_iconst hd h1 (hN _ _ _ _ h)
  | bipush n =>
    simp only [bt_ck, Bool.and_eq_true, decide_eq_true_eq] at hck
    obtain ⟨h1, h2⟩ := hck
    subst h2
    exact bt_s_bipush hd h1 (hN _ _ _ _ h)
  | sipush n =>
    simp only [bt_ck, Bool.and_eq_true, decide_eq_true_eq] at hck
    obtain ⟨h1, h2⟩ := hck
    subst h2
    exact bt_s_sipush hd h1 (hN _ _ _ _ h)
  | lconst n =>
    simp only [bt_ck, Bool.and_eq_true, decide_eq_true_eq] at hck
    obtain ⟨h1, h2⟩ := hck
    subst h2
    exact bt_s_lconst hd h1 (hN _ _ _ _ h)
  | ldc idx =>
    simp only [bt_ck, Bool.and_eq_true, decide_eq_true_eq] at hck
    subst hck
    exact bt_s_ldc hd hl (hN _ _ _ _ h)
  | ldc_w idx =>
    simp only [bt_ck, Bool.and_eq_true, decide_eq_true_eq] at hck
    subst hck
    exact bt_s_ldcw hd hl (hN _ _ _ _ h)
  | ldc2_w idx =>
    simp only [bt_ck, Bool.and_eq_true, decide_eq_true_eq] at hck
    subst hck
    exact bt_s_ldc2 hd hl (hN _ _ _ _ h)
  | aconst_null =>
    simp only [bt_ck, Bool.and_eq_true, decide_eq_true_eq] at hck
    subst hck
    exact bt_s_null hd (hN _ _ _ _ h)
  | iload i =>
    simp only [bt_ck, Bool.and_eq_true, decide_eq_true_eq] at hck
    dsimp only [bt_st] at h
    subst hck
    obtain ⟨x, h1, h2⟩ := bt_li_inv h
    exact bt_s_iload hd h1 (hN _ _ _ _ h2)
  | iload_n i =>
    simp only [bt_ck, Bool.and_eq_true, decide_eq_true_eq] at hck
    dsimp only [bt_st] at h
    subst hck
    obtain ⟨x, h1, h2⟩ := bt_li_inv h
    exact bt_s_iload_n hd h1 (hN _ _ _ _ h2)
  | lload i =>
    simp only [bt_ck, Bool.and_eq_true, decide_eq_true_eq] at hck
    dsimp only [bt_st] at h
    subst hck
    obtain ⟨x, h1, h2⟩ := bt_ll_inv h
    exact bt_s_lload hd h1 (hN _ _ _ _ h2)
  | lload_n i =>
    simp only [bt_ck, Bool.and_eq_true, decide_eq_true_eq] at hck
    dsimp only [bt_st] at h
    subst hck
    obtain ⟨x, h1, h2⟩ := bt_ll_inv h
    exact bt_s_lload_n hd h1 (hN _ _ _ _ h2)
  | aload i =>
    simp only [bt_ck, Bool.and_eq_true, decide_eq_true_eq] at hck
    dsimp only [bt_st] at h
    subst hck
    obtain ⟨x, h1, h2⟩ := bt_la_inv h
    exact bt_s_aload hd h1 (hN _ _ _ _ h2)
  | aload_n i =>
    simp only [bt_ck, Bool.and_eq_true, decide_eq_true_eq] at hck
    dsimp only [bt_st] at h
    subst hck
    obtain ⟨x, h1, h2⟩ := bt_la_inv h
    exact bt_s_aload_n hd h1 (hN _ _ _ _ h2)
  | istore i =>
    simp only [bt_ck, Bool.and_eq_true, decide_eq_true_eq] at hck
    dsimp only [bt_st] at h
    obtain ⟨h1, h2⟩ := hck
    subst h2
    obtain ⟨x, r, rfl, h3, h4⟩ := bt_si_inv h
    exact bt_s_istore hd h1 h3 (hN _ _ _ _ h4)
  | istore_n i =>
    simp only [bt_ck, Bool.and_eq_true, decide_eq_true_eq] at hck
    dsimp only [bt_st] at h
    obtain ⟨h1, h2⟩ := hck
    subst h2
    obtain ⟨x, r, rfl, h3, h4⟩ := bt_si_inv h
    exact bt_s_istore_n hd h1 h3 (hN _ _ _ _ h4)
  | lstore i =>
    simp only [bt_ck, Bool.and_eq_true, decide_eq_true_eq] at hck
    dsimp only [bt_st] at h
    obtain ⟨h1, h2⟩ := hck
    subst h2
    obtain ⟨x, r, rfl, h3, h4⟩ := bt_sl_inv h
    exact bt_s_lstore hd h1 h3 (hN _ _ _ _ h4)
  | lstore_n i =>
    simp only [bt_ck, Bool.and_eq_true, decide_eq_true_eq] at hck
    dsimp only [bt_st] at h
    obtain ⟨h1, h2⟩ := hck
    subst h2
    obtain ⟨x, r, rfl, h3, h4⟩ := bt_sl_inv h
    exact bt_s_lstore_n hd h1 h3 (hN _ _ _ _ h4)
  | astore i =>
    simp only [bt_ck, Bool.and_eq_true, decide_eq_true_eq] at hck
    dsimp only [bt_st] at h
    obtain ⟨h1, h2⟩ := hck
    subst h2
    obtain ⟨x, r, rfl, h3, h4⟩ := bt_sa_inv h
    exact bt_s_astore hd h1 h3 (hN _ _ _ _ h4)
  | astore_n i =>
    simp only [bt_ck, Bool.and_eq_true, decide_eq_true_eq] at hck
    dsimp only [bt_st] at h
    obtain ⟨h1, h2⟩ := hck
    subst h2
    obtain ⟨x, r, rfl, h3, h4⟩ := bt_sa_inv h
    exact bt_s_astore_n hd h1 h3 (hN _ _ _ _ h4)
  | iinc i n =>
    simp only [bt_ck, Bool.and_eq_true, decide_eq_true_eq] at hck
    dsimp only [bt_st] at h
    obtain ⟨⟨h1, h2⟩, h3⟩ := hck
    subst h3
    obtain ⟨x, h4, h5⟩ := bt_li_inv h
    obtain ⟨h6, h7⟩ := bt_if_inv h5
    exact bt_s_iinc hd h1 h2 h4 (bt_not_inv h6) (hN _ _ _ _ h7)
  | iadd =>
    simp only [bt_ck, Bool.and_eq_true, decide_eq_true_eq] at hck
    dsimp only [bt_st] at h
    subst hck
    obtain ⟨x, y, r, rfl, h1⟩ := bt_u2_inv h
    exact bt_s_iadd hd (hN _ _ _ _ h1)
  | isub =>
    simp only [bt_ck, Bool.and_eq_true, decide_eq_true_eq] at hck
    dsimp only [bt_st] at h
    subst hck
    obtain ⟨x, y, r, rfl, h1⟩ := bt_u2_inv h
    exact bt_s_isub hd (hN _ _ _ _ h1)
  | imul =>
    simp only [bt_ck, Bool.and_eq_true, decide_eq_true_eq] at hck
    dsimp only [bt_st] at h
    subst hck
    obtain ⟨x, y, r, rfl, h1⟩ := bt_u2_inv h
    exact bt_s_imul hd (hN _ _ _ _ h1)
  | iand =>
    simp only [bt_ck, Bool.and_eq_true, decide_eq_true_eq] at hck
    dsimp only [bt_st] at h
    subst hck
    obtain ⟨x, y, r, rfl, h1⟩ := bt_u2_inv h
    exact bt_s_iand hd (hN _ _ _ _ h1)
  | ior =>
    simp only [bt_ck, Bool.and_eq_true, decide_eq_true_eq] at hck
    dsimp only [bt_st] at h
    subst hck
    obtain ⟨x, y, r, rfl, h1⟩ := bt_u2_inv h
    exact bt_s_ior hd (hN _ _ _ _ h1)
  | ixor =>
    simp only [bt_ck, Bool.and_eq_true, decide_eq_true_eq] at hck
    dsimp only [bt_st] at h
    subst hck
    obtain ⟨x, y, r, rfl, h1⟩ := bt_u2_inv h
    exact bt_s_ixor hd (hN _ _ _ _ h1)
  | ishl =>
    simp only [bt_ck, Bool.and_eq_true, decide_eq_true_eq] at hck
    dsimp only [bt_st] at h
    subst hck
    obtain ⟨x, y, r, rfl, h1⟩ := bt_u2_inv h
    exact bt_s_ishl hd (hN _ _ _ _ h1)
  | ishr =>
    simp only [bt_ck, Bool.and_eq_true, decide_eq_true_eq] at hck
    dsimp only [bt_st] at h
    subst hck
    obtain ⟨x, y, r, rfl, h1⟩ := bt_u2_inv h
    exact bt_s_ishr hd (hN _ _ _ _ h1)
  | iushr =>
    simp only [bt_ck, Bool.and_eq_true, decide_eq_true_eq] at hck
    dsimp only [bt_st] at h
    subst hck
    obtain ⟨x, y, r, rfl, h1⟩ := bt_u2_inv h
    exact bt_s_iushr hd (hN _ _ _ _ h1)
  | idiv =>
    simp only [bt_ck, Bool.and_eq_true, decide_eq_true_eq] at hck
    dsimp only [bt_st] at h
    subst hck
    obtain ⟨x, y, r, rfl, h1⟩ := bt_u2_inv h
    exact bt_s_idiv hd h1.1 (hN _ _ _ _ h1.2)
  | irem =>
    simp only [bt_ck, Bool.and_eq_true, decide_eq_true_eq] at hck
    dsimp only [bt_st] at h
    subst hck
    obtain ⟨x, y, r, rfl, h1⟩ := bt_u2_inv h
    exact bt_s_irem hd h1.1 (hN _ _ _ _ h1.2)
  | ladd =>
    simp only [bt_ck, Bool.and_eq_true, decide_eq_true_eq] at hck
    dsimp only [bt_st] at h
    subst hck
    obtain ⟨x, y, r, rfl, h1⟩ := bt_uLL_inv h
    exact bt_s_ladd hd (hN _ _ _ _ h1)
  | land =>
    simp only [bt_ck, Bool.and_eq_true, decide_eq_true_eq] at hck
    dsimp only [bt_st] at h
    subst hck
    obtain ⟨x, y, r, rfl, h1⟩ := bt_uLL_inv h
    exact bt_s_land hd (hN _ _ _ _ h1)
  | lor =>
    simp only [bt_ck, Bool.and_eq_true, decide_eq_true_eq] at hck
    dsimp only [bt_st] at h
    subst hck
    obtain ⟨x, y, r, rfl, h1⟩ := bt_uLL_inv h
    exact bt_s_lor hd (hN _ _ _ _ h1)
  | lcmp =>
    simp only [bt_ck, Bool.and_eq_true, decide_eq_true_eq] at hck
    dsimp only [bt_st] at h
    subst hck
    obtain ⟨x, y, r, rfl, h1⟩ := bt_uLL_inv h
    exact bt_s_lcmp hd (hN _ _ _ _ h1)
  | lshl =>
    simp only [bt_ck, Bool.and_eq_true, decide_eq_true_eq] at hck
    dsimp only [bt_st] at h
    subst hck
    obtain ⟨x, y, r, rfl, h1⟩ := bt_uLI_inv h
    exact bt_s_lshl hd (hN _ _ _ _ h1)
  | ineg =>
    simp only [bt_ck, Bool.and_eq_true, decide_eq_true_eq] at hck
    dsimp only [bt_st] at h
    subst hck
    obtain ⟨x, r, rfl, h1⟩ := bt_u1_inv h
    exact bt_s_ineg hd (hN _ _ _ _ h1)
  | i2l =>
    simp only [bt_ck, Bool.and_eq_true, decide_eq_true_eq] at hck
    dsimp only [bt_st] at h
    subst hck
    obtain ⟨x, r, rfl, h1⟩ := bt_u1_inv h
    exact bt_s_i2l hd (hN _ _ _ _ h1)
  | i2b =>
    simp only [bt_ck, Bool.and_eq_true, decide_eq_true_eq] at hck
    dsimp only [bt_st] at h
    subst hck
    obtain ⟨x, r, rfl, h1⟩ := bt_u1_inv h
    exact bt_s_i2b hd (hN _ _ _ _ h1)
  | i2s =>
    simp only [bt_ck, Bool.and_eq_true, decide_eq_true_eq] at hck
    dsimp only [bt_st] at h
    subst hck
    obtain ⟨x, r, rfl, h1⟩ := bt_u1_inv h
    exact bt_s_i2s hd (hN _ _ _ _ h1)
  | l2i =>
    simp only [bt_ck, Bool.and_eq_true, decide_eq_true_eq] at hck
    dsimp only [bt_st] at h
    subst hck
    obtain ⟨x, r, rfl, h1⟩ := bt_uL_inv h
    exact bt_s_l2i hd (hN _ _ _ _ h1)
  | dup =>
    simp only [bt_ck, Bool.and_eq_true, decide_eq_true_eq] at hck
    dsimp only [bt_st] at h
    subst hck
    cases S with
    | nil => exact h.elim
    | cons v r =>
      obtain ⟨h1, h2⟩ := bt_if_inv h
      exact bt_s_dup hd (bt_beqT h1) (hN _ _ _ _ h2)
  | dup2 =>
    simp only [bt_ck, Bool.and_eq_true, decide_eq_true_eq] at hck
    dsimp only [bt_st] at h
    subst hck
    rcases S with _ | ⟨v, _ | ⟨w, r⟩⟩
    · exact h.elim
    · exact h.elim
    · obtain ⟨h1, h2⟩ := bt_if_inv h
      exact bt_s_dup2 hd (bt_beqT (bt_and h1).1) (bt_beqT (bt_and h1).2) (hN _ _ _ _ h2)
  | pop =>
    simp only [bt_ck, Bool.and_eq_true, decide_eq_true_eq] at hck
    dsimp only [bt_st] at h
    subst hck
    cases S with
    | nil => exact h.elim
    | cons v r =>
      obtain ⟨h1, h2⟩ := bt_if_inv h
      exact bt_s_pop hd (bt_beqT h1) (hN _ _ _ _ h2)
  | goto off =>
    simp only [bt_ck, Bool.and_eq_true, decide_eq_true_eq] at hck
    obtain ⟨h1, h2⟩ := hck
    subst h2
    exact bt_s_goto hd h1 (hN _ _ _ _ h)
  | ifCond cc off =>
    simp only [bt_ck, Bool.and_eq_true, decide_eq_true_eq] at hck
    dsimp only [bt_st] at h
    obtain ⟨h1, h2⟩ := hck
    subst h2
    cases cc
    · obtain ⟨x, r, rfl, h3, h4⟩ := bt_u1_inv h
      exact bt_s_if_eq hd h1 (fun z => hN _ _ _ _ (h3 z)) (fun z => hN _ _ _ _ (h4 z))
    · obtain ⟨x, r, rfl, h3, h4⟩ := bt_u1_inv h
      exact bt_s_if_ne hd h1 (fun z => hN _ _ _ _ (h3 z)) (fun z => hN _ _ _ _ (h4 z))
    · obtain ⟨x, r, rfl, h3, h4⟩ := bt_u1_inv h
      exact bt_s_if_lt hd h1 (fun z => hN _ _ _ _ (h3 z)) (fun z => hN _ _ _ _ (h4 z))
    · obtain ⟨x, r, rfl, h3, h4⟩ := bt_u1_inv h
      exact bt_s_if_ge hd h1 (fun z => hN _ _ _ _ (h3 z)) (fun z => hN _ _ _ _ (h4 z))
    · obtain ⟨x, r, rfl, h3, h4⟩ := bt_u1_inv h
      exact bt_s_if_gt hd h1 (fun z => hN _ _ _ _ (h3 z)) (fun z => hN _ _ _ _ (h4 z))
    · obtain ⟨x, r, rfl, h3, h4⟩ := bt_u1_inv h
      exact bt_s_if_le hd h1 (fun z => hN _ _ _ _ (h3 z)) (fun z => hN _ _ _ _ (h4 z))
  | if_icmp cc off =>
    simp only [bt_ck, Bool.and_eq_true, decide_eq_true_eq] at hck
    dsimp only [bt_st] at h
    obtain ⟨h1, h2⟩ := hck
    subst h2
    cases cc
    · obtain ⟨x, y, r, rfl, h3, h4⟩ := bt_u2_inv h
      exact bt_s_icmp_eq hd h1 (fun z => hN _ _ _ _ (h3 z)) (fun z => hN _ _ _ _ (h4 z))
    · obtain ⟨x, y, r, rfl, h3, h4⟩ := bt_u2_inv h
      exact bt_s_icmp_ne hd h1 (fun z => hN _ _ _ _ (h3 z)) (fun z => hN _ _ _ _ (h4 z))
    · obtain ⟨x, y, r, rfl, h3, h4⟩ := bt_u2_inv h
      exact bt_s_icmp_lt hd h1 (fun z => hN _ _ _ _ (h3 z)) (fun z => hN _ _ _ _ (h4 z))
    · obtain ⟨x, y, r, rfl, h3, h4⟩ := bt_u2_inv h
      exact bt_s_icmp_ge hd h1 (fun z => hN _ _ _ _ (h3 z)) (fun z => hN _ _ _ _ (h4 z))
    · obtain ⟨x, y, r, rfl, h3, h4⟩ := bt_u2_inv h
      exact bt_s_icmp_gt hd h1 (fun z => hN _ _ _ _ (h3 z)) (fun z => hN _ _ _ _ (h4 z))
    · obtain ⟨x, y, r, rfl, h3, h4⟩ := bt_u2_inv h
      exact bt_s_icmp_le hd h1 (fun z => hN _ _ _ _ (h3 z)) (fun z => hN _ _ _ _ (h4 z))
  | ifnull off =>
    simp only [bt_ck, Bool.and_eq_true, decide_eq_true_eq] at hck
    dsimp only [bt_st] at h
    obtain ⟨h1, h2⟩ := hck
    subst h2
    obtain ⟨x, r, rfl, h3, h4⟩ := bt_uA_inv h
    exact bt_s_ifnull hd h1 (fun z => hN _ _ _ _ (h3 z)) (fun z => hN _ _ _ _ (h4 z))
  | ifnonnull off =>
    simp only [bt_ck, Bool.and_eq_true, decide_eq_true_eq] at hck
    dsimp only [bt_st] at h
    obtain ⟨h1, h2⟩ := hck
    subst h2
    obtain ⟨x, r, rfl, h3, h4⟩ := bt_uA_inv h
    exact bt_s_ifnonnull hd h1 (fun z => hN _ _ _ _ (h3 z)) (fun z => hN _ _ _ _ (h4 z))
  | tableswitch dv lo hi offs =>
    dsimp only [bt_st] at h
    obtain ⟨x, r, rfl, h1⟩ := bt_u1_inv h
    exact bt_s_table hd hck (fun t ht => hN _ _ _ _ ht) h1
  | lookupswitch dv ps =>
    dsimp only [bt_st] at h
    obtain ⟨x, r, rfl, h1⟩ := bt_u1_inv h
    exact bt_s_look hd hck (fun t ht => hN _ _ _ _ ht) h1
  | getfield idx =>
    simp only [bt_ck, Bool.and_eq_true, decide_eq_true_eq] at hck
    dsimp only [bt_st] at h
    subst hck
    obtain ⟨k, i, r, rfl, h1⟩ := bt_uO_inv h
    obtain ⟨h2, h3⟩ := bt_tag_inv h1
    obtain ⟨h4, h5⟩ := bt_if_inv h3
    obtain ⟨h6, h7⟩ := bt_and h4
    obtain ⟨h8, h9⟩ := bt_and h6
    have hk := bt_le100 h8
    have hc : (bt_shp k).2 = an := bt_beqT h9
    have hs : bt_shp k = (0, an) := by rw [← hc, ← h2]
    have hj : bn < bt_nf an := by rw [← hc]; exact Nat.le_of_ble_eq_true h7
    rw [hc] at h5
    refine bt_s_getfield hd hl hk hs hj (fun z => ?_) (fun z => ?_)
    · rcases bt_ife_inv h5 with ⟨-, q⟩ | ⟨q1, -⟩
      · exact hN _ _ _ _ q
      · exact absurd z (bt_bfalse q1)
    · rcases bt_ife_inv h5 with ⟨q1, -⟩ | ⟨-, q⟩
      · exact absurd (bt_beqT q1) z
      · exact hN _ _ _ _ q
  | putfield idx =>
    simp only [bt_ck, Bool.and_eq_true, decide_eq_true_eq] at hck
    dsimp only [bt_st] at h
    subst hck
    rcases S with _ | ⟨v, _ | ⟨w, r⟩⟩
    · exact h.elim
    · rcases v with x | x | (_ | x) <;> exact h.elim
    rcases v with x | x | (_ | x)
    rotate_left
    · exact h.elim
    · exact h.elim
    · exact h.elim
    rcases w with y | y | (_ | q)
    · exact h.elim
    · exact h.elim
    · exact h.elim
    obtain ⟨k, i⟩ := q
    obtain ⟨h2, h3⟩ := bt_tag_inv h
    obtain ⟨h4, h5⟩ := bt_if_inv h3
    obtain ⟨h6, h7⟩ := bt_and h4
    obtain ⟨h8, h9⟩ := bt_and h6
    have hk := bt_le100 h8
    have hc : (bt_shp k).2 = an := bt_beqT h9
    have hs : bt_shp k = (0, an) := by rw [← hc, ← h2]
    have hj : bn < bt_nf an := by rw [← hc]; exact Nat.le_of_ble_eq_true h7
    dsimp only at h5
    rw [hc] at h5
    rcases bt_ife_inv h5 with ⟨q1, q2⟩ | ⟨-, q⟩
    · exact bt_s_putfield hd hl hk hs hj (Or.inl (bt_beqT q1)) (hN _ _ _ _ q2)
    · obtain ⟨q1, q2, q3⟩ := bt_if_inv q
      exact bt_s_putfield hd hl hk hs hj (Or.inr ⟨bt_beqT q1, q2⟩) (hN _ _ _ _ q3)
  | getstatic idx =>
    simp only [bt_ck, Bool.and_eq_true, decide_eq_true_eq] at hck
    subst hck
    exact bt_s_getstatic hd hl (hN _ _ _ _ h)
  | arraylength =>
    simp only [bt_ck, Bool.and_eq_true, decide_eq_true_eq] at hck
    dsimp only [bt_st] at h
    subst hck
    obtain ⟨k, i, r, rfl, h1⟩ := bt_uO_inv h
    rcases bt_ife_inv h1 with ⟨q1, q2⟩ | ⟨q1, q2⟩
    · exact bt_s_alen_st hd (Nat.not_lt.mpr (Nat.le_of_ble_eq_true q1)) (hN _ _ _ _ q2)
    · obtain ⟨q3, q4⟩ := bt_if_inv q2
      exact bt_s_alen hd (Nat.not_le.mp (bt_blefalse q1)) (bt_bfalse (bt_not_inv q3)) (hN _ _ _ _ q4)
  | iaload =>
    simp only [bt_ck, Bool.and_eq_true, decide_eq_true_eq] at hck
    dsimp only [bt_st] at h
    subst hck
    obtain ⟨k, i, j, r, rfl, h1⟩ := bt_uAr_inv h
    rcases bt_ife_inv h1 with ⟨q1, q2, q3⟩ | ⟨q1, q2⟩
    · exact bt_s_iald_st hd (Nat.not_lt.mpr (Nat.le_of_ble_eq_true q1)) q2 (hN _ _ _ _ q3)
    · obtain ⟨q3, q4, q5⟩ := bt_tag_inv q2
      exact bt_s_iaload hd (Nat.not_le.mp (bt_blefalse q1)) (bt_shpP q3) q4 (hN _ _ _ _ q5)
  | laload =>
    simp only [bt_ck, Bool.and_eq_true, decide_eq_true_eq] at hck
    dsimp only [bt_st] at h
    subst hck
    obtain ⟨k, i, j, r, rfl, h1⟩ := bt_uAr_inv h
    obtain ⟨q1, q2⟩ := bt_if_inv h1
    obtain ⟨q3, q4, q5⟩ := bt_tag_inv q2
    exact bt_s_laload hd (bt_le100 q1) (bt_shpP q3) q4 (hN _ _ _ _ q5)
  | baload =>
    simp only [bt_ck, Bool.and_eq_true, decide_eq_true_eq] at hck
    dsimp only [bt_st] at h
    subst hck
    obtain ⟨k, i, j, r, rfl, h1⟩ := bt_uAr_inv h
    obtain ⟨q1, q2⟩ := bt_if_inv h1
    obtain ⟨q3, q4, q5⟩ := bt_tag_inv q2
    exact bt_s_baload hd (bt_le100 q1) (bt_shpP q3) q4 (hN _ _ _ _ q5)
  | saload =>
    simp only [bt_ck, Bool.and_eq_true, decide_eq_true_eq] at hck
    dsimp only [bt_st] at h
    subst hck
    obtain ⟨k, i, j, r, rfl, h1⟩ := bt_uAr_inv h
    obtain ⟨q1, q2⟩ := bt_if_inv h1
    obtain ⟨q3, q4, q5⟩ := bt_tag_inv q2
    exact bt_s_saload hd (bt_le100 q1) (bt_shpP q3) q4 (hN _ _ _ _ q5)
  | aaload =>
    simp only [bt_ck, Bool.and_eq_true, decide_eq_true_eq] at hck
    dsimp only [bt_st] at h
    subst hck
    obtain ⟨k, i, j, r, rfl, h1⟩ := bt_uAr_inv h
    obtain ⟨q1, q2, q3⟩ := bt_if_inv h1
    obtain ⟨q4, q5⟩ := bt_and q1
    exact bt_s_aaload hd (bt_le100 q4) ((bt_or q5).imp bt_beqT bt_beqT) q2 (hN _ _ _ _ q3)
  | iastore =>
    simp only [bt_ck, Bool.and_eq_true, decide_eq_true_eq] at hck
    dsimp only [bt_st] at h
    subst hck
    obtain ⟨k, i, j, v, r, rfl, h1⟩ := bt_uAsI_inv h
    obtain ⟨q1, q2⟩ := bt_if_inv h1
    obtain ⟨q3, q4, q5⟩ := bt_tag_inv q2
    exact bt_s_iastore hd (bt_le100 q1) (bt_shpP q3) q4 (hN _ _ _ _ q5)
  | bastore =>
    simp only [bt_ck, Bool.and_eq_true, decide_eq_true_eq] at hck
    dsimp only [bt_st] at h
    subst hck
    obtain ⟨k, i, j, v, r, rfl, h1⟩ := bt_uAsI_inv h
    obtain ⟨q1, q2⟩ := bt_if_inv h1
    obtain ⟨q3, q4, q5⟩ := bt_tag_inv q2
    exact bt_s_bastore hd (bt_le100 q1) (bt_shpP q3) q4 (hN _ _ _ _ q5)
  | sastore =>
    simp only [bt_ck, Bool.and_eq_true, decide_eq_true_eq] at hck
    dsimp only [bt_st] at h
    subst hck
    obtain ⟨k, i, j, v, r, rfl, h1⟩ := bt_uAsI_inv h
    obtain ⟨q1, q2⟩ := bt_if_inv h1
    obtain ⟨q3, q4, q5⟩ := bt_tag_inv q2
    exact bt_s_sastore hd (bt_le100 q1) (bt_shpP q3) q4 (hN _ _ _ _ q5)
  | lastore =>
    simp only [bt_ck, Bool.and_eq_true, decide_eq_true_eq] at hck
    dsimp only [bt_st] at h
    subst hck
    obtain ⟨k, i, j, v, r, rfl, h1⟩ := bt_uAsL_inv h
    obtain ⟨q1, q2⟩ := bt_if_inv h1
    obtain ⟨q3, q4, q5⟩ := bt_tag_inv q2
    exact bt_s_lastore hd (bt_le100 q1) (bt_shpP q3) q4 (hN _ _ _ _ q5)
  | invokevirtual idx =>
    simp only [bt_ck, Bool.and_eq_true, decide_eq_true_eq] at hck
    dsimp only [bt_st] at h
    subst hck
    obtain ⟨h1, h2⟩ := bt_if_inv h
    obtain ⟨top, r, rfl, h3, h4⟩ := bt_args_inv _ _ _ _ h2
    rw [List.append_nil] at h4
    obtain ⟨h5, h6⟩ := bt_if_inv h4
    obtain ⟨h7, h8⟩ := bt_and h5
    have hb : ¬ bn = 100 := fun e => by
      have h0 : bn < 100 := bt_le100 h1
      omega
    rcases bt_or h8 with h9 | h9
    · exact absurd (bt_beqT h9) hb
    have hrev : top = (top.reverse).reverse := (List.reverse_reverse top).symm
    generalize top.reverse = as at hrev h6 h9
    subst hrev
    cases as with
    | nil => cases h9
    | cons v as =>
      obtain ⟨k, i, rfl, h10, h11⟩ := bt_isob_inv h9
      have hlen : (vr k i :: as).length = an := by rw [← List.length_reverse]; exact h3
      exact bt_s_callV hd hl hlen (Nat.le_of_ble_eq_true h7) h10 h11 h6 (fun v σ' hNx _ => hN _ _ _ _ hNx)
  | invokestatic idx =>
    simp only [bt_ck, Bool.and_eq_true, decide_eq_true_eq] at hck
    dsimp only [bt_st] at h
    subst hck
    rcases bt_ife_inv h with ⟨q1, q2⟩ | ⟨q1, q2⟩
    · have hlc := hl.2 (bt_beqT q1)
      unfold bt_cpy at q2
      split at q2
      · next n dp qd sp qs r =>
        obtain ⟨kd, id⟩ := qd
        obtain ⟨ks, is⟩ := qs
        obtain ⟨g1, g2⟩ := bt_if_inv q2
        obtain ⟨g3, g4⟩ := bt_and g1
        obtain ⟨g5, g6⟩ := bt_and g3
        rcases bt_ife_inv g2 with ⟨f1, ⟨f2, f3, f4, f5, f6⟩, f7⟩ | ⟨-, f1⟩
        · exact bt_s_cpyi hd hlc (bt_le100 g5) (bt_le100 g6) (bt_shpP (bt_beqT (bt_and f1).1)) (bt_shpP (bt_beqT (bt_and f1).2)) (Nat.le_of_ble_eq_true g4) f2 f3 f4 f5 f6 (hN _ _ _ _ f7)
        · obtain ⟨e1, ⟨f2, f3, f4, f5, f6⟩, f7⟩ := bt_if_inv f1
          exact bt_s_cpyl hd hlc (bt_le100 g5) (bt_le100 g6) (bt_shpP (bt_beqT (bt_and e1).1)) (bt_shpP (bt_beqT (bt_and e1).2)) (Nat.le_of_ble_eq_true g4) f2 f3 f4 f5 f6 (hN _ _ _ _ f7)
      · exact q2.elim
    · obtain ⟨g1, g2⟩ := bt_if_inv q2
      have hls := hl.1 (bt_beqT g1)
      obtain ⟨top, r, rfl, h3, h4⟩ := bt_args_inv _ _ _ _ g2
      rw [List.append_nil] at h4
      obtain ⟨h5, h6⟩ := bt_if_inv h4
      obtain ⟨h7, h8⟩ := bt_and h5
      have hrev : top = (top.reverse).reverse := (List.reverse_reverse top).symm
      generalize top.reverse = as at hrev h6
      subst hrev
      have hlen : as.length = an := by rw [← List.length_reverse]; exact h3
      exact bt_s_callS hd hls hlen (Nat.le_of_ble_eq_true h7) h6 (fun v σ' hNx _ => hN _ _ _ _ hNx)
  | ireturn =>
    simp only [bt_ck, Bool.and_eq_true, decide_eq_true_eq] at hck
    subst hck
    rcases S with _ | ⟨v, _ | ⟨w, r⟩⟩
    · exact h.elim
    rcases v with x | x | x
    · have hret : ∃ ty, mi.2.2.2 = some ty := by
        cases e : mi.2.2.2 with
        | none => simp only [bt_st, e] at h
        | some ty => exact ⟨ty, rfl⟩
      obtain ⟨ty, hty⟩ := hret
      simp only [bt_st, hty] at h
      cases ty <;> first | exact h.elim | exact bt_s_ret (v := some (vi x)) hd (Or.inl hty) h | exact bt_s_ret (v := some (vi x)) hd (Or.inr ⟨hty, h.1⟩) h.2
    · exact h.elim
    · exact h.elim
    · rcases v with x | x | x <;> exact h.elim
  | lreturn =>
    simp only [bt_ck, Bool.and_eq_true, decide_eq_true_eq] at hck
    subst hck
    simp only [bt_st] at h
    split at h
    · next x hty => exact bt_s_ret (v := some (vl x)) hd (by assumption) h
    · exact h.elim
  | areturn =>
    simp only [bt_ck, Bool.and_eq_true, decide_eq_true_eq] at hck
    subst hck
    simp only [bt_st] at h
    split at h
    · next x n hty => exact bt_s_ret (v := some (.inr (.inr x))) hd ⟨n, by assumption⟩ h
    · exact h.elim
  | return_ =>
    simp only [bt_ck, Bool.and_eq_true, decide_eq_true_eq] at hck
    subst hck
    simp only [bt_st] at h
    split at h
    · next hty => exact bt_s_ret (v := none) hd (by assumption) h
    · exact h.elim
  | _ => exact h.elim
theorem bt_dec_suf {bytes : ByteArray} {maxL : Nat} : ∀ (T : List bt_E) (c t : Nat), bt_dec bytes maxL c T = true → bt_dec bytes maxL t (bt_suf T c t) = true
  | [], c, t, h => rfl
  | en :: r, c, t, h => by
    unfold bt_suf
    cases hb : Nat.beq c t with
    | true =>
      rw [← bt_beqT hb]
      exact h
    | false =>
      have h2 : bt_dec bytes maxL (c + en.2.1) r = true := (bt_and h).2
      exact bt_dec_suf r _ t h2
theorem bt_links_suf {own : String} : ∀ (T : List bt_E) (c t : Nat), bt_links own T → bt_links own (bt_suf T c t)
  | [], c, t, h => trivial
  | en :: r, c, t, h => by
    unfold bt_suf
    cases hb : Nat.beq c t with
    | true => exact h
    | false => exact bt_links_suf r _ t h.2
/-- a code table is a method's own -/
def bt_T (mi : bt_MI) (T : List bt_E) : Prop := bt_dec mi.2.1 mi.2.2.1 0 T = true ∧ bt_links mi.1.cls T
theorem bt_ex_sound {P : bt_PT} {d : Nat} {mi : bt_MI} {K : Option av_T → st_T → Prop} {T : List bt_E} (hT : bt_T mi T) (cuts : List Nat) : ∀ (f pc : Nat) (rest : List bt_E) (L : List (Option av_T)) (S : List av_T) (σ : st_T), bt_dec mi.2.1 mi.2.2.1 pc rest = true → bt_links mi.1.cls rest → bt_ex P (bt_WP P d) (bt_Go P d mi K) K mi.2.2.2 T cuts f pc rest L S σ → bt_Go P d mi K pc L S σ
  | 0, pc, rest, L, S, σ, _, _, h => h
  | f + 1, pc, [], L, S, σ, _, _, h => h.elim
  | f + 1, pc, en :: rest, L, S, σ, hd, hl, h => by
    obtain ⟨h1, h2⟩ := bt_and hd
    obtain ⟨h3, h4⟩ := bt_and h1
    refine bt_sound (of_decide_eq_true h3) h4 hl.1 h (fun pc' L' S' σ' hN => ?_)
    rcases bt_ife_inv hN with ⟨-, q⟩ | ⟨-, q⟩
    · exact q
    · rcases bt_ife_inv q with ⟨q1, q2⟩ | ⟨-, q2⟩
      · rw [bt_beqT q1] at *
        exact bt_ex_sound hT cuts f _ rest L' S' σ' h2 hl.2 q2
      · exact bt_ex_sound hT cuts f pc' _ L' S' σ' (bt_dec_suf T 0 pc' hT.1) (bt_links_suf T 0 pc' hT.2) q2
/-- a method's rule: from a place on, up to the cut points -/
theorem bt_run {P : bt_PT} {d : Nat} {mi : bt_MI} {K : Option av_T → st_T → Prop} {T : List bt_E} (hT : bt_T mi T) (cuts : List Nat) (f pc : Nat) {L : List (Option av_T)} {S : List av_T} {σ : st_T} (h : bt_ex P (bt_WP P d) (bt_Go P d mi K) K mi.2.2.2 T cuts f pc (bt_suf T 0 pc) L S σ) : bt_Go P d mi K pc L S σ :=
  bt_ex_sound hT cuts f pc _ L S σ (bt_dec_suf T 0 pc hT.1) (bt_links_suf T 0 pc hT.2) h
-- ---------- a contract
def bt_spr : List av_T → List (Option av_T)
  | [] => []
  | v :: r => match v with
    | .inr (.inl _) => some v :: none :: bt_spr r
    | _ => some v :: bt_spr r
theorem bt_spr_sl (P : bt_PT) (n : Nat) : ∀ (as : List av_T) (i : Nat) (v : av_T), bt_nth none (bt_spr as) i = some v → (lg_sl (as.map (bt_va P)) ++ List.replicate n Slot.unset)[i]? = some (.val (bt_va P v))
  | [], i, v, h => by cases i <;> cases h
  | a :: r, i, v, h => by
    rcases a with x | x | x
    · have e : lg_sl (List.map (bt_va P) (.inl x :: r)) = .val (.int x) :: lg_sl (r.map (bt_va P)) := rfl
      rw [e]
      cases i with
      | zero => cases h; rfl
      | succ i => exact bt_spr_sl P n r i v h
    · have e : lg_sl (List.map (bt_va P) (.inr (.inl x) :: r)) = .val (.long x) :: .second :: lg_sl (r.map (bt_va P)) := rfl
      rw [e]
      match i, h with
      | 0, h => cases h; rfl
      | 1, h => cases h
      | i + 2, h => exact bt_spr_sl P n r i v h
    · have e : lg_sl (List.map (bt_va P) (.inr (.inr x) :: r)) = .val (bt_va P (.inr (.inr x))) :: lg_sl (r.map (bt_va P)) := by
        cases x <;> rfl
      rw [e]
      cases i with
      | zero => cases h; rfl
      | succ i => exact bt_spr_sl P n r i v h
theorem bt_spr_ok : ∀ (as : List av_T), (∀ a ∈ as, bt_okv a) → ∀ i v, bt_nth none (bt_spr as) i = some v → bt_okv v
  | [], _, i, v, h => by cases i <;> cases h
  | a :: r, ho, i, v, h => by
    have hr := fun a ha => ho a (List.mem_cons_of_mem _ ha)
    rcases a with x | x | x
    · cases i with
      | zero => cases h; trivial
      | succ i => exact bt_spr_ok r hr i v h
    · match i, h with
      | 0, h => cases h; trivial
      | 1, h => cases h
      | i + 2, h => exact bt_spr_ok r hr i v h
    · cases i with
      | zero => cases h; exact ho _ List.mem_cons_self
      | succ i => exact bt_spr_ok r hr i v h
def bt_wid : List av_T → Nat
  | [] => 0
  | v :: r => bt_cat v + bt_wid r
theorem bt_wid_sl (P : bt_PT) : ∀ as : List av_T, (lg_sl (as.map (bt_va P))).length = bt_wid as
  | [] => rfl
  | a :: r => by
    rcases a with x | x | x
    · show (Slot.val (.int x) :: lg_sl (r.map (bt_va P))).length = 1 + bt_wid r
      rw [List.length_cons, bt_wid_sl P r]; omega
    · show (Slot.val (.long x) :: Slot.second :: lg_sl (r.map (bt_va P))).length = 2 + bt_wid r
      rw [List.length_cons, List.length_cons, bt_wid_sl P r]; omega
    · have e : lg_sl (List.map (bt_va P) (.inr (.inr x) :: r)) = .val (bt_va P (.inr (.inr x))) :: lg_sl (r.map (bt_va P)) := by
        cases x <;> rfl
      rw [e, List.length_cons, bt_wid_sl P r]
      show _ = 1 + bt_wid r
      omega
set_option maxHeartbeats 2000000 in
theorem bt_met {P : bt_PT} {d : Nat} {mi : bt_MI} {K : Option av_T → st_T → Prop} {as : List av_T} {σ : st_T} (hp : plainName mi.1.cls = true) (hw : Nat.ble (bt_wid as) mi.2.2.1 = true) (h : bt_Go P d mi K 0 (bt_spr as) [] σ) : bt_WP P (d + 1) mi as σ K := by
  unfold bt_WP
  refine Met.ofW (cc := mi.2.1) (maxL := mi.2.2.1) (ret := mi.2.2.2) hp rfl ?_
  intro p e s m args below meth c s₁ B hml hv
  obtain ⟨rfl, ho, hP, hK, hSF, hokP, hNW⟩ := hv
  have hts := atoms_spec (ws := Cond.code mi.1 mi.2.1 mi.2.2.1 mi.2.2.2 :: bt_gw) B.pre
  have hC : bt_Cx P mi p s m (as.map (bt_va P)).toArray meth c := ⟨B.exec, B.bytes, hml, B.returns, B.notSynchronized, findClass_of_methodNamed B.named, fun w hw => hts w (List.mem_cons_of_mem _ hw), hK, hSF, hokP, hNW⟩
  have hle : (lg_sl (as.map (bt_va P))).length ≤ mi.2.2.1 := by rw [bt_wid_sl]; exact Nat.le_of_ble_eq_true hw
  have hl := lv_entry (as.map (bt_va P)) hle
  rw [lg_entry_eq]
  refine h p e (bt_rm (d + 1)) s m _ below meth c 0 0 _ ⟨hC, Nat.le_refl _, Nat.le_refl _, ⟨Nat.zero_le _, Nat.zero_le _⟩, ?_⟩ s.heap [] _ ⟨⟨hl.1, hl.2.1, fun i v hi => ?_⟩, (fun v hv => by cases hv), bt_spr_ok as ho, hP, va_S.rf⟩
  · intro r σ' H locs pc ls hKr hor hP1 hS hd hty
    have hx := B.exec
    have hb := B.bytes
    have hr := B.returns
    have hlocks := B.notSynchronized
    have hq : ∀ o : Outcome, o = .returned (r.map (bt_va P)) → ∀ t : State, t.heap = H → s.WarmedH t.vm → bt_Qc P K (as.map (bt_va P)).toArray s o t := fun o ho t ht _ => ⟨⟨r, σ', ho, hKr, hor, by rw [ht]; exact hP1⟩, hS.F ht⟩
    have hf : ∀ q ∈ locs, bt_A P q.base := hS.2.2
    rcases r with _ | (x | x | x)
    · exact W.vret hx hb (by rw [hr]; exact hty) (hq _ rfl) hf hd hlocks
    · rcases hty with hty | ⟨hty, h01⟩
      · exact W.iret hx hb (by rw [hr]; exact hty) (hq _ rfl) hf hd hlocks
      · exact W.zret (ty := .boolean) hx hb (by rw [hr]; exact hty) (by rcases h01 with rfl | rfl <;> rfl) (hq _ rfl) hf hd hlocks
    · exact W.lret hx hb (by rw [hr]; exact hty) (hq _ rfl) hf hd hlocks
    · obtain ⟨n, hty⟩ := hty
      cases x with
      | none => exact W.aret hx hb (by rw [hr]; exact hty) (Or.inl ⟨n, rfl⟩) (Or.inl rfl) (hq _ rfl) hf hd hlocks
      | some q => exact W.aret hx hb (by rw [hr]; exact hty) (Or.inl ⟨n, rfl⟩) (Or.inr ⟨_, rfl⟩) (hq _ rfl) hf hd hlocks
  · have := bt_spr_sl P (mi.2.2.1 - (lg_sl (as.map (bt_va P))).length) as i v hi
    simpa using this
theorem bt_WP_imp {P : bt_PT} {d : Nat} {mi : bt_MI} {K K' : Option av_T → st_T → Prop} {as : List av_T} {σ : st_T} (h : bt_WP P d mi as σ K) (hK : ∀ r σ', K r σ' → K' r σ') : bt_WP P d mi as σ K' := by
  intro p e ha hc hk s m args below hf happ hpre hkk
  obtain ⟨k, o, h1, h2, h3, ⟨⟨⟨r, σ', ho, hKr, hor, hPr⟩, hF⟩, hL⟩⟩ := h p e ha hc hk s m args below hf happ hpre hkk
  exact ⟨k, o, h1, h2, h3, ⟨⟨r, σ', ho, hK _ _ hKr, hor, hPr⟩, hF⟩, hL⟩
end
section
/-! printed by wip/whole/gencode.py: the methods, the links, the code tables -/
theorem bt_tin1 {w : Cond} (h : w ∈ tables_1_1) : w ∈ lw_tbl := List.mem_append_right _ (by unfold tables_1; exact List.mem_append_left _ h)
theorem bt_tin2 {w : Cond} (h : w ∈ tables_1_2) : w ∈ lw_tbl := List.mem_append_right _ (by unfold tables_1; exact List.mem_append_right _ (List.mem_append_left _ h))
theorem bt_tin3 {w : Cond} (h : w ∈ tables_1_3) : w ∈ lw_tbl := List.mem_append_right _ (by unfold tables_1; exact List.mem_append_right _ (List.mem_append_right _ (List.mem_append_left _ h)))
theorem bt_tin4 {w : Cond} (h : w ∈ tables_1_4) : w ∈ lw_tbl := List.mem_append_right _ (by unfold tables_1; exact List.mem_append_right _ (List.mem_append_right _ (List.mem_append_right _ (List.mem_append_left _ h))))
theorem bt_tin5 {w : Cond} (h : w ∈ tables_1_5) : w ∈ lw_tbl := List.mem_append_right _ (by unfold tables_1; exact List.mem_append_right _ (List.mem_append_right _ (List.mem_append_right _ (List.mem_append_right _ (List.mem_append_left _ h)))))
theorem bt_tin6 {w : Cond} (h : w ∈ tables_1_6) : w ∈ lw_tbl := List.mem_append_right _ (by unfold tables_1; exact List.mem_append_right _ (List.mem_append_right _ (List.mem_append_right _ (List.mem_append_right _ (List.mem_append_right _ (List.mem_append_left _ h))))))
theorem bt_tin7 {w : Cond} (h : w ∈ tables_1_7) : w ∈ lw_tbl := List.mem_append_right _ (by unfold tables_1; exact List.mem_append_right _ (List.mem_append_right _ (List.mem_append_right _ (List.mem_append_right _ (List.mem_append_right _ (List.mem_append_right _ (h)))))))
def bt_m0 : bt_MI := (⟨"", "", ""⟩, ⟨#[]⟩, 0, none)
abbrev e0 (i : Instr) (n : Nat) : bt_E := (i, n, (0, 0), (0, 0), [], bt_m0)
abbrev e1 (i : Instr) (n : Nat) (v : Int32) : bt_E := (i, n, (0, 0), (v, 0), [], bt_m0)
abbrev e2 (i : Instr) (n : Nat) (v : Int64) : bt_E := (i, n, (0, 0), (0, v), [], bt_m0)
abbrev eb (i : Instr) (t : Nat) : bt_E := (i, 3, (t, 0), (0, 0), [], bt_m0)
abbrev ef (i : Instr) (x y : Nat) : bt_E := (i, 3, (x, y), (0, 0), [], bt_m0)
abbrev em (i : Instr) (x y : Nat) (m : bt_MI) : bt_E := (i, 3, (x, y), (0, 0), [], m)
abbrev ew (i : Instr) (n t : Nat) (s : List (Int32 × Nat)) : bt_E := (i, n, (t, 0), (0, 0), s, bt_m0)
theorem bt_inG0 : ∀ w ∈ u_ws bt_R0 bt_T0 9, w ∈ bt_gw := by
  intro w hw
  refine bt_gin (bt_in0 w hw) ?_
  obtain ⟨k, hk, rfl⟩ := List.mem_map.mp hw
  unfold u_lay; split <;> rfl
theorem bt_inG1 : ∀ w ∈ u_ws bt_R1 bt_T1 7, w ∈ bt_gw := by
  intro w hw
  refine bt_gin (bt_in1 w hw) ?_
  obtain ⟨k, hk, rfl⟩ := List.mem_map.mp hw
  unfold u_lay; split <;> rfl
theorem bt_inG2 : ∀ w ∈ u_ws bt_R2 bt_T2 15, w ∈ bt_gw := by
  intro w hw
  refine bt_gin (bt_in2 w hw) ?_
  obtain ⟨k, hk, rfl⟩ := List.mem_map.mp hw
  unfold u_lay; split <;> rfl
theorem bt_inG3 : ∀ w ∈ u_ws bt_R3 bt_T3 4, w ∈ bt_gw := by
  intro w hw
  refine bt_gin (bt_in3 w hw) ?_
  obtain ⟨k, hk, rfl⟩ := List.mem_map.mp hw
  unfold u_lay; split <;> rfl
theorem bt_inG4 : ∀ w ∈ u_ws bt_R4 bt_T4 2, w ∈ bt_gw := by
  intro w hw
  refine bt_gin (bt_in4 w hw) ?_
  obtain ⟨k, hk, rfl⟩ := List.mem_map.mp hw
  unfold u_lay; split <;> rfl
theorem bt_inG5 : ∀ w ∈ u_ws bt_R5 bt_T5 6, w ∈ bt_gw := by
  intro w hw
  refine bt_gin (bt_in5 w hw) ?_
  obtain ⟨k, hk, rfl⟩ := List.mem_map.mp hw
  unfold u_lay; split <;> rfl
theorem bt_inG6 : ∀ w ∈ u_ws bt_R6 bt_T6 7, w ∈ bt_gw := by
  intro w hw
  refine bt_gin (bt_in6 w hw) ?_
  obtain ⟨k, hk, rfl⟩ := List.mem_map.mp hw
  unfold u_lay; split <;> rfl
theorem bt_inG7 : ∀ w ∈ u_ws bt_R7 bt_T7 5, w ∈ bt_gw := by
  intro w hw
  refine bt_gin (bt_in7 w hw) ?_
  obtain ⟨k, hk, rfl⟩ := List.mem_map.mp hw
  unfold u_lay; split <;> rfl
theorem bt_inG8 : ∀ w ∈ u_ws bt_R8 bt_T8 4, w ∈ bt_gw := by
  intro w hw
  refine bt_gin (bt_in8 w hw) ?_
  obtain ⟨k, hk, rfl⟩ := List.mem_map.mp hw
  unfold u_lay; split <;> rfl
theorem bt_inG9 : ∀ w ∈ u_ws bt_R9 bt_T9 53, w ∈ bt_gw := by
  intro w hw
  refine bt_gin (bt_in9 w hw) ?_
  obtain ⟨k, hk, rfl⟩ := List.mem_map.mp hw
  unfold u_lay; split <;> rfl
def mi_JA_fillI : bt_MI := (⟨"java/util/Arrays", "fill", "([II)V"⟩, prog_15_method_103_code, 4, none)
def mi_JA_fillL : bt_MI := (⟨"java/util/Arrays", "fill", "([JJ)V"⟩, prog_15_method_101_code, 5, none)
def mi_JM_max : bt_MI := (⟨"java/lang/Math", "max", "(II)I"⟩, prog_13_method_65_code, 2, some .int)
def mi_JM_min : bt_MI := (⟨"java/lang/Math", "min", "(II)I"⟩, prog_13_method_69_code, 2, some .int)
def mi_JI_bitCount : bt_MI := (⟨"java/lang/Integer", "bitCount", "(I)I"⟩, prog_12_method_49_code, 1, some .int)
def mi_B_tree : bt_MI := (⟨"BellTrees", "tree", "(I)I"⟩, prog_1_method_2_code, 2, some .int)
def mi_B_trees : bt_MI := (⟨"BellTrees", "trees", "(III)I"⟩, prog_1_method_3_code, 6, some .int)
def mi_B_path : bt_MI := (⟨"BellTrees", "path", "(I)I"⟩, prog_1_method_4_code, 2, some .int)
def mi_B_mend : bt_MI := (⟨"BellTrees", "mend", "(III)I"⟩, prog_1_method_5_code, 5, some .int)
def mi_B_of : bt_MI := (⟨"BellTrees", "of", "(II)I"⟩, prog_1_method_6_code, 3, some .int)
def mi_B_feed : bt_MI := (⟨"BellTrees", "feed", "(I)I"⟩, prog_1_method_7_code, 2, some .int)
def mi_B_law : bt_MI := (⟨"BellTrees", "law", "()I"⟩, prog_1_method_8_code, 1, some .int)
def mi_B_sound : bt_MI := (⟨"BellTrees", "sound", "(III)I"⟩, prog_1_method_9_code, 4, some .int)
def mi_B_fits : bt_MI := (⟨"BellTrees", "fits", "(II)I"⟩, prog_1_method_10_code, 7, some .int)
def mi_B_canBe : bt_MI := (⟨"BellTrees", "canBe", "(II)I"⟩, prog_1_method_11_code, 6, some .int)
def mi_B_twoAtOnce : bt_MI := (⟨"BellTrees", "twoAtOnce", "(III)I"⟩, prog_1_method_12_code, 9, some .int)
def mi_B_least : bt_MI := (⟨"BellTrees", "least", "(III)I"⟩, prog_1_method_13_code, 9, some .int)
def mi_B_gone : bt_MI := (⟨"BellTrees", "gone", "(II)I"⟩, prog_1_method_14_code, 4, some .int)
def mi_B_apart : bt_MI := (⟨"BellTrees", "apart", "(II)I"⟩, prog_1_method_15_code, 5, some .int)
def mi_B_enough : bt_MI := (⟨"BellTrees", "enough", "(II)I"⟩, prog_1_method_16_code, 9, some .int)
def mi_B_tuned : bt_MI := (⟨"BellTrees", "tuned", "(I)I"⟩, prog_1_method_17_code, 3, some .int)
def mi_B_drawn : bt_MI := (⟨"BellTrees", "drawn", "(III)I"⟩, prog_1_method_18_code, 5, some .int)
def mi_B_years : bt_MI := (⟨"BellTrees", "years", "(II)I"⟩, prog_1_method_19_code, 3, some .int)
def mi_B_walk : bt_MI := (⟨"BellTrees", "walk", "(II)I"⟩, prog_1_method_20_code, 7, some .int)
def mi_B_judge : bt_MI := (⟨"BellTrees", "judge", "(II)I"⟩, prog_1_method_21_code, 4, some .int)
def mi_B_image : bt_MI := (⟨"BellTrees", "image", "()I"⟩, prog_1_method_22_code, 1, some .int)
def mi_B_back : bt_MI := (⟨"BellTrees", "back", "()I"⟩, prog_1_method_23_code, 1, some .int)
def mi_B_undo : bt_MI := (⟨"BellTrees", "undo", "()I"⟩, prog_1_method_24_code, 1, some .int)
def mi_B_redo : bt_MI := (⟨"BellTrees", "redo", "()I"⟩, prog_1_method_25_code, 1, some .int)
def mi_B_body : bt_MI := (⟨"BellTrees", "body", "(I)I"⟩, prog_1_method_26_code, 2, some .int)
def mi_B_act : bt_MI := (⟨"BellTrees", "act", "(III)I"⟩, prog_1_method_27_code, 4, some .int)
def mi_B_trace : bt_MI := (⟨"BellTrees", "trace", "(I)I"⟩, prog_1_method_28_code, 2, some .int)
def mi_B_keep : bt_MI := (⟨"BellTrees", "keep", "(II)I"⟩, prog_1_method_29_code, 4, some .int)
def mi_B_row : bt_MI := (⟨"BellTrees", "row", "(III)I"⟩, prog_1_method_30_code, 5, some .int)
def mi_B_put : bt_MI := (⟨"BellTrees", "put", "(IIJ)I"⟩, prog_1_method_31_code, 7, some .int)
def mi_B_element : bt_MI := (⟨"BellTrees", "element", "(II)J"⟩, prog_1_method_32_code, 4, some .long)
def mi_B_shift : bt_MI := (⟨"BellTrees", "shift", "(IIIII)I"⟩, prog_1_method_33_code, 8, some .int)
def mi_B_taken : bt_MI := (⟨"BellTrees", "taken", "(II)I"⟩, prog_1_method_34_code, 5, some .int)
def mi_B_count : bt_MI := (⟨"BellTrees", "count", "(I)I"⟩, prog_1_method_35_code, 2, some .int)
def mi_B_isSort : bt_MI := (⟨"BellTrees", "isSort", "(I)Z"⟩, prog_1_method_36_code, 1, some .boolean)
def mi_B_isMinute : bt_MI := (⟨"BellTrees", "isMinute", "(I)Z"⟩, prog_1_method_37_code, 1, some .boolean)
def mi_B_isPair : bt_MI := (⟨"BellTrees", "isPair", "(II)Z"⟩, prog_1_method_38_code, 2, some .boolean)
def mi_B_nextDraw : bt_MI := (⟨"BellTrees", "nextDraw", "(I)I"⟩, prog_1_method_39_code, 1, some .int)
def mi_B_shelfAt : bt_MI := (⟨"BellTrees", "shelfAt", "(I)LBellTrees$Shelf;"⟩, prog_1_method_40_code, 2, some (.object "BellTrees$Shelf"))
def mi_B_plantFrom : bt_MI := (⟨"BellTrees", "plantFrom", "(LBellTrees$Shelf;II)Z"⟩, prog_1_method_41_code, 8, some .boolean)
def mi_B_bookRefusal : bt_MI := (⟨"BellTrees", "bookRefusal", "(LBellTrees$Shelf;IZ)I"⟩, prog_1_method_42_code, 5, some .int)
def mi_B_rowsRefusal : bt_MI := (⟨"BellTrees", "rowsRefusal", "(I)I"⟩, prog_1_method_43_code, 5, some .int)
def mi_B_walksRefusal : bt_MI := (⟨"BellTrees", "walksRefusal", "(I)I"⟩, prog_1_method_44_code, 4, some .int)
def mi_B_walkAndBookRefusal : bt_MI := (⟨"BellTrees", "walkAndBookRefusal", "(II)I"⟩, prog_1_method_45_code, 4, some .int)
def mi_B_placeRefusal : bt_MI := (⟨"BellTrees", "placeRefusal", "(LBellTrees$Shelf;I)I"⟩, prog_1_method_46_code, 3, some .int)
def mi_B_isWalk : bt_MI := (⟨"BellTrees", "isWalk", "(LBellTrees$Shelf;)Z"⟩, prog_1_method_47_code, 5, some .boolean)
def mi_B_bellsGone : bt_MI := (⟨"BellTrees", "bellsGone", "(LBellTrees$Shelf;LBellTrees$Shelf;)I"⟩, prog_1_method_48_code, 6, some .int)
def mi_B_firstNotSo : bt_MI := (⟨"BellTrees", "firstNotSo", "(LBellTrees$Shelf;LBellTrees$Shelf;I)I"⟩, prog_1_method_49_code, 6, some .int)
def mi_B_firstUnlike : bt_MI := (⟨"BellTrees", "firstUnlike", "(LBellTrees$Shelf;LBellTrees$Shelf;LBellTrees$Sounds;I)I"⟩, prog_1_method_50_code, 7, some .int)
def mi_B_areTold : bt_MI := (⟨"BellTrees", "areTold", "(II)Z"⟩, prog_1_method_51_code, 5, some .boolean)
def mi_B_hasSound : bt_MI := (⟨"BellTrees", "hasSound", "(LBellTrees$Shelf;I)Z"⟩, prog_1_method_52_code, 4, some .boolean)
def mi_B_drawWalkers : bt_MI := (⟨"BellTrees", "drawWalkers", "(III)I"⟩, prog_1_method_53_code, 12, some .int)
def mi_Fo_size : bt_MI := (⟨"BellTrees$Forest", "size", "()I"⟩, prog_4_method_2_code, 1, some .int)
def mi_Fo_joined : bt_MI := (⟨"BellTrees$Forest", "joined", "()I"⟩, prog_4_method_3_code, 1, some .int)
def mi_Fo_walked : bt_MI := (⟨"BellTrees$Forest", "walked", "()I"⟩, prog_4_method_4_code, 1, some .int)
def mi_Fo_has : bt_MI := (⟨"BellTrees$Forest", "has", "(I)Z"⟩, prog_4_method_5_code, 2, some .boolean)
def mi_Fo_all : bt_MI := (⟨"BellTrees$Forest", "all", "()I"⟩, prog_4_method_6_code, 1, some .int)
def mi_Fo_isSlot : bt_MI := (⟨"BellTrees$Forest", "isSlot", "(II)Z"⟩, prog_4_method_7_code, 3, some .boolean)
def mi_Fo_slots : bt_MI := (⟨"BellTrees$Forest", "slots", "(I)I"⟩, prog_4_method_8_code, 2, some .int)
def mi_Fo_mayBe : bt_MI := (⟨"BellTrees$Forest", "mayBe", "(II)Z"⟩, prog_4_method_9_code, 3, some .boolean)
def mi_Fo_get : bt_MI := (⟨"BellTrees$Forest", "get", "(II)I"⟩, prog_4_method_10_code, 3, some .int)
def mi_Fo_set : bt_MI := (⟨"BellTrees$Forest", "set", "(III)V"⟩, prog_4_method_11_code, 4, none)
def mi_Fo_plant : bt_MI := (⟨"BellTrees$Forest", "plant", "(III)I"⟩, prog_4_method_12_code, 5, some .int)
def mi_Fo_join : bt_MI := (⟨"BellTrees$Forest", "join", "(II)I"⟩, prog_4_method_13_code, 3, some .int)
def mi_Fo_around : bt_MI := (⟨"BellTrees$Forest", "around", "(I)I"⟩, prog_4_method_14_code, 2, some .int)
def mi_Fo_heardOf : bt_MI := (⟨"BellTrees$Forest", "heardOf", "(I)I"⟩, prog_4_method_15_code, 2, some .int)
def mi_Fo_setHeard : bt_MI := (⟨"BellTrees$Forest", "setHeard", "(II)V"⟩, prog_4_method_16_code, 3, none)
def mi_Fo_addHeard : bt_MI := (⟨"BellTrees$Forest", "addHeard", "(I)V"⟩, prog_4_method_17_code, 2, none)
def mi_Fo_setWalked : bt_MI := (⟨"BellTrees$Forest", "setWalked", "(I)V"⟩, prog_4_method_18_code, 2, none)
def mi_Fo_addWalk : bt_MI := (⟨"BellTrees$Forest", "addWalk", "()V"⟩, prog_4_method_19_code, 1, none)
def mi_Fo_farOf : bt_MI := (⟨"BellTrees$Forest", "farOf", "(I)I"⟩, prog_4_method_20_code, 2, some .int)
def mi_Fo_farMeasured : bt_MI := (⟨"BellTrees$Forest", "farMeasured", "(I)I"⟩, prog_4_method_21_code, 2, some .int)
def mi_Fo_measureFar : bt_MI := (⟨"BellTrees$Forest", "measureFar", "()V"⟩, prog_4_method_22_code, 7, none)
def mi_Fo_rings : bt_MI := (⟨"BellTrees$Forest", "rings", "(II)Z"⟩, prog_4_method_23_code, 3, some .boolean)
def mi_Fo_bellsThere : bt_MI := (⟨"BellTrees$Forest", "bellsThere", "()I"⟩, prog_4_method_24_code, 3, some .int)
def mi_Fo_fewestToTune : bt_MI := (⟨"BellTrees$Forest", "fewestToTune", "()I"⟩, prog_4_method_25_code, 3, some .int)
def mi_Fo_isUnlikeWithout : bt_MI := (⟨"BellTrees$Forest", "isUnlikeWithout", "(I)Z"⟩, prog_4_method_26_code, 5, some .boolean)
def mi_Fo_treeDrawn : bt_MI := (⟨"BellTrees$Forest", "treeDrawn", "(I)I"⟩, prog_4_method_27_code, 2, some .int)
def mi_Fo_stepDrawn : bt_MI := (⟨"BellTrees$Forest", "stepDrawn", "(II)I"⟩, prog_4_method_28_code, 5, some .int)
def mi_Fo_grow : bt_MI := (⟨"BellTrees$Forest", "grow", "(II)I"⟩, prog_4_method_29_code, 7, some .int)
def mi_La_bytes : bt_MI := (⟨"BellTrees$Law", "bytes", "()I"⟩, prog_6_method_2_code, 1, some .int)
def mi_La_take : bt_MI := (⟨"BellTrees$Law", "take", "(I)I"⟩, prog_6_method_3_code, 2, some .int)
def mi_La_read : bt_MI := (⟨"BellTrees$Law", "read", "()I"⟩, prog_6_method_4_code, 2, some .int)
def mi_La_next : bt_MI := (⟨"BellTrees$Law", "next", "()I"⟩, prog_6_method_5_code, 1, some .int)
def mi_La_note : bt_MI := (⟨"BellTrees$Law", "note", "(I)V"⟩, prog_6_method_6_code, 2, none)
def mi_La_readLines : bt_MI := (⟨"BellTrees$Law", "readLines", "()Z"⟩, prog_6_method_7_code, 2, some .boolean)
def mi_La_readLine : bt_MI := (⟨"BellTrees$Law", "readLine", "()Z"⟩, prog_6_method_8_code, 1, some .boolean)
def mi_La_levelOf : bt_MI := (⟨"BellTrees$Law", "levelOf", "(I)I"⟩, prog_6_method_9_code, 1, some .int)
def mi_La_readLevel : bt_MI := (⟨"BellTrees$Law", "readLevel", "(II)Z"⟩, prog_6_method_10_code, 6, some .boolean)
def mi_La_readOperand : bt_MI := (⟨"BellTrees$Law", "readOperand", "(I)Z"⟩, prog_6_method_11_code, 3, some .boolean)
def mi_La_readClosing : bt_MI := (⟨"BellTrees$Law", "readClosing", "()Z"⟩, prog_6_method_12_code, 1, some .boolean)
def mi_La_readNumber : bt_MI := (⟨"BellTrees$Law", "readNumber", "()V"⟩, prog_6_method_13_code, 3, none)
def mi_La_isName : bt_MI := (⟨"BellTrees$Law", "isName", "(I)Z"⟩, prog_6_method_14_code, 1, some .boolean)
def mi_La_ask : bt_MI := (⟨"BellTrees$Law", "ask", "(IIIII)V"⟩, prog_6_method_15_code, 6, none)
def mi_La_hears : bt_MI := (⟨"BellTrees$Law", "hears", "(I)Z"⟩, prog_6_method_16_code, 2, some .boolean)
def mi_La_workOut : bt_MI := (⟨"BellTrees$Law", "workOut", "()I"⟩, prog_6_method_17_code, 4, some .int)
def mi_La_valueBy : bt_MI := (⟨"BellTrees$Law", "valueBy", "(I)I"⟩, prog_6_method_18_code, 3, some .int)
def mi_La_named : bt_MI := (⟨"BellTrees$Law", "named", "(I)I"⟩, prog_6_method_19_code, 2, some .int)
def mi_La_joined : bt_MI := (⟨"BellTrees$Law", "joined", "(III)I"⟩, prog_6_method_20_code, 3, some .int)
def mi_La_push : bt_MI := (⟨"BellTrees$Law", "push", "(I)V"⟩, prog_6_method_21_code, 2, none)
def mi_La_pop : bt_MI := (⟨"BellTrees$Law", "pop", "()I"⟩, prog_6_method_22_code, 1, some .int)
def mi_So_fill : bt_MI := (⟨"BellTrees$Sounds", "fill", "(I)V"⟩, prog_8_method_2_code, 7, none)
def mi_So_isHeard : bt_MI := (⟨"BellTrees$Sounds", "isHeard", "(I)Z"⟩, prog_8_method_3_code, 2, some .boolean)
def mi_So_at : bt_MI := (⟨"BellTrees$Sounds", "at", "(II)I"⟩, prog_8_method_4_code, 3, some .int)
def mi_So_among : bt_MI := (⟨"BellTrees$Sounds", "among", "(III)I"⟩, prog_8_method_5_code, 4, some .int)
def mi_So_anywhere : bt_MI := (⟨"BellTrees$Sounds", "anywhere", "(II)Z"⟩, prog_8_method_6_code, 4, some .boolean)
def mi_Wa_countFitting : bt_MI := (⟨"BellTrees$Walks", "countFitting", "(LBellTrees$Sounds;LBellTrees$Shelf;)I"⟩, prog_9_method_2_code, 8, some .int)
def mi_Wa_ways : bt_MI := (⟨"BellTrees$Walks", "ways", "(II)I"⟩, prog_9_method_3_code, 5, some .int)
def mi_Wa_onwardAt : bt_MI := (⟨"BellTrees$Walks", "onwardAt", "(II)I"⟩, prog_9_method_4_code, 3, some .int)
def mi_Wa_firstAt : bt_MI := (⟨"BellTrees$Walks", "firstAt", "(I)I"⟩, prog_9_method_5_code, 5, some .int)
def mi_Wa_lowestOf : bt_MI := (⟨"BellTrees$Walks", "lowestOf", "(I)I"⟩, prog_9_method_6_code, 2, some .int)
def mi_Wa_possibleAt : bt_MI := (⟨"BellTrees$Walks", "possibleAt", "(I)I"⟩, prog_9_method_7_code, 6, some .int)
def mi_Wa_fittingOf : bt_MI := (⟨"BellTrees$Walks", "fittingOf", "(II)I"⟩, prog_9_method_8_code, 5, some .int)
def mi_Wa_measure : bt_MI := (⟨"BellTrees$Walks", "measure", "(LBellTrees$Sounds;III)V"⟩, prog_9_method_9_code, 9, none)
def mi_Wa_quietest : bt_MI := (⟨"BellTrees$Walks", "quietest", "(II)I"⟩, prog_9_method_10_code, 6, some .int)
def mi_Wa_fewestFrom : bt_MI := (⟨"BellTrees$Walks", "fewestFrom", "(II)I"⟩, prog_9_method_11_code, 4, some .int)
def mi_Wa_quietAt : bt_MI := (⟨"BellTrees$Walks", "quietAt", "(III)I"⟩, prog_9_method_12_code, 6, some .int)
def mi_Ch_revertible : bt_MI := (⟨"BellTrees$Changes", "revertible", "()I"⟩, prog_3_method_2_code, 1, some .int)
def mi_Ch_add : bt_MI := (⟨"BellTrees$Changes", "add", "(IIII)V"⟩, prog_3_method_3_code, 5, none)
def mi_Ch_dropOldest : bt_MI := (⟨"BellTrees$Changes", "dropOldest", "()V"⟩, prog_3_method_4_code, 1, none)
def mi_Ch_revert : bt_MI := (⟨"BellTrees$Changes", "revert", "(LBellTrees$Forest;)I"⟩, prog_3_method_5_code, 2, some .int)
def mi_Ch_repeat : bt_MI := (⟨"BellTrees$Changes", "repeat", "(LBellTrees$Forest;)I"⟩, prog_3_method_6_code, 2, some .int)
def mi_Im_draw : bt_MI := (⟨"BellTrees$Image", "draw", "(LBellTrees$Forest;)I"⟩, prog_5_method_2_code, 3, some .int)
def mi_Im_lay : bt_MI := (⟨"BellTrees$Image", "lay", "(LBellTrees$Forest;)I"⟩, prog_5_method_3_code, 3, some .int)
def mi_Bo_size : bt_MI := (⟨"BellTrees$Bodies", "size", "()I"⟩, prog_2_method_2_code, 1, some .int)
def mi_Bo_latestRuns : bt_MI := (⟨"BellTrees$Bodies", "latestRuns", "()I"⟩, prog_2_method_3_code, 1, some .int)
def mi_Bo_isKind : bt_MI := (⟨"BellTrees$Bodies", "isKind", "(I)Z"⟩, prog_2_method_4_code, 2, some .boolean)
def mi_Bo_kindOf : bt_MI := (⟨"BellTrees$Bodies", "kindOf", "(I)I"⟩, prog_2_method_5_code, 2, some .int)
def mi_Bo_isUnder : bt_MI := (⟨"BellTrees$Bodies", "isUnder", "(II)Z"⟩, prog_2_method_6_code, 5, some .boolean)
def mi_Bo_add : bt_MI := (⟨"BellTrees$Bodies", "add", "(I)I"⟩, prog_2_method_7_code, 2, some .int)
def mi_Bo_traced : bt_MI := (⟨"BellTrees$Bodies", "traced", "(I)I"⟩, prog_2_method_8_code, 2, some .int)
def mi_Bo_perform : bt_MI := (⟨"BellTrees$Bodies", "perform", "(III)I"⟩, prog_2_method_9_code, 4, some .int)
def mi_Bo_note : bt_MI := (⟨"BellTrees$Bodies", "note", "(I)V"⟩, prog_2_method_10_code, 2, none)
def mi_Bo_runOwn : bt_MI := (⟨"BellTrees$Bodies", "runOwn", "(III)I"⟩, prog_2_method_11_code, 4, some .int)
def mi_Bo_runAbove : bt_MI := (⟨"BellTrees$Bodies", "runAbove", "(IIII)I"⟩, prog_2_method_12_code, 5, some .int)
def mi_Bo_runFrom : bt_MI := (⟨"BellTrees$Bodies", "runFrom", "(IIII)I"⟩, prog_2_method_13_code, 8, some .int)
def mi_Bo_runBody : bt_MI := (⟨"BellTrees$Bodies", "runBody", "(IIII)I"⟩, prog_2_method_14_code, 5, some .int)
def mi_Sh_isEmpty : bt_MI := (⟨"BellTrees$Shelf", "isEmpty", "()Z"⟩, prog_7_method_2_code, 1, some .boolean)
def mi_Sh_isRow : bt_MI := (⟨"BellTrees$Shelf", "isRow", "()Z"⟩, prog_7_method_3_code, 1, some .boolean)
def mi_Sh_isBytes : bt_MI := (⟨"BellTrees$Shelf", "isBytes", "()Z"⟩, prog_7_method_4_code, 1, some .boolean)
def mi_Sh_isOfSortOf : bt_MI := (⟨"BellTrees$Shelf", "isOfSortOf", "(LBellTrees$Shelf;)Z"⟩, prog_7_method_5_code, 2, some .boolean)
def mi_Sh_bodyHeld : bt_MI := (⟨"BellTrees$Shelf", "bodyHeld", "()I"⟩, prog_7_method_6_code, 1, some .int)
def mi_Sh_holdBody : bt_MI := (⟨"BellTrees$Shelf", "holdBody", "(I)V"⟩, prog_7_method_7_code, 2, none)
def mi_Sh_holdRow : bt_MI := (⟨"BellTrees$Shelf", "holdRow", "(II)V"⟩, prog_7_method_8_code, 3, none)
def mi_Sh_hasPlaces : bt_MI := (⟨"BellTrees$Shelf", "hasPlaces", "(II)Z"⟩, prog_7_method_9_code, 3, some .boolean)
def mi_Sh_read : bt_MI := (⟨"BellTrees$Shelf", "read", "(I)J"⟩, prog_7_method_10_code, 2, some .long)
def mi_Sh_write : bt_MI := (⟨"BellTrees$Shelf", "write", "(IJ)V"⟩, prog_7_method_11_code, 4, none)
def mi_Sh_lowest : bt_MI := (⟨"BellTrees$Shelf", "lowest", "(J)J"⟩, prog_7_method_12_code, 3, some .long)
def mi_Sh_copy : bt_MI := (⟨"BellTrees$Shelf", "copy", "(ILBellTrees$Shelf;II)V"⟩, prog_7_method_13_code, 5, none)
def mi_Sh_minutes : bt_MI := (⟨"BellTrees$Shelf", "minutes", "()I"⟩, prog_7_method_14_code, 1, some .int)
def mi_Sh_at : bt_MI := (⟨"BellTrees$Shelf", "at", "(I)I"⟩, prog_7_method_15_code, 2, some .int)
def mi_M_in : bt_MI := (⟨"BellTreesModel", "in", "(III)Z"⟩, prog_11_method_3_code, 3, some .boolean)
def mi_M_bitsOf : bt_MI := (⟨"BellTreesModel", "bitsOf", "(I)I"⟩, prog_11_method_4_code, 3, some .int)
def mi_M_isTree : bt_MI := (⟨"BellTreesModel", "isTree", "(I)Z"⟩, prog_11_method_5_code, 2, some .boolean)
def mi_M_isSort : bt_MI := (⟨"BellTreesModel", "isSort", "(I)Z"⟩, prog_11_method_6_code, 1, some .boolean)
def mi_M_isMinute : bt_MI := (⟨"BellTreesModel", "isMinute", "(I)Z"⟩, prog_11_method_7_code, 1, some .boolean)
def mi_M_addTree : bt_MI := (⟨"BellTreesModel", "addTree", "(III)I"⟩, prog_11_method_8_code, 4, some .int)
def mi_M_tree : bt_MI := (⟨"BellTreesModel", "tree", "(I)I"⟩, prog_11_method_9_code, 2, some .int)
def mi_M_trees : bt_MI := (⟨"BellTreesModel", "trees", "(III)I"⟩, prog_11_method_10_code, 8, some .int)
def mi_M_areBeside : bt_MI := (⟨"BellTreesModel", "areBeside", "(II)Z"⟩, prog_11_method_11_code, 3, some .boolean)
def mi_M_path : bt_MI := (⟨"BellTreesModel", "path", "(I)I"⟩, prog_11_method_12_code, 2, some .int)
def mi_M_valueAt : bt_MI := (⟨"BellTreesModel", "valueAt", "(II)I"⟩, prog_11_method_13_code, 3, some .int)
def mi_M_lays : bt_MI := (⟨"BellTreesModel", "lays", "(III)V"⟩, prog_11_method_14_code, 4, none)
def mi_M_changes : bt_MI := (⟨"BellTreesModel", "changes", "(III)I"⟩, prog_11_method_15_code, 6, some .int)
def mi_M_undo : bt_MI := (⟨"BellTreesModel", "undo", "()I"⟩, prog_11_method_16_code, 1, some .int)
def mi_M_redo : bt_MI := (⟨"BellTreesModel", "redo", "()I"⟩, prog_11_method_17_code, 1, some .int)
def mi_M_isThing : bt_MI := (⟨"BellTreesModel", "isThing", "(II)Z"⟩, prog_11_method_18_code, 3, some .boolean)
def mi_M_mend : bt_MI := (⟨"BellTreesModel", "mend", "(III)I"⟩, prog_11_method_19_code, 4, some .int)
def mi_M_findFar : bt_MI := (⟨"BellTreesModel", "findFar", "()V"⟩, prog_11_method_20_code, 4, none)
def mi_M_of : bt_MI := (⟨"BellTreesModel", "of", "(II)I"⟩, prog_11_method_21_code, 3, some .int)
def mi_M_feed : bt_MI := (⟨"BellTreesModel", "feed", "(I)I"⟩, prog_11_method_22_code, 2, some .int)
def mi_M_look : bt_MI := (⟨"BellTreesModel", "look", "()I"⟩, prog_11_method_23_code, 1, some .int)
def mi_M_faulty : bt_MI := (⟨"BellTreesModel", "faulty", "()V"⟩, prog_11_method_24_code, 1, none)
def mi_M_addStep : bt_MI := (⟨"BellTreesModel", "addStep", "(II)V"⟩, prog_11_method_25_code, 3, none)
def mi_M_nameOf : bt_MI := (⟨"BellTreesModel", "nameOf", "(I)I"⟩, prog_11_method_26_code, 1, some .int)
def mi_M_opens : bt_MI := (⟨"BellTreesModel", "opens", "()Z"⟩, prog_11_method_27_code, 1, some .boolean)
def mi_M_figure : bt_MI := (⟨"BellTreesModel", "figure", "()V"⟩, prog_11_method_28_code, 3, none)
def mi_M_operand : bt_MI := (⟨"BellTreesModel", "operand", "()V"⟩, prog_11_method_29_code, 2, none)
def mi_M_product : bt_MI := (⟨"BellTreesModel", "product", "()V"⟩, prog_11_method_30_code, 2, none)
def mi_M_sum : bt_MI := (⟨"BellTreesModel", "sum", "()V"⟩, prog_11_method_31_code, 2, none)
def mi_M_compared : bt_MI := (⟨"BellTreesModel", "compared", "()V"⟩, prog_11_method_32_code, 2, none)
def mi_M_both : bt_MI := (⟨"BellTreesModel", "both", "()V"⟩, prog_11_method_33_code, 1, none)
def mi_M_either : bt_MI := (⟨"BellTreesModel", "either", "()V"⟩, prog_11_method_34_code, 1, none)
def mi_M_line : bt_MI := (⟨"BellTreesModel", "line", "()V"⟩, prog_11_method_35_code, 2, none)
def mi_M_readText : bt_MI := (⟨"BellTreesModel", "readText", "(I)I"⟩, prog_11_method_36_code, 3, some .int)
def mi_M_twoOf : bt_MI := (⟨"BellTreesModel", "twoOf", "(III)I"⟩, prog_11_method_37_code, 3, some .int)
def mi_M_worked : bt_MI := (⟨"BellTreesModel", "worked", "(III)I"⟩, prog_11_method_38_code, 7, some .int)
def mi_M_gives : bt_MI := (⟨"BellTreesModel", "gives", "(I)I"⟩, prog_11_method_39_code, 4, some .int)
def mi_M_law : bt_MI := (⟨"BellTreesModel", "law", "()I"⟩, prog_11_method_40_code, 2, some .int)
def mi_M_isHeard : bt_MI := (⟨"BellTreesModel", "isHeard", "(III)Z"⟩, prog_11_method_41_code, 4, some .boolean)
def mi_M_soundOf : bt_MI := (⟨"BellTreesModel", "soundOf", "(IIII)I"⟩, prog_11_method_42_code, 5, some .int)
def mi_M_every : bt_MI := (⟨"BellTreesModel", "every", "()I"⟩, prog_11_method_43_code, 0, some .int)
def mi_M_sound : bt_MI := (⟨"BellTreesModel", "sound", "(III)I"⟩, prog_11_method_44_code, 4, some .int)
def mi_M_rowFault : bt_MI := (⟨"BellTreesModel", "rowFault", "(I)I"⟩, prog_11_method_45_code, 2, some .int)
def mi_M_minutesOf : bt_MI := (⟨"BellTreesModel", "minutesOf", "(I)I"⟩, prog_11_method_46_code, 2, some .int)
def mi_M_told : bt_MI := (⟨"BellTreesModel", "told", "(II)J"⟩, prog_11_method_47_code, 3, some .long)
def mi_M_mayGo : bt_MI := (⟨"BellTreesModel", "mayGo", "(II)Z"⟩, prog_11_method_48_code, 3, some .boolean)
def mi_M_capped : bt_MI := (⟨"BellTreesModel", "capped", "(J)J"⟩, prog_11_method_49_code, 2, some .long)
def mi_M_findWalks : bt_MI := (⟨"BellTreesModel", "findWalks", "(II)V"⟩, prog_11_method_50_code, 9, none)
def mi_M_walksMany : bt_MI := (⟨"BellTreesModel", "walksMany", "(I)I"⟩, prog_11_method_51_code, 5, some .int)
def mi_M_fits : bt_MI := (⟨"BellTreesModel", "fits", "(II)I"⟩, prog_11_method_52_code, 7, some .int)
def mi_M_canBe : bt_MI := (⟨"BellTreesModel", "canBe", "(II)I"⟩, prog_11_method_53_code, 5, some .int)
def mi_M_canBeOf : bt_MI := (⟨"BellTreesModel", "canBeOf", "(IIJ)Z"⟩, prog_11_method_54_code, 6, some .boolean)
def mi_M_areSorts : bt_MI := (⟨"BellTreesModel", "areSorts", "(I)Z"⟩, prog_11_method_55_code, 1, some .boolean)
def mi_M_twoAtOnce : bt_MI := (⟨"BellTreesModel", "twoAtOnce", "(III)I"⟩, prog_11_method_56_code, 7, some .int)
def mi_M_soundIn : bt_MI := (⟨"BellTreesModel", "soundIn", "(III)I"⟩, prog_11_method_57_code, 4, some .int)
def mi_M_findLeast : bt_MI := (⟨"BellTreesModel", "findLeast", "(IIII)V"⟩, prog_11_method_58_code, 9, none)
def mi_M_least : bt_MI := (⟨"BellTreesModel", "least", "(III)I"⟩, prog_11_method_59_code, 10, some .int)
def mi_M_isWalk : bt_MI := (⟨"BellTreesModel", "isWalk", "(I)Z"⟩, prog_11_method_60_code, 3, some .boolean)
def mi_M_walkedSound : bt_MI := (⟨"BellTreesModel", "walkedSound", "(IIII)I"⟩, prog_11_method_61_code, 5, some .int)
def mi_M_areShelves : bt_MI := (⟨"BellTreesModel", "areShelves", "(I)Z"⟩, prog_11_method_62_code, 1, some .boolean)
def mi_M_rowsFault : bt_MI := (⟨"BellTreesModel", "rowsFault", "(I)I"⟩, prog_11_method_63_code, 2, some .int)
def mi_M_bothHave : bt_MI := (⟨"BellTreesModel", "bothHave", "(I)I"⟩, prog_11_method_64_code, 2, some .int)
def mi_M_gone : bt_MI := (⟨"BellTreesModel", "gone", "(II)I"⟩, prog_11_method_65_code, 9, some .int)
def mi_M_unlikeIn : bt_MI := (⟨"BellTreesModel", "unlikeIn", "(IIIII)I"⟩, prog_11_method_66_code, 7, some .int)
def mi_M_apart : bt_MI := (⟨"BellTreesModel", "apart", "(II)I"⟩, prog_11_method_67_code, 3, some .int)
def mi_M_hasSound : bt_MI := (⟨"BellTreesModel", "hasSound", "(III)Z"⟩, prog_11_method_68_code, 5, some .boolean)
def mi_M_areEnough : bt_MI := (⟨"BellTreesModel", "areEnough", "(III)Z"⟩, prog_11_method_69_code, 6, some .boolean)
def mi_M_walksFault : bt_MI := (⟨"BellTreesModel", "walksFault", "(I)I"⟩, prog_11_method_70_code, 3, some .int)
def mi_M_enough : bt_MI := (⟨"BellTreesModel", "enough", "(II)I"⟩, prog_11_method_71_code, 6, some .int)
def mi_M_isTuned : bt_MI := (⟨"BellTreesModel", "isTuned", "(I)Z"⟩, prog_11_method_72_code, 4, some .boolean)
def mi_M_tuned : bt_MI := (⟨"BellTreesModel", "tuned", "(I)I"⟩, prog_11_method_73_code, 4, some .int)
def mi_M_draw : bt_MI := (⟨"BellTreesModel", "draw", "(I)I"⟩, prog_11_method_74_code, 2, some .int)
def mi_M_neighbour : bt_MI := (⟨"BellTreesModel", "neighbour", "(II)I"⟩, prog_11_method_75_code, 5, some .int)
def mi_M_drawn : bt_MI := (⟨"BellTreesModel", "drawn", "(III)I"⟩, prog_11_method_76_code, 12, some .int)
def mi_M_years : bt_MI := (⟨"BellTreesModel", "years", "(II)I"⟩, prog_11_method_77_code, 6, some .int)
def mi_M_walk : bt_MI := (⟨"BellTreesModel", "walk", "(II)I"⟩, prog_11_method_78_code, 5, some .int)
def mi_M_judge : bt_MI := (⟨"BellTreesModel", "judge", "(II)I"⟩, prog_11_method_79_code, 4, some .int)
def mi_M_image : bt_MI := (⟨"BellTreesModel", "image", "()I"⟩, prog_11_method_80_code, 2, some .int)
def mi_M_back : bt_MI := (⟨"BellTreesModel", "back", "()I"⟩, prog_11_method_81_code, 2, some .int)
def mi_M_isBody : bt_MI := (⟨"BellTreesModel", "isBody", "(I)Z"⟩, prog_11_method_82_code, 2, some .boolean)
def mi_M_ran : bt_MI := (⟨"BellTreesModel", "ran", "(I)V"⟩, prog_11_method_83_code, 2, none)
def mi_M_trace : bt_MI := (⟨"BellTreesModel", "trace", "(I)I"⟩, prog_11_method_84_code, 2, some .int)
def mi_M_body : bt_MI := (⟨"BellTreesModel", "body", "(I)I"⟩, prog_11_method_85_code, 2, some .int)
def mi_M_isUnder : bt_MI := (⟨"BellTreesModel", "isUnder", "(II)Z"⟩, prog_11_method_86_code, 2, some .boolean)
def mi_M_plainRings : bt_MI := (⟨"BellTreesModel", "plainRings", "(II)I"⟩, prog_11_method_87_code, 3, some .int)
def mi_M_stolenRings : bt_MI := (⟨"BellTreesModel", "stolenRings", "(II)I"⟩, prog_11_method_88_code, 3, some .int)
def mi_M_ringing : bt_MI := (⟨"BellTreesModel", "ringing", "(II)I"⟩, prog_11_method_89_code, 3, some .int)
def mi_M_plainBrushes : bt_MI := (⟨"BellTreesModel", "plainBrushes", "(II)I"⟩, prog_11_method_90_code, 3, some .int)
def mi_M_gustBrushes : bt_MI := (⟨"BellTreesModel", "gustBrushes", "(II)I"⟩, prog_11_method_91_code, 3, some .int)
def mi_M_brushing : bt_MI := (⟨"BellTreesModel", "brushing", "(II)I"⟩, prog_11_method_92_code, 4, some .int)
def mi_M_plainHears : bt_MI := (⟨"BellTreesModel", "plainHears", "(II)I"⟩, prog_11_method_93_code, 3, some .int)
def mi_M_owlHears : bt_MI := (⟨"BellTreesModel", "owlHears", "(II)I"⟩, prog_11_method_94_code, 3, some .int)
def mi_M_hearing : bt_MI := (⟨"BellTreesModel", "hearing", "(II)I"⟩, prog_11_method_95_code, 4, some .int)
def mi_M_plainWrites : bt_MI := (⟨"BellTreesModel", "plainWrites", "(II)I"⟩, prog_11_method_96_code, 4, some .int)
def mi_M_writing : bt_MI := (⟨"BellTreesModel", "writing", "(II)I"⟩, prog_11_method_97_code, 3, some .int)
def mi_M_act : bt_MI := (⟨"BellTreesModel", "act", "(III)I"⟩, prog_11_method_98_code, 4, some .int)
def mi_M_count : bt_MI := (⟨"BellTreesModel", "count", "(I)I"⟩, prog_11_method_99_code, 2, some .int)
def mi_M_isShelf : bt_MI := (⟨"BellTreesModel", "isShelf", "(I)Z"⟩, prog_11_method_100_code, 1, some .boolean)
def mi_M_keep : bt_MI := (⟨"BellTreesModel", "keep", "(II)I"⟩, prog_11_method_101_code, 3, some .int)
def mi_M_row : bt_MI := (⟨"BellTreesModel", "row", "(III)I"⟩, prog_11_method_102_code, 5, some .int)
def mi_M_whyNoPlace : bt_MI := (⟨"BellTreesModel", "whyNoPlace", "(II)I"⟩, prog_11_method_103_code, 3, some .int)
def mi_M_put : bt_MI := (⟨"BellTreesModel", "put", "(IIJ)I"⟩, prog_11_method_104_code, 7, some .int)
def mi_M_element : bt_MI := (⟨"BellTreesModel", "element", "(II)J"⟩, prog_11_method_105_code, 3, some .long)
def mi_M_shift : bt_MI := (⟨"BellTreesModel", "shift", "(IIIII)I"⟩, prog_11_method_106_code, 7, some .int)
def mi_M_taken : bt_MI := (⟨"BellTreesModel", "taken", "(II)I"⟩, prog_11_method_107_code, 3, some .int)
def mi_X_law : bt_MI := (⟨"BellTreesLaw", "law", "([I)Z"⟩, code, 4, some .boolean)
theorem lk_JI_265 : Cond.constant "java/lang/Integer" 265 1431655765 ∈ bt_gw := bt_gin (bt_tin3 (List.mem_of_getElem? (i := 176) (by decide +kernel))) rfl
theorem lk_JI_266 : Cond.constant "java/lang/Integer" 266 858993459 ∈ bt_gw := bt_gin (bt_tin3 (List.mem_of_getElem? (i := 177) (by decide +kernel))) rfl
theorem lk_JI_267 : Cond.constant "java/lang/Integer" 267 252645135 ∈ bt_gw := bt_gin (bt_tin3 (List.mem_of_getElem? (i := 178) (by decide +kernel))) rfl
theorem lg_B_10 : bt_lkF "BellTrees" 10 0 0 false := ⟨bt_R0, bt_T0, 9, bt_ty0, rfl, rfl, bt_inG0, bt_tyok0, bt_nm0, rfl, bt_gin (bt_tin2 (List.mem_of_getElem? (i := 1) (by decide +kernel))) rfl, fun h => by cases h⟩
theorem vm_Fo_plant : bt_lkM mi_Fo_plant 3 := ⟨bt_gin (bt_tin2 (List.mem_of_getElem? (i := 36) (by decide +kernel))) rfl, bt_gin (bt_tin1 (List.mem_of_getElem? (i := 2) (by decide +kernel))) rfl, ⟨by decide +kernel, by decide +kernel, by decide +kernel⟩, by decide +kernel⟩
theorem vm_Fo_plant_k : Cond.instanceMethod mi_Fo_plant.1 ∈ bt_gw := bt_gin (bt_tin2 (List.mem_of_getElem? (i := 34) (by decide +kernel))) rfl
theorem vm_Fo_plant_s : Cond.selects mi_Fo_plant.1.cls mi_Fo_plant.1 mi_Fo_plant.1 ∈ bt_gw := bt_gin (bt_tin2 (List.mem_of_getElem? (i := 35) (by decide +kernel))) rfl
theorem bv_B_72 : bt_lkV "BellTrees" 72 mi_Fo_plant 4 1 := ⟨⟨3, bt_T1, 7, rfl, rfl, vm_Fo_plant⟩, bt_gin (bt_tin2 (List.mem_of_getElem? (i := 33) (by decide +kernel))) rfl, vm_Fo_plant_k, vm_Fo_plant_s⟩
theorem vm_B_shelfAt : bt_lkM mi_B_shelfAt 1 := ⟨bt_gin (bt_tin2 (List.mem_of_getElem? (i := 56) (by decide +kernel))) rfl, bt_gin (bt_tin1 (List.mem_of_getElem? (i := 1) (by decide +kernel))) rfl, ⟨by decide +kernel, by decide +kernel, by decide +kernel⟩, by decide +kernel⟩
theorem vm_B_shelfAt_k : Cond.instanceMethod mi_B_shelfAt.1 ∈ bt_gw := bt_gin (bt_tin2 (List.mem_of_getElem? (i := 55) (by decide +kernel))) rfl
theorem vm_B_shelfAt_s : Cond.selects mi_B_shelfAt.1.cls mi_B_shelfAt.1 mi_B_shelfAt.1 ∈ bt_gw := bt_gin (List.mem_of_getElem? (i := 1) (by decide +kernel)) rfl
theorem bv_B_76 : bt_lkV "BellTrees" 76 mi_B_shelfAt 2 0 := ⟨⟨1, bt_T0, 9, rfl, rfl, vm_B_shelfAt⟩, bt_gin (bt_tin2 (List.mem_of_getElem? (i := 53) (by decide +kernel))) rfl, vm_B_shelfAt_k, vm_B_shelfAt_s⟩
theorem vm_Sh_isEmpty : bt_lkM mi_Sh_isEmpty 0 := ⟨bt_gin (bt_tin2 (List.mem_of_getElem? (i := 60) (by decide +kernel))) rfl, bt_gin (bt_tin1 (List.mem_of_getElem? (i := 10) (by decide +kernel))) rfl, ⟨by decide +kernel, by decide +kernel, by decide +kernel⟩, by decide +kernel⟩
theorem vm_Sh_isEmpty_k : Cond.instanceMethod mi_Sh_isEmpty.1 ∈ bt_gw := bt_gin (bt_tin2 (List.mem_of_getElem? (i := 58) (by decide +kernel))) rfl
theorem vm_Sh_isEmpty_s : Cond.selects mi_Sh_isEmpty.1.cls mi_Sh_isEmpty.1 mi_Sh_isEmpty.1 ∈ bt_gw := bt_gin (bt_tin2 (List.mem_of_getElem? (i := 59) (by decide +kernel))) rfl
theorem bv_B_80 : bt_lkV "BellTrees" 80 mi_Sh_isEmpty 1 8 := ⟨⟨0, bt_T8, 4, rfl, rfl, vm_Sh_isEmpty⟩, bt_gin (bt_tin2 (List.mem_of_getElem? (i := 57) (by decide +kernel))) rfl, vm_Sh_isEmpty_k, vm_Sh_isEmpty_s⟩
theorem vm_Sh_isBytes : bt_lkM mi_Sh_isBytes 0 := ⟨bt_gin (bt_tin2 (List.mem_of_getElem? (i := 64) (by decide +kernel))) rfl, bt_gin (bt_tin1 (List.mem_of_getElem? (i := 10) (by decide +kernel))) rfl, ⟨by decide +kernel, by decide +kernel, by decide +kernel⟩, by decide +kernel⟩
theorem vm_Sh_isBytes_k : Cond.instanceMethod mi_Sh_isBytes.1 ∈ bt_gw := bt_gin (bt_tin2 (List.mem_of_getElem? (i := 62) (by decide +kernel))) rfl
theorem vm_Sh_isBytes_s : Cond.selects mi_Sh_isBytes.1.cls mi_Sh_isBytes.1 mi_Sh_isBytes.1 ∈ bt_gw := bt_gin (bt_tin2 (List.mem_of_getElem? (i := 63) (by decide +kernel))) rfl
theorem bv_B_84 : bt_lkV "BellTrees" 84 mi_Sh_isBytes 1 8 := ⟨⟨0, bt_T8, 4, rfl, rfl, vm_Sh_isBytes⟩, bt_gin (bt_tin2 (List.mem_of_getElem? (i := 61) (by decide +kernel))) rfl, vm_Sh_isBytes_k, vm_Sh_isBytes_s⟩
theorem vm_B_plantFrom : bt_lkM mi_B_plantFrom 3 := ⟨bt_gin (bt_tin2 (List.mem_of_getElem? (i := 68) (by decide +kernel))) rfl, bt_gin (bt_tin1 (List.mem_of_getElem? (i := 1) (by decide +kernel))) rfl, ⟨by decide +kernel, by decide +kernel, by decide +kernel⟩, by decide +kernel⟩
theorem vm_B_plantFrom_k : Cond.instanceMethod mi_B_plantFrom.1 ∈ bt_gw := bt_gin (bt_tin2 (List.mem_of_getElem? (i := 67) (by decide +kernel))) rfl
theorem vm_B_plantFrom_s : Cond.selects mi_B_plantFrom.1.cls mi_B_plantFrom.1 mi_B_plantFrom.1 ∈ bt_gw := bt_gin (List.mem_of_getElem? (i := 2) (by decide +kernel)) rfl
theorem bv_B_87 : bt_lkV "BellTrees" 87 mi_B_plantFrom 4 0 := ⟨⟨3, bt_T0, 9, rfl, rfl, vm_B_plantFrom⟩, bt_gin (bt_tin2 (List.mem_of_getElem? (i := 65) (by decide +kernel))) rfl, vm_B_plantFrom_k, vm_B_plantFrom_s⟩
theorem vm_Fo_join : bt_lkM mi_Fo_join 2 := ⟨bt_gin (bt_tin2 (List.mem_of_getElem? (i := 93) (by decide +kernel))) rfl, bt_gin (bt_tin1 (List.mem_of_getElem? (i := 2) (by decide +kernel))) rfl, ⟨by decide +kernel, by decide +kernel, by decide +kernel⟩, by decide +kernel⟩
theorem vm_Fo_join_k : Cond.instanceMethod mi_Fo_join.1 ∈ bt_gw := bt_gin (bt_tin2 (List.mem_of_getElem? (i := 91) (by decide +kernel))) rfl
theorem vm_Fo_join_s : Cond.selects mi_Fo_join.1.cls mi_Fo_join.1 mi_Fo_join.1 ∈ bt_gw := bt_gin (bt_tin2 (List.mem_of_getElem? (i := 92) (by decide +kernel))) rfl
theorem bv_B_91 : bt_lkV "BellTrees" 91 mi_Fo_join 3 1 := ⟨⟨2, bt_T1, 7, rfl, rfl, vm_Fo_join⟩, bt_gin (bt_tin2 (List.mem_of_getElem? (i := 90) (by decide +kernel))) rfl, vm_Fo_join_k, vm_Fo_join_s⟩
theorem vm_Fo_isSlot : bt_lkM mi_Fo_isSlot 2 := ⟨bt_gin (bt_tin2 (List.mem_of_getElem? (i := 44) (by decide +kernel))) rfl, bt_gin (bt_tin1 (List.mem_of_getElem? (i := 2) (by decide +kernel))) rfl, ⟨by decide +kernel, by decide +kernel, by decide +kernel⟩, by decide +kernel⟩
theorem vm_Fo_isSlot_k : Cond.instanceMethod mi_Fo_isSlot.1 ∈ bt_gw := bt_gin (bt_tin2 (List.mem_of_getElem? (i := 42) (by decide +kernel))) rfl
theorem vm_Fo_isSlot_s : Cond.selects mi_Fo_isSlot.1.cls mi_Fo_isSlot.1 mi_Fo_isSlot.1 ∈ bt_gw := bt_gin (bt_tin2 (List.mem_of_getElem? (i := 43) (by decide +kernel))) rfl
theorem bv_B_95 : bt_lkV "BellTrees" 95 mi_Fo_isSlot 3 1 := ⟨⟨2, bt_T1, 7, rfl, rfl, vm_Fo_isSlot⟩, bt_gin (bt_tin2 (List.mem_of_getElem? (i := 102) (by decide +kernel))) rfl, vm_Fo_isSlot_k, vm_Fo_isSlot_s⟩
theorem vm_Fo_mayBe : bt_lkM mi_Fo_mayBe 2 := ⟨bt_gin (bt_tin2 (List.mem_of_getElem? (i := 85) (by decide +kernel))) rfl, bt_gin (bt_tin1 (List.mem_of_getElem? (i := 2) (by decide +kernel))) rfl, ⟨by decide +kernel, by decide +kernel, by decide +kernel⟩, by decide +kernel⟩
theorem vm_Fo_mayBe_k : Cond.instanceMethod mi_Fo_mayBe.1 ∈ bt_gw := bt_gin (bt_tin2 (List.mem_of_getElem? (i := 83) (by decide +kernel))) rfl
theorem vm_Fo_mayBe_s : Cond.selects mi_Fo_mayBe.1.cls mi_Fo_mayBe.1 mi_Fo_mayBe.1 ∈ bt_gw := bt_gin (bt_tin2 (List.mem_of_getElem? (i := 84) (by decide +kernel))) rfl
theorem bv_B_99 : bt_lkV "BellTrees" 99 mi_Fo_mayBe 3 1 := ⟨⟨2, bt_T1, 7, rfl, rfl, vm_Fo_mayBe⟩, bt_gin (bt_tin2 (List.mem_of_getElem? (i := 82) (by decide +kernel))) rfl, vm_Fo_mayBe_k, vm_Fo_mayBe_s⟩
theorem vm_Fo_get : bt_lkM mi_Fo_get 2 := ⟨bt_gin (bt_tin2 (List.mem_of_getElem? (i := 106) (by decide +kernel))) rfl, bt_gin (bt_tin1 (List.mem_of_getElem? (i := 2) (by decide +kernel))) rfl, ⟨by decide +kernel, by decide +kernel, by decide +kernel⟩, by decide +kernel⟩
theorem vm_Fo_get_k : Cond.instanceMethod mi_Fo_get.1 ∈ bt_gw := bt_gin (bt_tin2 (List.mem_of_getElem? (i := 104) (by decide +kernel))) rfl
theorem vm_Fo_get_s : Cond.selects mi_Fo_get.1.cls mi_Fo_get.1 mi_Fo_get.1 ∈ bt_gw := bt_gin (bt_tin2 (List.mem_of_getElem? (i := 105) (by decide +kernel))) rfl
theorem bv_B_102 : bt_lkV "BellTrees" 102 mi_Fo_get 3 1 := ⟨⟨2, bt_T1, 7, rfl, rfl, vm_Fo_get⟩, bt_gin (bt_tin2 (List.mem_of_getElem? (i := 103) (by decide +kernel))) rfl, vm_Fo_get_k, vm_Fo_get_s⟩
theorem vm_Fo_set : bt_lkM mi_Fo_set 3 := ⟨bt_gin (bt_tin2 (List.mem_of_getElem? (i := 40) (by decide +kernel))) rfl, bt_gin (bt_tin1 (List.mem_of_getElem? (i := 2) (by decide +kernel))) rfl, ⟨by decide +kernel, by decide +kernel, by decide +kernel⟩, by decide +kernel⟩
theorem vm_Fo_set_k : Cond.instanceMethod mi_Fo_set.1 ∈ bt_gw := bt_gin (bt_tin2 (List.mem_of_getElem? (i := 38) (by decide +kernel))) rfl
theorem vm_Fo_set_s : Cond.selects mi_Fo_set.1.cls mi_Fo_set.1 mi_Fo_set.1 ∈ bt_gw := bt_gin (bt_tin2 (List.mem_of_getElem? (i := 39) (by decide +kernel))) rfl
theorem bv_B_105 : bt_lkV "BellTrees" 105 mi_Fo_set 4 1 := ⟨⟨3, bt_T1, 7, rfl, rfl, vm_Fo_set⟩, bt_gin (bt_tin2 (List.mem_of_getElem? (i := 107) (by decide +kernel))) rfl, vm_Fo_set_k, vm_Fo_set_s⟩
theorem lg_B_47 : bt_lkF "BellTrees" 47 0 5 false := ⟨bt_R0, bt_T0, 9, bt_ty0, rfl, rfl, bt_inG0, bt_tyok0, bt_nm0, rfl, bt_gin (bt_tin2 (List.mem_of_getElem? (i := 6) (by decide +kernel))) rfl, fun h => by cases h⟩
theorem vm_Ch_add : bt_lkM mi_Ch_add 4 := ⟨bt_gin (bt_tin2 (List.mem_of_getElem? (i := 111) (by decide +kernel))) rfl, bt_gin (bt_tin1 (List.mem_of_getElem? (i := 7) (by decide +kernel))) rfl, ⟨by decide +kernel, by decide +kernel, by decide +kernel⟩, by decide +kernel⟩
theorem vm_Ch_add_k : Cond.instanceMethod mi_Ch_add.1 ∈ bt_gw := bt_gin (bt_tin2 (List.mem_of_getElem? (i := 109) (by decide +kernel))) rfl
theorem vm_Ch_add_s : Cond.selects mi_Ch_add.1.cls mi_Ch_add.1 mi_Ch_add.1 ∈ bt_gw := bt_gin (bt_tin2 (List.mem_of_getElem? (i := 110) (by decide +kernel))) rfl
theorem bv_B_109 : bt_lkV "BellTrees" 109 mi_Ch_add 5 5 := ⟨⟨4, bt_T5, 6, rfl, rfl, vm_Ch_add⟩, bt_gin (bt_tin2 (List.mem_of_getElem? (i := 108) (by decide +kernel))) rfl, vm_Ch_add_k, vm_Ch_add_s⟩
theorem vm_Fo_has : bt_lkM mi_Fo_has 1 := ⟨bt_gin (bt_tin2 (List.mem_of_getElem? (i := 97) (by decide +kernel))) rfl, bt_gin (bt_tin1 (List.mem_of_getElem? (i := 2) (by decide +kernel))) rfl, ⟨by decide +kernel, by decide +kernel, by decide +kernel⟩, by decide +kernel⟩
theorem vm_Fo_has_k : Cond.instanceMethod mi_Fo_has.1 ∈ bt_gw := bt_gin (bt_tin2 (List.mem_of_getElem? (i := 95) (by decide +kernel))) rfl
theorem vm_Fo_has_s : Cond.selects mi_Fo_has.1.cls mi_Fo_has.1 mi_Fo_has.1 ∈ bt_gw := bt_gin (bt_tin2 (List.mem_of_getElem? (i := 96) (by decide +kernel))) rfl
theorem bv_B_113 : bt_lkV "BellTrees" 113 mi_Fo_has 2 1 := ⟨⟨1, bt_T1, 7, rfl, rfl, vm_Fo_has⟩, bt_gin (bt_tin2 (List.mem_of_getElem? (i := 123) (by decide +kernel))) rfl, vm_Fo_has_k, vm_Fo_has_s⟩
theorem vm_Fo_farOf : bt_lkM mi_Fo_farOf 1 := ⟨bt_gin (bt_tin2 (List.mem_of_getElem? (i := 127) (by decide +kernel))) rfl, bt_gin (bt_tin1 (List.mem_of_getElem? (i := 2) (by decide +kernel))) rfl, ⟨by decide +kernel, by decide +kernel, by decide +kernel⟩, by decide +kernel⟩
theorem vm_Fo_farOf_k : Cond.instanceMethod mi_Fo_farOf.1 ∈ bt_gw := bt_gin (bt_tin2 (List.mem_of_getElem? (i := 125) (by decide +kernel))) rfl
theorem vm_Fo_farOf_s : Cond.selects mi_Fo_farOf.1.cls mi_Fo_farOf.1 mi_Fo_farOf.1 ∈ bt_gw := bt_gin (bt_tin2 (List.mem_of_getElem? (i := 126) (by decide +kernel))) rfl
theorem bv_B_117 : bt_lkV "BellTrees" 117 mi_Fo_farOf 2 1 := ⟨⟨1, bt_T1, 7, rfl, rfl, vm_Fo_farOf⟩, bt_gin (bt_tin2 (List.mem_of_getElem? (i := 124) (by decide +kernel))) rfl, vm_Fo_farOf_k, vm_Fo_farOf_s⟩
theorem vm_Fo_heardOf : bt_lkM mi_Fo_heardOf 1 := ⟨bt_gin (bt_tin2 (List.mem_of_getElem? (i := 140) (by decide +kernel))) rfl, bt_gin (bt_tin1 (List.mem_of_getElem? (i := 2) (by decide +kernel))) rfl, ⟨by decide +kernel, by decide +kernel, by decide +kernel⟩, by decide +kernel⟩
theorem vm_Fo_heardOf_k : Cond.instanceMethod mi_Fo_heardOf.1 ∈ bt_gw := bt_gin (bt_tin2 (List.mem_of_getElem? (i := 138) (by decide +kernel))) rfl
theorem vm_Fo_heardOf_s : Cond.selects mi_Fo_heardOf.1.cls mi_Fo_heardOf.1 mi_Fo_heardOf.1 ∈ bt_gw := bt_gin (bt_tin2 (List.mem_of_getElem? (i := 139) (by decide +kernel))) rfl
theorem bv_B_121 : bt_lkV "BellTrees" 121 mi_Fo_heardOf 2 1 := ⟨⟨1, bt_T1, 7, rfl, rfl, vm_Fo_heardOf⟩, bt_gin (bt_tin2 (List.mem_of_getElem? (i := 137) (by decide +kernel))) rfl, vm_Fo_heardOf_k, vm_Fo_heardOf_s⟩
theorem vm_Fo_walked : bt_lkM mi_Fo_walked 0 := ⟨bt_gin (bt_tin2 (List.mem_of_getElem? (i := 144) (by decide +kernel))) rfl, bt_gin (bt_tin1 (List.mem_of_getElem? (i := 2) (by decide +kernel))) rfl, ⟨by decide +kernel, by decide +kernel, by decide +kernel⟩, by decide +kernel⟩
theorem vm_Fo_walked_k : Cond.instanceMethod mi_Fo_walked.1 ∈ bt_gw := bt_gin (bt_tin2 (List.mem_of_getElem? (i := 142) (by decide +kernel))) rfl
theorem vm_Fo_walked_s : Cond.selects mi_Fo_walked.1.cls mi_Fo_walked.1 mi_Fo_walked.1 ∈ bt_gw := bt_gin (bt_tin2 (List.mem_of_getElem? (i := 143) (by decide +kernel))) rfl
theorem bv_B_124 : bt_lkV "BellTrees" 124 mi_Fo_walked 1 1 := ⟨⟨0, bt_T1, 7, rfl, rfl, vm_Fo_walked⟩, bt_gin (bt_tin2 (List.mem_of_getElem? (i := 141) (by decide +kernel))) rfl, vm_Fo_walked_k, vm_Fo_walked_s⟩
theorem lg_B_19 : bt_lkF "BellTrees" 19 0 1 false := ⟨bt_R0, bt_T0, 9, bt_ty0, rfl, rfl, bt_inG0, bt_tyok0, bt_nm0, rfl, bt_gin (bt_tin2 (List.mem_of_getElem? (i := 2) (by decide +kernel))) rfl, fun h => by cases h⟩
theorem vm_La_take : bt_lkM mi_La_take 1 := ⟨bt_gin (bt_tin2 (List.mem_of_getElem? (i := 152) (by decide +kernel))) rfl, bt_gin (bt_tin1 (List.mem_of_getElem? (i := 4) (by decide +kernel))) rfl, ⟨by decide +kernel, by decide +kernel, by decide +kernel⟩, by decide +kernel⟩
theorem vm_La_take_k : Cond.instanceMethod mi_La_take.1 ∈ bt_gw := bt_gin (bt_tin2 (List.mem_of_getElem? (i := 150) (by decide +kernel))) rfl
theorem vm_La_take_s : Cond.selects mi_La_take.1.cls mi_La_take.1 mi_La_take.1 ∈ bt_gw := bt_gin (bt_tin2 (List.mem_of_getElem? (i := 151) (by decide +kernel))) rfl
theorem bv_B_128 : bt_lkV "BellTrees" 128 mi_La_take 2 2 := ⟨⟨1, bt_T2, 15, rfl, rfl, vm_La_take⟩, bt_gin (bt_tin2 (List.mem_of_getElem? (i := 149) (by decide +kernel))) rfl, vm_La_take_k, vm_La_take_s⟩
theorem vm_La_read : bt_lkM mi_La_read 0 := ⟨bt_gin (bt_tin2 (List.mem_of_getElem? (i := 160) (by decide +kernel))) rfl, bt_gin (bt_tin1 (List.mem_of_getElem? (i := 4) (by decide +kernel))) rfl, ⟨by decide +kernel, by decide +kernel, by decide +kernel⟩, by decide +kernel⟩
theorem vm_La_read_k : Cond.instanceMethod mi_La_read.1 ∈ bt_gw := bt_gin (bt_tin2 (List.mem_of_getElem? (i := 158) (by decide +kernel))) rfl
theorem vm_La_read_s : Cond.selects mi_La_read.1.cls mi_La_read.1 mi_La_read.1 ∈ bt_gw := bt_gin (bt_tin2 (List.mem_of_getElem? (i := 159) (by decide +kernel))) rfl
theorem bv_B_131 : bt_lkV "BellTrees" 131 mi_La_read 1 2 := ⟨⟨0, bt_T2, 15, rfl, rfl, vm_La_read⟩, bt_gin (bt_tin2 (List.mem_of_getElem? (i := 157) (by decide +kernel))) rfl, vm_La_read_k, vm_La_read_s⟩
theorem vm_B_isSort : bt_lkM mi_B_isSort 1 := ⟨bt_gin (bt_tin2 (List.mem_of_getElem? (i := 206) (by decide +kernel))) rfl, bt_gin (bt_tin1 (List.mem_of_getElem? (i := 1) (by decide +kernel))) rfl, ⟨by decide +kernel, by decide +kernel, by decide +kernel⟩, by decide +kernel⟩
theorem vm_B_isSort_k : Cond.static mi_B_isSort.1 ∈ bt_gw := bt_gin (bt_tin2 (List.mem_of_getElem? (i := 205) (by decide +kernel))) rfl
theorem bs_B_134 : bt_lkS "BellTrees" 134 mi_B_isSort 1 := ⟨vm_B_isSort, Or.inl (bt_gin (bt_tin2 (List.mem_of_getElem? (i := 204) (by decide +kernel))) rfl), vm_B_isSort_k⟩
theorem vm_B_isMinute : bt_lkM mi_B_isMinute 1 := ⟨bt_gin (bt_tin2 (List.mem_of_getElem? (i := 209) (by decide +kernel))) rfl, bt_gin (bt_tin1 (List.mem_of_getElem? (i := 1) (by decide +kernel))) rfl, ⟨by decide +kernel, by decide +kernel, by decide +kernel⟩, by decide +kernel⟩
theorem vm_B_isMinute_k : Cond.static mi_B_isMinute.1 ∈ bt_gw := bt_gin (bt_tin2 (List.mem_of_getElem? (i := 208) (by decide +kernel))) rfl
theorem bs_B_137 : bt_lkS "BellTrees" 137 mi_B_isMinute 1 := ⟨vm_B_isMinute, Or.inl (bt_gin (bt_tin2 (List.mem_of_getElem? (i := 207) (by decide +kernel))) rfl), vm_B_isMinute_k⟩
theorem lk_B_140 : Cond.constant "BellTrees" 140 (-2000000000) ∈ bt_gw := bt_gin (bt_tin2 (List.mem_of_getElem? (i := 210) (by decide +kernel))) rfl
theorem lg_B_28 : bt_lkF "BellTrees" 28 0 2 false := ⟨bt_R0, bt_T0, 9, bt_ty0, rfl, rfl, bt_inG0, bt_tyok0, bt_nm0, rfl, bt_gin (bt_tin2 (List.mem_of_getElem? (i := 3) (by decide +kernel))) rfl, fun h => by cases h⟩
theorem vm_So_fill : bt_lkM mi_So_fill 1 := ⟨bt_gin (bt_tin2 (List.mem_of_getElem? (i := 214) (by decide +kernel))) rfl, bt_gin (bt_tin1 (List.mem_of_getElem? (i := 5) (by decide +kernel))) rfl, ⟨by decide +kernel, by decide +kernel, by decide +kernel⟩, by decide +kernel⟩
theorem vm_So_fill_k : Cond.instanceMethod mi_So_fill.1 ∈ bt_gw := bt_gin (bt_tin2 (List.mem_of_getElem? (i := 212) (by decide +kernel))) rfl
theorem vm_So_fill_s : Cond.selects mi_So_fill.1.cls mi_So_fill.1 mi_So_fill.1 ∈ bt_gw := bt_gin (bt_tin2 (List.mem_of_getElem? (i := 213) (by decide +kernel))) rfl
theorem bv_B_141 : bt_lkV "BellTrees" 141 mi_So_fill 2 3 := ⟨⟨1, bt_T3, 4, rfl, rfl, vm_So_fill⟩, bt_gin (bt_tin2 (List.mem_of_getElem? (i := 211) (by decide +kernel))) rfl, vm_So_fill_k, vm_So_fill_s⟩
theorem vm_So_at : bt_lkM mi_So_at 2 := ⟨bt_gin (bt_tin3 (List.mem_of_getElem? (i := 22) (by decide +kernel))) rfl, bt_gin (bt_tin1 (List.mem_of_getElem? (i := 5) (by decide +kernel))) rfl, ⟨by decide +kernel, by decide +kernel, by decide +kernel⟩, by decide +kernel⟩
theorem vm_So_at_k : Cond.instanceMethod mi_So_at.1 ∈ bt_gw := bt_gin (bt_tin3 (List.mem_of_getElem? (i := 20) (by decide +kernel))) rfl
theorem vm_So_at_s : Cond.selects mi_So_at.1.cls mi_So_at.1 mi_So_at.1 ∈ bt_gw := bt_gin (bt_tin3 (List.mem_of_getElem? (i := 21) (by decide +kernel))) rfl
theorem bv_B_145 : bt_lkV "BellTrees" 145 mi_So_at 3 3 := ⟨⟨2, bt_T3, 4, rfl, rfl, vm_So_at⟩, bt_gin (bt_tin3 (List.mem_of_getElem? (i := 19) (by decide +kernel))) rfl, vm_So_at_k, vm_So_at_s⟩
theorem vm_B_bookRefusal : bt_lkM mi_B_bookRefusal 3 := ⟨bt_gin (bt_tin3 (List.mem_of_getElem? (i := 31) (by decide +kernel))) rfl, bt_gin (bt_tin1 (List.mem_of_getElem? (i := 1) (by decide +kernel))) rfl, ⟨by decide +kernel, by decide +kernel, by decide +kernel⟩, by decide +kernel⟩
theorem vm_B_bookRefusal_k : Cond.instanceMethod mi_B_bookRefusal.1 ∈ bt_gw := bt_gin (bt_tin3 (List.mem_of_getElem? (i := 30) (by decide +kernel))) rfl
theorem vm_B_bookRefusal_s : Cond.selects mi_B_bookRefusal.1.cls mi_B_bookRefusal.1 mi_B_bookRefusal.1 ∈ bt_gw := bt_gin (List.mem_of_getElem? (i := 18) (by decide +kernel)) rfl
theorem bv_B_148 : bt_lkV "BellTrees" 148 mi_B_bookRefusal 4 0 := ⟨⟨3, bt_T0, 9, rfl, rfl, vm_B_bookRefusal⟩, bt_gin (bt_tin3 (List.mem_of_getElem? (i := 28) (by decide +kernel))) rfl, vm_B_bookRefusal_k, vm_B_bookRefusal_s⟩
theorem lg_B_40 : bt_lkF "BellTrees" 40 0 4 false := ⟨bt_R0, bt_T0, 9, bt_ty0, rfl, rfl, bt_inG0, bt_tyok0, bt_nm0, rfl, bt_gin (bt_tin2 (List.mem_of_getElem? (i := 5) (by decide +kernel))) rfl, fun h => by cases h⟩
theorem vm_Wa_countFitting : bt_lkM mi_Wa_countFitting 2 := ⟨bt_gin (bt_tin3 (List.mem_of_getElem? (i := 42) (by decide +kernel))) rfl, bt_gin (bt_tin1 (List.mem_of_getElem? (i := 6) (by decide +kernel))) rfl, ⟨by decide +kernel, by decide +kernel, by decide +kernel⟩, by decide +kernel⟩
theorem vm_Wa_countFitting_k : Cond.instanceMethod mi_Wa_countFitting.1 ∈ bt_gw := bt_gin (bt_tin3 (List.mem_of_getElem? (i := 40) (by decide +kernel))) rfl
theorem vm_Wa_countFitting_s : Cond.selects mi_Wa_countFitting.1.cls mi_Wa_countFitting.1 mi_Wa_countFitting.1 ∈ bt_gw := bt_gin (bt_tin3 (List.mem_of_getElem? (i := 41) (by decide +kernel))) rfl
theorem bv_B_152 : bt_lkV "BellTrees" 152 mi_Wa_countFitting 3 4 := ⟨⟨2, bt_T4, 2, rfl, rfl, vm_Wa_countFitting⟩, bt_gin (bt_tin3 (List.mem_of_getElem? (i := 39) (by decide +kernel))) rfl, vm_Wa_countFitting_k, vm_Wa_countFitting_s⟩
theorem vm_Wa_firstAt : bt_lkM mi_Wa_firstAt 1 := ⟨bt_gin (bt_tin3 (List.mem_of_getElem? (i := 73) (by decide +kernel))) rfl, bt_gin (bt_tin1 (List.mem_of_getElem? (i := 6) (by decide +kernel))) rfl, ⟨by decide +kernel, by decide +kernel, by decide +kernel⟩, by decide +kernel⟩
theorem vm_Wa_firstAt_k : Cond.instanceMethod mi_Wa_firstAt.1 ∈ bt_gw := bt_gin (bt_tin3 (List.mem_of_getElem? (i := 71) (by decide +kernel))) rfl
theorem vm_Wa_firstAt_s : Cond.selects mi_Wa_firstAt.1.cls mi_Wa_firstAt.1 mi_Wa_firstAt.1 ∈ bt_gw := bt_gin (bt_tin3 (List.mem_of_getElem? (i := 72) (by decide +kernel))) rfl
theorem bv_B_156 : bt_lkV "BellTrees" 156 mi_Wa_firstAt 2 4 := ⟨⟨1, bt_T4, 2, rfl, rfl, vm_Wa_firstAt⟩, bt_gin (bt_tin3 (List.mem_of_getElem? (i := 70) (by decide +kernel))) rfl, vm_Wa_firstAt_k, vm_Wa_firstAt_s⟩
theorem vm_Wa_possibleAt : bt_lkM mi_Wa_possibleAt 1 := ⟨bt_gin (bt_tin3 (List.mem_of_getElem? (i := 88) (by decide +kernel))) rfl, bt_gin (bt_tin1 (List.mem_of_getElem? (i := 6) (by decide +kernel))) rfl, ⟨by decide +kernel, by decide +kernel, by decide +kernel⟩, by decide +kernel⟩
theorem vm_Wa_possibleAt_k : Cond.instanceMethod mi_Wa_possibleAt.1 ∈ bt_gw := bt_gin (bt_tin3 (List.mem_of_getElem? (i := 86) (by decide +kernel))) rfl
theorem vm_Wa_possibleAt_s : Cond.selects mi_Wa_possibleAt.1.cls mi_Wa_possibleAt.1 mi_Wa_possibleAt.1 ∈ bt_gw := bt_gin (bt_tin3 (List.mem_of_getElem? (i := 87) (by decide +kernel))) rfl
theorem bv_B_159 : bt_lkV "BellTrees" 159 mi_Wa_possibleAt 2 4 := ⟨⟨1, bt_T4, 2, rfl, rfl, vm_Wa_possibleAt⟩, bt_gin (bt_tin3 (List.mem_of_getElem? (i := 85) (by decide +kernel))) rfl, vm_Wa_possibleAt_k, vm_Wa_possibleAt_s⟩
theorem vm_B_isPair : bt_lkM mi_B_isPair 2 := ⟨bt_gin (bt_tin3 (List.mem_of_getElem? (i := 95) (by decide +kernel))) rfl, bt_gin (bt_tin1 (List.mem_of_getElem? (i := 1) (by decide +kernel))) rfl, ⟨by decide +kernel, by decide +kernel, by decide +kernel⟩, by decide +kernel⟩
theorem vm_B_isPair_k : Cond.static mi_B_isPair.1 ∈ bt_gw := bt_gin (bt_tin3 (List.mem_of_getElem? (i := 94) (by decide +kernel))) rfl
theorem bs_B_162 : bt_lkS "BellTrees" 162 mi_B_isPair 2 := ⟨vm_B_isPair, Or.inl (bt_gin (bt_tin3 (List.mem_of_getElem? (i := 93) (by decide +kernel))) rfl), vm_B_isPair_k⟩
theorem vm_B_rowsRefusal : bt_lkM mi_B_rowsRefusal 1 := ⟨bt_gin (bt_tin3 (List.mem_of_getElem? (i := 99) (by decide +kernel))) rfl, bt_gin (bt_tin1 (List.mem_of_getElem? (i := 1) (by decide +kernel))) rfl, ⟨by decide +kernel, by decide +kernel, by decide +kernel⟩, by decide +kernel⟩
theorem vm_B_rowsRefusal_k : Cond.instanceMethod mi_B_rowsRefusal.1 ∈ bt_gw := bt_gin (bt_tin3 (List.mem_of_getElem? (i := 98) (by decide +kernel))) rfl
theorem vm_B_rowsRefusal_s : Cond.selects mi_B_rowsRefusal.1.cls mi_B_rowsRefusal.1 mi_B_rowsRefusal.1 ∈ bt_gw := bt_gin (List.mem_of_getElem? (i := 22) (by decide +kernel)) rfl
theorem bv_B_165 : bt_lkV "BellTrees" 165 mi_B_rowsRefusal 2 0 := ⟨⟨1, bt_T0, 9, rfl, rfl, vm_B_rowsRefusal⟩, bt_gin (bt_tin3 (List.mem_of_getElem? (i := 96) (by decide +kernel))) rfl, vm_B_rowsRefusal_k, vm_B_rowsRefusal_s⟩
theorem lg_B_32 : bt_lkF "BellTrees" 32 0 3 false := ⟨bt_R0, bt_T0, 9, bt_ty0, rfl, rfl, bt_inG0, bt_tyok0, bt_nm0, rfl, bt_gin (bt_tin2 (List.mem_of_getElem? (i := 4) (by decide +kernel))) rfl, fun h => by cases h⟩
theorem vm_Sh_minutes : bt_lkM mi_Sh_minutes 0 := ⟨bt_gin (bt_tin3 (List.mem_of_getElem? (i := 35) (by decide +kernel))) rfl, bt_gin (bt_tin1 (List.mem_of_getElem? (i := 10) (by decide +kernel))) rfl, ⟨by decide +kernel, by decide +kernel, by decide +kernel⟩, by decide +kernel⟩
theorem vm_Sh_minutes_k : Cond.instanceMethod mi_Sh_minutes.1 ∈ bt_gw := bt_gin (bt_tin3 (List.mem_of_getElem? (i := 33) (by decide +kernel))) rfl
theorem vm_Sh_minutes_s : Cond.selects mi_Sh_minutes.1.cls mi_Sh_minutes.1 mi_Sh_minutes.1 ∈ bt_gw := bt_gin (bt_tin3 (List.mem_of_getElem? (i := 34) (by decide +kernel))) rfl
theorem bv_B_168 : bt_lkV "BellTrees" 168 mi_Sh_minutes 1 8 := ⟨⟨0, bt_T8, 4, rfl, rfl, vm_Sh_minutes⟩, bt_gin (bt_tin3 (List.mem_of_getElem? (i := 32) (by decide +kernel))) rfl, vm_Sh_minutes_k, vm_Sh_minutes_s⟩
theorem vm_Sh_at : bt_lkM mi_Sh_at 1 := ⟨bt_gin (bt_tin2 (List.mem_of_getElem? (i := 76) (by decide +kernel))) rfl, bt_gin (bt_tin1 (List.mem_of_getElem? (i := 10) (by decide +kernel))) rfl, ⟨by decide +kernel, by decide +kernel, by decide +kernel⟩, by decide +kernel⟩
theorem vm_Sh_at_k : Cond.instanceMethod mi_Sh_at.1 ∈ bt_gw := bt_gin (bt_tin2 (List.mem_of_getElem? (i := 74) (by decide +kernel))) rfl
theorem vm_Sh_at_s : Cond.selects mi_Sh_at.1.cls mi_Sh_at.1 mi_Sh_at.1 ∈ bt_gw := bt_gin (bt_tin2 (List.mem_of_getElem? (i := 75) (by decide +kernel))) rfl
theorem bv_B_171 : bt_lkV "BellTrees" 171 mi_Sh_at 2 8 := ⟨⟨1, bt_T8, 4, rfl, rfl, vm_Sh_at⟩, bt_gin (bt_tin2 (List.mem_of_getElem? (i := 73) (by decide +kernel))) rfl, vm_Sh_at_k, vm_Sh_at_s⟩
theorem vm_So_anywhere : bt_lkM mi_So_anywhere 2 := ⟨bt_gin (bt_tin3 (List.mem_of_getElem? (i := 103) (by decide +kernel))) rfl, bt_gin (bt_tin1 (List.mem_of_getElem? (i := 5) (by decide +kernel))) rfl, ⟨by decide +kernel, by decide +kernel, by decide +kernel⟩, by decide +kernel⟩
theorem vm_So_anywhere_k : Cond.instanceMethod mi_So_anywhere.1 ∈ bt_gw := bt_gin (bt_tin3 (List.mem_of_getElem? (i := 101) (by decide +kernel))) rfl
theorem vm_So_anywhere_s : Cond.selects mi_So_anywhere.1.cls mi_So_anywhere.1 mi_So_anywhere.1 ∈ bt_gw := bt_gin (bt_tin3 (List.mem_of_getElem? (i := 102) (by decide +kernel))) rfl
theorem bv_B_173 : bt_lkV "BellTrees" 173 mi_So_anywhere 3 3 := ⟨⟨2, bt_T3, 4, rfl, rfl, vm_So_anywhere⟩, bt_gin (bt_tin3 (List.mem_of_getElem? (i := 100) (by decide +kernel))) rfl, vm_So_anywhere_k, vm_So_anywhere_s⟩
theorem vm_Wa_measure : bt_lkM mi_Wa_measure 4 := ⟨bt_gin (bt_tin3 (List.mem_of_getElem? (i := 113) (by decide +kernel))) rfl, bt_gin (bt_tin1 (List.mem_of_getElem? (i := 6) (by decide +kernel))) rfl, ⟨by decide +kernel, by decide +kernel, by decide +kernel⟩, by decide +kernel⟩
theorem vm_Wa_measure_k : Cond.instanceMethod mi_Wa_measure.1 ∈ bt_gw := bt_gin (bt_tin3 (List.mem_of_getElem? (i := 111) (by decide +kernel))) rfl
theorem vm_Wa_measure_s : Cond.selects mi_Wa_measure.1.cls mi_Wa_measure.1 mi_Wa_measure.1 ∈ bt_gw := bt_gin (bt_tin3 (List.mem_of_getElem? (i := 112) (by decide +kernel))) rfl
theorem bv_B_176 : bt_lkV "BellTrees" 176 mi_Wa_measure 5 4 := ⟨⟨4, bt_T4, 2, rfl, rfl, vm_Wa_measure⟩, bt_gin (bt_tin3 (List.mem_of_getElem? (i := 110) (by decide +kernel))) rfl, vm_Wa_measure_k, vm_Wa_measure_s⟩
theorem vm_Wa_fewestFrom : bt_lkM mi_Wa_fewestFrom 2 := ⟨bt_gin (bt_tin3 (List.mem_of_getElem? (i := 121) (by decide +kernel))) rfl, bt_gin (bt_tin1 (List.mem_of_getElem? (i := 6) (by decide +kernel))) rfl, ⟨by decide +kernel, by decide +kernel, by decide +kernel⟩, by decide +kernel⟩
theorem vm_Wa_fewestFrom_k : Cond.instanceMethod mi_Wa_fewestFrom.1 ∈ bt_gw := bt_gin (bt_tin3 (List.mem_of_getElem? (i := 119) (by decide +kernel))) rfl
theorem vm_Wa_fewestFrom_s : Cond.selects mi_Wa_fewestFrom.1.cls mi_Wa_fewestFrom.1 mi_Wa_fewestFrom.1 ∈ bt_gw := bt_gin (bt_tin3 (List.mem_of_getElem? (i := 120) (by decide +kernel))) rfl
theorem bv_B_180 : bt_lkV "BellTrees" 180 mi_Wa_fewestFrom 3 4 := ⟨⟨2, bt_T4, 2, rfl, rfl, vm_Wa_fewestFrom⟩, bt_gin (bt_tin3 (List.mem_of_getElem? (i := 118) (by decide +kernel))) rfl, vm_Wa_fewestFrom_k, vm_Wa_fewestFrom_s⟩
theorem vm_Wa_quietAt : bt_lkM mi_Wa_quietAt 3 := ⟨bt_gin (bt_tin3 (List.mem_of_getElem? (i := 125) (by decide +kernel))) rfl, bt_gin (bt_tin1 (List.mem_of_getElem? (i := 6) (by decide +kernel))) rfl, ⟨by decide +kernel, by decide +kernel, by decide +kernel⟩, by decide +kernel⟩
theorem vm_Wa_quietAt_k : Cond.instanceMethod mi_Wa_quietAt.1 ∈ bt_gw := bt_gin (bt_tin3 (List.mem_of_getElem? (i := 123) (by decide +kernel))) rfl
theorem vm_Wa_quietAt_s : Cond.selects mi_Wa_quietAt.1.cls mi_Wa_quietAt.1 mi_Wa_quietAt.1 ∈ bt_gw := bt_gin (bt_tin3 (List.mem_of_getElem? (i := 124) (by decide +kernel))) rfl
theorem bv_B_183 : bt_lkV "BellTrees" 183 mi_Wa_quietAt 4 4 := ⟨⟨3, bt_T4, 2, rfl, rfl, vm_Wa_quietAt⟩, bt_gin (bt_tin3 (List.mem_of_getElem? (i := 122) (by decide +kernel))) rfl, vm_Wa_quietAt_k, vm_Wa_quietAt_s⟩
theorem vm_B_walkAndBookRefusal : bt_lkM mi_B_walkAndBookRefusal 2 := ⟨bt_gin (bt_tin3 (List.mem_of_getElem? (i := 133) (by decide +kernel))) rfl, bt_gin (bt_tin1 (List.mem_of_getElem? (i := 1) (by decide +kernel))) rfl, ⟨by decide +kernel, by decide +kernel, by decide +kernel⟩, by decide +kernel⟩
theorem vm_B_walkAndBookRefusal_k : Cond.instanceMethod mi_B_walkAndBookRefusal.1 ∈ bt_gw := bt_gin (bt_tin3 (List.mem_of_getElem? (i := 132) (by decide +kernel))) rfl
theorem vm_B_walkAndBookRefusal_s : Cond.selects mi_B_walkAndBookRefusal.1.cls mi_B_walkAndBookRefusal.1 mi_B_walkAndBookRefusal.1 ∈ bt_gw := bt_gin (List.mem_of_getElem? (i := 24) (by decide +kernel)) rfl
theorem bv_B_186 : bt_lkV "BellTrees" 186 mi_B_walkAndBookRefusal 3 0 := ⟨⟨2, bt_T0, 9, rfl, rfl, vm_B_walkAndBookRefusal⟩, bt_gin (bt_tin3 (List.mem_of_getElem? (i := 130) (by decide +kernel))) rfl, vm_B_walkAndBookRefusal_k, vm_B_walkAndBookRefusal_s⟩
theorem vm_B_bellsGone : bt_lkM mi_B_bellsGone 2 := ⟨bt_gin (bt_tin3 (List.mem_of_getElem? (i := 147) (by decide +kernel))) rfl, bt_gin (bt_tin1 (List.mem_of_getElem? (i := 1) (by decide +kernel))) rfl, ⟨by decide +kernel, by decide +kernel, by decide +kernel⟩, by decide +kernel⟩
theorem vm_B_bellsGone_k : Cond.instanceMethod mi_B_bellsGone.1 ∈ bt_gw := bt_gin (bt_tin3 (List.mem_of_getElem? (i := 146) (by decide +kernel))) rfl
theorem vm_B_bellsGone_s : Cond.selects mi_B_bellsGone.1.cls mi_B_bellsGone.1 mi_B_bellsGone.1 ∈ bt_gw := bt_gin (List.mem_of_getElem? (i := 27) (by decide +kernel)) rfl
theorem bv_B_189 : bt_lkV "BellTrees" 189 mi_B_bellsGone 3 0 := ⟨⟨2, bt_T0, 9, rfl, rfl, vm_B_bellsGone⟩, bt_gin (bt_tin3 (List.mem_of_getElem? (i := 144) (by decide +kernel))) rfl, vm_B_bellsGone_k, vm_B_bellsGone_s⟩
theorem vm_B_walksRefusal : bt_lkM mi_B_walksRefusal 1 := ⟨bt_gin (bt_tin3 (List.mem_of_getElem? (i := 137) (by decide +kernel))) rfl, bt_gin (bt_tin1 (List.mem_of_getElem? (i := 1) (by decide +kernel))) rfl, ⟨by decide +kernel, by decide +kernel, by decide +kernel⟩, by decide +kernel⟩
theorem vm_B_walksRefusal_k : Cond.instanceMethod mi_B_walksRefusal.1 ∈ bt_gw := bt_gin (bt_tin3 (List.mem_of_getElem? (i := 136) (by decide +kernel))) rfl
theorem vm_B_walksRefusal_s : Cond.selects mi_B_walksRefusal.1.cls mi_B_walksRefusal.1 mi_B_walksRefusal.1 ∈ bt_gw := bt_gin (List.mem_of_getElem? (i := 25) (by decide +kernel)) rfl
theorem bv_B_193 : bt_lkV "BellTrees" 193 mi_B_walksRefusal 2 0 := ⟨⟨1, bt_T0, 9, rfl, rfl, vm_B_walksRefusal⟩, bt_gin (bt_tin3 (List.mem_of_getElem? (i := 134) (by decide +kernel))) rfl, vm_B_walksRefusal_k, vm_B_walksRefusal_s⟩
theorem vm_B_firstUnlike : bt_lkM mi_B_firstUnlike 4 := ⟨bt_gin (bt_tin3 (List.mem_of_getElem? (i := 164) (by decide +kernel))) rfl, bt_gin (bt_tin1 (List.mem_of_getElem? (i := 1) (by decide +kernel))) rfl, ⟨by decide +kernel, by decide +kernel, by decide +kernel⟩, by decide +kernel⟩
theorem vm_B_firstUnlike_k : Cond.instanceMethod mi_B_firstUnlike.1 ∈ bt_gw := bt_gin (bt_tin3 (List.mem_of_getElem? (i := 163) (by decide +kernel))) rfl
theorem vm_B_firstUnlike_s : Cond.selects mi_B_firstUnlike.1.cls mi_B_firstUnlike.1 mi_B_firstUnlike.1 ∈ bt_gw := bt_gin (List.mem_of_getElem? (i := 29) (by decide +kernel)) rfl
theorem bv_B_196 : bt_lkV "BellTrees" 196 mi_B_firstUnlike 5 0 := ⟨⟨4, bt_T0, 9, rfl, rfl, vm_B_firstUnlike⟩, bt_gin (bt_tin3 (List.mem_of_getElem? (i := 161) (by decide +kernel))) rfl, vm_B_firstUnlike_k, vm_B_firstUnlike_s⟩
theorem vm_Fo_bellsThere : bt_lkM mi_Fo_bellsThere 0 := ⟨bt_gin (bt_tin3 (List.mem_of_getElem? (i := 172) (by decide +kernel))) rfl, bt_gin (bt_tin1 (List.mem_of_getElem? (i := 2) (by decide +kernel))) rfl, ⟨by decide +kernel, by decide +kernel, by decide +kernel⟩, by decide +kernel⟩
theorem vm_Fo_bellsThere_k : Cond.instanceMethod mi_Fo_bellsThere.1 ∈ bt_gw := bt_gin (bt_tin3 (List.mem_of_getElem? (i := 170) (by decide +kernel))) rfl
theorem vm_Fo_bellsThere_s : Cond.selects mi_Fo_bellsThere.1.cls mi_Fo_bellsThere.1 mi_Fo_bellsThere.1 ∈ bt_gw := bt_gin (bt_tin3 (List.mem_of_getElem? (i := 171) (by decide +kernel))) rfl
theorem bv_B_200 : bt_lkV "BellTrees" 200 mi_Fo_bellsThere 1 1 := ⟨⟨0, bt_T1, 7, rfl, rfl, vm_Fo_bellsThere⟩, bt_gin (bt_tin3 (List.mem_of_getElem? (i := 169) (by decide +kernel))) rfl, vm_Fo_bellsThere_k, vm_Fo_bellsThere_s⟩
theorem vm_JI_bitCount : bt_lkM mi_JI_bitCount 1 := ⟨bt_gin (bt_tin3 (List.mem_of_getElem? (i := 175) (by decide +kernel))) rfl, bt_gin (bt_tin1 (List.mem_of_getElem? (i := 14) (by decide +kernel))) rfl, ⟨by decide +kernel, by decide +kernel, by decide +kernel⟩, by decide +kernel⟩
theorem vm_JI_bitCount_k : Cond.static mi_JI_bitCount.1 ∈ bt_gw := bt_gin (bt_tin3 (List.mem_of_getElem? (i := 174) (by decide +kernel))) rfl
theorem bs_B_203 : bt_lkS "BellTrees" 203 mi_JI_bitCount 1 := ⟨vm_JI_bitCount, Or.inl (bt_gin (bt_tin3 (List.mem_of_getElem? (i := 173) (by decide +kernel))) rfl), vm_JI_bitCount_k⟩
theorem vm_B_areTold : bt_lkM mi_B_areTold 2 := ⟨bt_gin (bt_tin3 (List.mem_of_getElem? (i := 182) (by decide +kernel))) rfl, bt_gin (bt_tin1 (List.mem_of_getElem? (i := 1) (by decide +kernel))) rfl, ⟨by decide +kernel, by decide +kernel, by decide +kernel⟩, by decide +kernel⟩
theorem vm_B_areTold_k : Cond.instanceMethod mi_B_areTold.1 ∈ bt_gw := bt_gin (bt_tin3 (List.mem_of_getElem? (i := 181) (by decide +kernel))) rfl
theorem vm_B_areTold_s : Cond.selects mi_B_areTold.1.cls mi_B_areTold.1 mi_B_areTold.1 ∈ bt_gw := bt_gin (List.mem_of_getElem? (i := 30) (by decide +kernel)) rfl
theorem bv_B_208 : bt_lkV "BellTrees" 208 mi_B_areTold 3 0 := ⟨⟨2, bt_T0, 9, rfl, rfl, vm_B_areTold⟩, bt_gin (bt_tin3 (List.mem_of_getElem? (i := 179) (by decide +kernel))) rfl, vm_B_areTold_k, vm_B_areTold_s⟩
theorem vm_Fo_fewestToTune : bt_lkM mi_Fo_fewestToTune 0 := ⟨bt_gin (bt_tin3 (List.mem_of_getElem? (i := 194) (by decide +kernel))) rfl, bt_gin (bt_tin1 (List.mem_of_getElem? (i := 2) (by decide +kernel))) rfl, ⟨by decide +kernel, by decide +kernel, by decide +kernel⟩, by decide +kernel⟩
theorem vm_Fo_fewestToTune_k : Cond.instanceMethod mi_Fo_fewestToTune.1 ∈ bt_gw := bt_gin (bt_tin3 (List.mem_of_getElem? (i := 192) (by decide +kernel))) rfl
theorem vm_Fo_fewestToTune_s : Cond.selects mi_Fo_fewestToTune.1.cls mi_Fo_fewestToTune.1 mi_Fo_fewestToTune.1 ∈ bt_gw := bt_gin (bt_tin3 (List.mem_of_getElem? (i := 193) (by decide +kernel))) rfl
theorem bv_B_211 : bt_lkV "BellTrees" 211 mi_Fo_fewestToTune 1 1 := ⟨⟨0, bt_T1, 7, rfl, rfl, vm_Fo_fewestToTune⟩, bt_gin (bt_tin3 (List.mem_of_getElem? (i := 191) (by decide +kernel))) rfl, vm_Fo_fewestToTune_k, vm_Fo_fewestToTune_s⟩
theorem vm_Fo_size : bt_lkM mi_Fo_size 0 := ⟨bt_gin (bt_tin3 (List.mem_of_getElem? (i := 47) (by decide +kernel))) rfl, bt_gin (bt_tin1 (List.mem_of_getElem? (i := 2) (by decide +kernel))) rfl, ⟨by decide +kernel, by decide +kernel, by decide +kernel⟩, by decide +kernel⟩
theorem vm_Fo_size_k : Cond.instanceMethod mi_Fo_size.1 ∈ bt_gw := bt_gin (bt_tin3 (List.mem_of_getElem? (i := 45) (by decide +kernel))) rfl
theorem vm_Fo_size_s : Cond.selects mi_Fo_size.1.cls mi_Fo_size.1 mi_Fo_size.1 ∈ bt_gw := bt_gin (bt_tin3 (List.mem_of_getElem? (i := 46) (by decide +kernel))) rfl
theorem bv_B_214 : bt_lkV "BellTrees" 214 mi_Fo_size 1 1 := ⟨⟨0, bt_T1, 7, rfl, rfl, vm_Fo_size⟩, bt_gin (bt_tin3 (List.mem_of_getElem? (i := 205) (by decide +kernel))) rfl, vm_Fo_size_k, vm_Fo_size_s⟩
theorem vm_B_drawWalkers : bt_lkM mi_B_drawWalkers 3 := ⟨bt_gin (bt_tin3 (List.mem_of_getElem? (i := 209) (by decide +kernel))) rfl, bt_gin (bt_tin1 (List.mem_of_getElem? (i := 1) (by decide +kernel))) rfl, ⟨by decide +kernel, by decide +kernel, by decide +kernel⟩, by decide +kernel⟩
theorem vm_B_drawWalkers_k : Cond.instanceMethod mi_B_drawWalkers.1 ∈ bt_gw := bt_gin (bt_tin3 (List.mem_of_getElem? (i := 208) (by decide +kernel))) rfl
theorem vm_B_drawWalkers_s : Cond.selects mi_B_drawWalkers.1.cls mi_B_drawWalkers.1 mi_B_drawWalkers.1 ∈ bt_gw := bt_gin (List.mem_of_getElem? (i := 33) (by decide +kernel)) rfl
theorem bv_B_217 : bt_lkV "BellTrees" 217 mi_B_drawWalkers 4 0 := ⟨⟨3, bt_T0, 9, rfl, rfl, vm_B_drawWalkers⟩, bt_gin (bt_tin3 (List.mem_of_getElem? (i := 206) (by decide +kernel))) rfl, vm_B_drawWalkers_k, vm_B_drawWalkers_s⟩
theorem vm_Fo_grow : bt_lkM mi_Fo_grow 2 := ⟨bt_gin (bt_tin3 (List.mem_of_getElem? (i := 229) (by decide +kernel))) rfl, bt_gin (bt_tin1 (List.mem_of_getElem? (i := 2) (by decide +kernel))) rfl, ⟨by decide +kernel, by decide +kernel, by decide +kernel⟩, by decide +kernel⟩
theorem vm_Fo_grow_k : Cond.instanceMethod mi_Fo_grow.1 ∈ bt_gw := bt_gin (bt_tin3 (List.mem_of_getElem? (i := 227) (by decide +kernel))) rfl
theorem vm_Fo_grow_s : Cond.selects mi_Fo_grow.1.cls mi_Fo_grow.1 mi_Fo_grow.1 ∈ bt_gw := bt_gin (bt_tin3 (List.mem_of_getElem? (i := 228) (by decide +kernel))) rfl
theorem bv_B_220 : bt_lkV "BellTrees" 220 mi_Fo_grow 3 1 := ⟨⟨2, bt_T1, 7, rfl, rfl, vm_Fo_grow⟩, bt_gin (bt_tin3 (List.mem_of_getElem? (i := 226) (by decide +kernel))) rfl, vm_Fo_grow_k, vm_Fo_grow_s⟩
theorem vm_Fo_addHeard : bt_lkM mi_Fo_addHeard 1 := ⟨bt_gin (bt_tin4 (List.mem_of_getElem? (i := 2) (by decide +kernel))) rfl, bt_gin (bt_tin1 (List.mem_of_getElem? (i := 2) (by decide +kernel))) rfl, ⟨by decide +kernel, by decide +kernel, by decide +kernel⟩, by decide +kernel⟩
theorem vm_Fo_addHeard_k : Cond.instanceMethod mi_Fo_addHeard.1 ∈ bt_gw := bt_gin (bt_tin4 (List.mem_of_getElem? (i := 0) (by decide +kernel))) rfl
theorem vm_Fo_addHeard_s : Cond.selects mi_Fo_addHeard.1.cls mi_Fo_addHeard.1 mi_Fo_addHeard.1 ∈ bt_gw := bt_gin (bt_tin4 (List.mem_of_getElem? (i := 1) (by decide +kernel))) rfl
theorem bv_B_223 : bt_lkV "BellTrees" 223 mi_Fo_addHeard 2 1 := ⟨⟨1, bt_T1, 7, rfl, rfl, vm_Fo_addHeard⟩, bt_gin (bt_tin3 (List.mem_of_getElem? (i := 239) (by decide +kernel))) rfl, vm_Fo_addHeard_k, vm_Fo_addHeard_s⟩
theorem vm_Fo_addWalk : bt_lkM mi_Fo_addWalk 0 := ⟨bt_gin (bt_tin4 (List.mem_of_getElem? (i := 11) (by decide +kernel))) rfl, bt_gin (bt_tin1 (List.mem_of_getElem? (i := 2) (by decide +kernel))) rfl, ⟨by decide +kernel, by decide +kernel, by decide +kernel⟩, by decide +kernel⟩
theorem vm_Fo_addWalk_k : Cond.instanceMethod mi_Fo_addWalk.1 ∈ bt_gw := bt_gin (bt_tin4 (List.mem_of_getElem? (i := 9) (by decide +kernel))) rfl
theorem vm_Fo_addWalk_s : Cond.selects mi_Fo_addWalk.1.cls mi_Fo_addWalk.1 mi_Fo_addWalk.1 ∈ bt_gw := bt_gin (bt_tin4 (List.mem_of_getElem? (i := 10) (by decide +kernel))) rfl
theorem bv_B_226 : bt_lkV "BellTrees" 226 mi_Fo_addWalk 1 1 := ⟨⟨0, bt_T1, 7, rfl, rfl, vm_Fo_addWalk⟩, bt_gin (bt_tin4 (List.mem_of_getElem? (i := 8) (by decide +kernel))) rfl, vm_Fo_addWalk_k, vm_Fo_addWalk_s⟩
theorem vm_B_firstNotSo : bt_lkM mi_B_firstNotSo 3 := ⟨bt_gin (bt_tin3 (List.mem_of_getElem? (i := 152) (by decide +kernel))) rfl, bt_gin (bt_tin1 (List.mem_of_getElem? (i := 1) (by decide +kernel))) rfl, ⟨by decide +kernel, by decide +kernel, by decide +kernel⟩, by decide +kernel⟩
theorem vm_B_firstNotSo_k : Cond.instanceMethod mi_B_firstNotSo.1 ∈ bt_gw := bt_gin (bt_tin3 (List.mem_of_getElem? (i := 151) (by decide +kernel))) rfl
theorem vm_B_firstNotSo_s : Cond.selects mi_B_firstNotSo.1.cls mi_B_firstNotSo.1 mi_B_firstNotSo.1 ∈ bt_gw := bt_gin (List.mem_of_getElem? (i := 28) (by decide +kernel)) rfl
theorem bv_B_229 : bt_lkV "BellTrees" 229 mi_B_firstNotSo 4 0 := ⟨⟨3, bt_T0, 9, rfl, rfl, vm_B_firstNotSo⟩, bt_gin (bt_tin3 (List.mem_of_getElem? (i := 149) (by decide +kernel))) rfl, vm_B_firstNotSo_k, vm_B_firstNotSo_s⟩
theorem lg_B_54 : bt_lkF "BellTrees" 54 0 6 false := ⟨bt_R0, bt_T0, 9, bt_ty0, rfl, rfl, bt_inG0, bt_tyok0, bt_nm0, rfl, bt_gin (bt_tin2 (List.mem_of_getElem? (i := 7) (by decide +kernel))) rfl, fun h => by cases h⟩
theorem vm_Im_draw : bt_lkM mi_Im_draw 1 := ⟨bt_gin (bt_tin4 (List.mem_of_getElem? (i := 23) (by decide +kernel))) rfl, bt_gin (bt_tin1 (List.mem_of_getElem? (i := 8) (by decide +kernel))) rfl, ⟨by decide +kernel, by decide +kernel, by decide +kernel⟩, by decide +kernel⟩
theorem vm_Im_draw_k : Cond.instanceMethod mi_Im_draw.1 ∈ bt_gw := bt_gin (bt_tin4 (List.mem_of_getElem? (i := 21) (by decide +kernel))) rfl
theorem vm_Im_draw_s : Cond.selects mi_Im_draw.1.cls mi_Im_draw.1 mi_Im_draw.1 ∈ bt_gw := bt_gin (bt_tin4 (List.mem_of_getElem? (i := 22) (by decide +kernel))) rfl
theorem bv_B_233 : bt_lkV "BellTrees" 233 mi_Im_draw 2 6 := ⟨⟨1, bt_T6, 7, rfl, rfl, vm_Im_draw⟩, bt_gin (bt_tin4 (List.mem_of_getElem? (i := 20) (by decide +kernel))) rfl, vm_Im_draw_k, vm_Im_draw_s⟩
theorem vm_Im_lay : bt_lkM mi_Im_lay 1 := ⟨bt_gin (bt_tin4 (List.mem_of_getElem? (i := 35) (by decide +kernel))) rfl, bt_gin (bt_tin1 (List.mem_of_getElem? (i := 8) (by decide +kernel))) rfl, ⟨by decide +kernel, by decide +kernel, by decide +kernel⟩, by decide +kernel⟩
theorem vm_Im_lay_k : Cond.instanceMethod mi_Im_lay.1 ∈ bt_gw := bt_gin (bt_tin4 (List.mem_of_getElem? (i := 33) (by decide +kernel))) rfl
theorem vm_Im_lay_s : Cond.selects mi_Im_lay.1.cls mi_Im_lay.1 mi_Im_lay.1 ∈ bt_gw := bt_gin (bt_tin4 (List.mem_of_getElem? (i := 34) (by decide +kernel))) rfl
theorem bv_B_237 : bt_lkV "BellTrees" 237 mi_Im_lay 2 6 := ⟨⟨1, bt_T6, 7, rfl, rfl, vm_Im_lay⟩, bt_gin (bt_tin4 (List.mem_of_getElem? (i := 32) (by decide +kernel))) rfl, vm_Im_lay_k, vm_Im_lay_s⟩
theorem vm_Ch_revert : bt_lkM mi_Ch_revert 1 := ⟨bt_gin (bt_tin4 (List.mem_of_getElem? (i := 49) (by decide +kernel))) rfl, bt_gin (bt_tin1 (List.mem_of_getElem? (i := 7) (by decide +kernel))) rfl, ⟨by decide +kernel, by decide +kernel, by decide +kernel⟩, by decide +kernel⟩
theorem vm_Ch_revert_k : Cond.instanceMethod mi_Ch_revert.1 ∈ bt_gw := bt_gin (bt_tin4 (List.mem_of_getElem? (i := 47) (by decide +kernel))) rfl
theorem vm_Ch_revert_s : Cond.selects mi_Ch_revert.1.cls mi_Ch_revert.1 mi_Ch_revert.1 ∈ bt_gw := bt_gin (bt_tin4 (List.mem_of_getElem? (i := 48) (by decide +kernel))) rfl
theorem bv_B_240 : bt_lkV "BellTrees" 240 mi_Ch_revert 2 5 := ⟨⟨1, bt_T5, 6, rfl, rfl, vm_Ch_revert⟩, bt_gin (bt_tin4 (List.mem_of_getElem? (i := 46) (by decide +kernel))) rfl, vm_Ch_revert_k, vm_Ch_revert_s⟩
theorem vm_Ch_repeat : bt_lkM mi_Ch_repeat 1 := ⟨bt_gin (bt_tin4 (List.mem_of_getElem? (i := 58) (by decide +kernel))) rfl, bt_gin (bt_tin1 (List.mem_of_getElem? (i := 7) (by decide +kernel))) rfl, ⟨by decide +kernel, by decide +kernel, by decide +kernel⟩, by decide +kernel⟩
theorem vm_Ch_repeat_k : Cond.instanceMethod mi_Ch_repeat.1 ∈ bt_gw := bt_gin (bt_tin4 (List.mem_of_getElem? (i := 56) (by decide +kernel))) rfl
theorem vm_Ch_repeat_s : Cond.selects mi_Ch_repeat.1.cls mi_Ch_repeat.1 mi_Ch_repeat.1 ∈ bt_gw := bt_gin (bt_tin4 (List.mem_of_getElem? (i := 57) (by decide +kernel))) rfl
theorem bv_B_243 : bt_lkV "BellTrees" 243 mi_Ch_repeat 2 5 := ⟨⟨1, bt_T5, 6, rfl, rfl, vm_Ch_repeat⟩, bt_gin (bt_tin4 (List.mem_of_getElem? (i := 55) (by decide +kernel))) rfl, vm_Ch_repeat_k, vm_Ch_repeat_s⟩
theorem lg_B_61 : bt_lkF "BellTrees" 61 0 7 false := ⟨bt_R0, bt_T0, 9, bt_ty0, rfl, rfl, bt_inG0, bt_tyok0, bt_nm0, rfl, bt_gin (bt_tin2 (List.mem_of_getElem? (i := 8) (by decide +kernel))) rfl, fun h => by cases h⟩
theorem vm_Bo_add : bt_lkM mi_Bo_add 1 := ⟨bt_gin (bt_tin4 (List.mem_of_getElem? (i := 66) (by decide +kernel))) rfl, bt_gin (bt_tin1 (List.mem_of_getElem? (i := 9) (by decide +kernel))) rfl, ⟨by decide +kernel, by decide +kernel, by decide +kernel⟩, by decide +kernel⟩
theorem vm_Bo_add_k : Cond.instanceMethod mi_Bo_add.1 ∈ bt_gw := bt_gin (bt_tin4 (List.mem_of_getElem? (i := 64) (by decide +kernel))) rfl
theorem vm_Bo_add_s : Cond.selects mi_Bo_add.1.cls mi_Bo_add.1 mi_Bo_add.1 ∈ bt_gw := bt_gin (bt_tin4 (List.mem_of_getElem? (i := 65) (by decide +kernel))) rfl
theorem bv_B_246 : bt_lkV "BellTrees" 246 mi_Bo_add 2 7 := ⟨⟨1, bt_T7, 5, rfl, rfl, vm_Bo_add⟩, bt_gin (bt_tin4 (List.mem_of_getElem? (i := 63) (by decide +kernel))) rfl, vm_Bo_add_k, vm_Bo_add_s⟩
theorem vm_Bo_perform : bt_lkM mi_Bo_perform 3 := ⟨bt_gin (bt_tin4 (List.mem_of_getElem? (i := 78) (by decide +kernel))) rfl, bt_gin (bt_tin1 (List.mem_of_getElem? (i := 9) (by decide +kernel))) rfl, ⟨by decide +kernel, by decide +kernel, by decide +kernel⟩, by decide +kernel⟩
theorem vm_Bo_perform_k : Cond.instanceMethod mi_Bo_perform.1 ∈ bt_gw := bt_gin (bt_tin4 (List.mem_of_getElem? (i := 76) (by decide +kernel))) rfl
theorem vm_Bo_perform_s : Cond.selects mi_Bo_perform.1.cls mi_Bo_perform.1 mi_Bo_perform.1 ∈ bt_gw := bt_gin (bt_tin4 (List.mem_of_getElem? (i := 77) (by decide +kernel))) rfl
theorem bv_B_248 : bt_lkV "BellTrees" 248 mi_Bo_perform 4 7 := ⟨⟨3, bt_T7, 5, rfl, rfl, vm_Bo_perform⟩, bt_gin (bt_tin4 (List.mem_of_getElem? (i := 75) (by decide +kernel))) rfl, vm_Bo_perform_k, vm_Bo_perform_s⟩
theorem vm_Bo_traced : bt_lkM mi_Bo_traced 1 := ⟨bt_gin (bt_tin4 (List.mem_of_getElem? (i := 114) (by decide +kernel))) rfl, bt_gin (bt_tin1 (List.mem_of_getElem? (i := 9) (by decide +kernel))) rfl, ⟨by decide +kernel, by decide +kernel, by decide +kernel⟩, by decide +kernel⟩
theorem vm_Bo_traced_k : Cond.instanceMethod mi_Bo_traced.1 ∈ bt_gw := bt_gin (bt_tin4 (List.mem_of_getElem? (i := 112) (by decide +kernel))) rfl
theorem vm_Bo_traced_s : Cond.selects mi_Bo_traced.1.cls mi_Bo_traced.1 mi_Bo_traced.1 ∈ bt_gw := bt_gin (bt_tin4 (List.mem_of_getElem? (i := 113) (by decide +kernel))) rfl
theorem bv_B_251 : bt_lkV "BellTrees" 251 mi_Bo_traced 2 7 := ⟨⟨1, bt_T7, 5, rfl, rfl, vm_Bo_traced⟩, bt_gin (bt_tin4 (List.mem_of_getElem? (i := 111) (by decide +kernel))) rfl, vm_Bo_traced_k, vm_Bo_traced_s⟩
theorem vm_Bo_size : bt_lkM mi_Bo_size 0 := ⟨bt_gin (bt_tin4 (List.mem_of_getElem? (i := 122) (by decide +kernel))) rfl, bt_gin (bt_tin1 (List.mem_of_getElem? (i := 9) (by decide +kernel))) rfl, ⟨by decide +kernel, by decide +kernel, by decide +kernel⟩, by decide +kernel⟩
theorem vm_Bo_size_k : Cond.instanceMethod mi_Bo_size.1 ∈ bt_gw := bt_gin (bt_tin4 (List.mem_of_getElem? (i := 120) (by decide +kernel))) rfl
theorem vm_Bo_size_s : Cond.selects mi_Bo_size.1.cls mi_Bo_size.1 mi_Bo_size.1 ∈ bt_gw := bt_gin (bt_tin4 (List.mem_of_getElem? (i := 121) (by decide +kernel))) rfl
theorem bv_B_254 : bt_lkV "BellTrees" 254 mi_Bo_size 1 7 := ⟨⟨0, bt_T7, 5, rfl, rfl, vm_Bo_size⟩, bt_gin (bt_tin4 (List.mem_of_getElem? (i := 119) (by decide +kernel))) rfl, vm_Bo_size_k, vm_Bo_size_s⟩
theorem vm_Sh_holdBody : bt_lkM mi_Sh_holdBody 1 := ⟨bt_gin (bt_tin4 (List.mem_of_getElem? (i := 126) (by decide +kernel))) rfl, bt_gin (bt_tin1 (List.mem_of_getElem? (i := 10) (by decide +kernel))) rfl, ⟨by decide +kernel, by decide +kernel, by decide +kernel⟩, by decide +kernel⟩
theorem vm_Sh_holdBody_k : Cond.instanceMethod mi_Sh_holdBody.1 ∈ bt_gw := bt_gin (bt_tin4 (List.mem_of_getElem? (i := 124) (by decide +kernel))) rfl
theorem vm_Sh_holdBody_s : Cond.selects mi_Sh_holdBody.1.cls mi_Sh_holdBody.1 mi_Sh_holdBody.1 ∈ bt_gw := bt_gin (bt_tin4 (List.mem_of_getElem? (i := 125) (by decide +kernel))) rfl
theorem bv_B_255 : bt_lkV "BellTrees" 255 mi_Sh_holdBody 2 8 := ⟨⟨1, bt_T8, 4, rfl, rfl, vm_Sh_holdBody⟩, bt_gin (bt_tin4 (List.mem_of_getElem? (i := 123) (by decide +kernel))) rfl, vm_Sh_holdBody_k, vm_Sh_holdBody_s⟩
theorem vm_Sh_holdRow : bt_lkM mi_Sh_holdRow 2 := ⟨bt_gin (bt_tin4 (List.mem_of_getElem? (i := 134) (by decide +kernel))) rfl, bt_gin (bt_tin1 (List.mem_of_getElem? (i := 10) (by decide +kernel))) rfl, ⟨by decide +kernel, by decide +kernel, by decide +kernel⟩, by decide +kernel⟩
theorem vm_Sh_holdRow_k : Cond.instanceMethod mi_Sh_holdRow.1 ∈ bt_gw := bt_gin (bt_tin4 (List.mem_of_getElem? (i := 132) (by decide +kernel))) rfl
theorem vm_Sh_holdRow_s : Cond.selects mi_Sh_holdRow.1.cls mi_Sh_holdRow.1 mi_Sh_holdRow.1 ∈ bt_gw := bt_gin (bt_tin4 (List.mem_of_getElem? (i := 133) (by decide +kernel))) rfl
theorem bv_B_258 : bt_lkV "BellTrees" 258 mi_Sh_holdRow 3 8 := ⟨⟨2, bt_T8, 4, rfl, rfl, vm_Sh_holdRow⟩, bt_gin (bt_tin4 (List.mem_of_getElem? (i := 131) (by decide +kernel))) rfl, vm_Sh_holdRow_k, vm_Sh_holdRow_s⟩
theorem vm_B_placeRefusal : bt_lkM mi_B_placeRefusal 2 := ⟨bt_gin (bt_tin4 (List.mem_of_getElem? (i := 146) (by decide +kernel))) rfl, bt_gin (bt_tin1 (List.mem_of_getElem? (i := 1) (by decide +kernel))) rfl, ⟨by decide +kernel, by decide +kernel, by decide +kernel⟩, by decide +kernel⟩
theorem vm_B_placeRefusal_k : Cond.instanceMethod mi_B_placeRefusal.1 ∈ bt_gw := bt_gin (bt_tin4 (List.mem_of_getElem? (i := 145) (by decide +kernel))) rfl
theorem vm_B_placeRefusal_s : Cond.selects mi_B_placeRefusal.1.cls mi_B_placeRefusal.1 mi_B_placeRefusal.1 ∈ bt_gw := bt_gin (List.mem_of_getElem? (i := 39) (by decide +kernel)) rfl
theorem bv_B_262 : bt_lkV "BellTrees" 262 mi_B_placeRefusal 3 0 := ⟨⟨2, bt_T0, 9, rfl, rfl, vm_B_placeRefusal⟩, bt_gin (bt_tin4 (List.mem_of_getElem? (i := 143) (by decide +kernel))) rfl, vm_B_placeRefusal_k, vm_B_placeRefusal_s⟩
theorem vm_Sh_write : bt_lkM mi_Sh_write 2 := ⟨bt_gin (bt_tin4 (List.mem_of_getElem? (i := 154) (by decide +kernel))) rfl, bt_gin (bt_tin1 (List.mem_of_getElem? (i := 10) (by decide +kernel))) rfl, ⟨by decide +kernel, by decide +kernel, by decide +kernel⟩, by decide +kernel⟩
theorem vm_Sh_write_k : Cond.instanceMethod mi_Sh_write.1 ∈ bt_gw := bt_gin (bt_tin4 (List.mem_of_getElem? (i := 152) (by decide +kernel))) rfl
theorem vm_Sh_write_s : Cond.selects mi_Sh_write.1.cls mi_Sh_write.1 mi_Sh_write.1 ∈ bt_gw := bt_gin (bt_tin4 (List.mem_of_getElem? (i := 153) (by decide +kernel))) rfl
theorem bv_B_266 : bt_lkV "BellTrees" 266 mi_Sh_write 3 8 := ⟨⟨2, bt_T8, 4, rfl, rfl, vm_Sh_write⟩, bt_gin (bt_tin4 (List.mem_of_getElem? (i := 151) (by decide +kernel))) rfl, vm_Sh_write_k, vm_Sh_write_s⟩
theorem lk_B_272 : Cond.constantLong "BellTrees" 272 (-9223372036854775808) ∈ bt_gw := bt_gin (bt_tin4 (List.mem_of_getElem? (i := 163) (by decide +kernel))) rfl
theorem vm_Sh_read : bt_lkM mi_Sh_read 1 := ⟨bt_gin (bt_tin2 (List.mem_of_getElem? (i := 80) (by decide +kernel))) rfl, bt_gin (bt_tin1 (List.mem_of_getElem? (i := 10) (by decide +kernel))) rfl, ⟨by decide +kernel, by decide +kernel, by decide +kernel⟩, by decide +kernel⟩
theorem vm_Sh_read_k : Cond.instanceMethod mi_Sh_read.1 ∈ bt_gw := bt_gin (bt_tin2 (List.mem_of_getElem? (i := 78) (by decide +kernel))) rfl
theorem vm_Sh_read_s : Cond.selects mi_Sh_read.1.cls mi_Sh_read.1 mi_Sh_read.1 ∈ bt_gw := bt_gin (bt_tin2 (List.mem_of_getElem? (i := 79) (by decide +kernel))) rfl
theorem bv_B_274 : bt_lkV "BellTrees" 274 mi_Sh_read 2 8 := ⟨⟨1, bt_T8, 4, rfl, rfl, vm_Sh_read⟩, bt_gin (bt_tin4 (List.mem_of_getElem? (i := 164) (by decide +kernel))) rfl, vm_Sh_read_k, vm_Sh_read_s⟩
theorem vm_Sh_isRow : bt_lkM mi_Sh_isRow 0 := ⟨bt_gin (bt_tin4 (List.mem_of_getElem? (i := 150) (by decide +kernel))) rfl, bt_gin (bt_tin1 (List.mem_of_getElem? (i := 10) (by decide +kernel))) rfl, ⟨by decide +kernel, by decide +kernel, by decide +kernel⟩, by decide +kernel⟩
theorem vm_Sh_isRow_k : Cond.instanceMethod mi_Sh_isRow.1 ∈ bt_gw := bt_gin (bt_tin4 (List.mem_of_getElem? (i := 148) (by decide +kernel))) rfl
theorem vm_Sh_isRow_s : Cond.selects mi_Sh_isRow.1.cls mi_Sh_isRow.1 mi_Sh_isRow.1 ∈ bt_gw := bt_gin (bt_tin4 (List.mem_of_getElem? (i := 149) (by decide +kernel))) rfl
theorem bv_B_277 : bt_lkV "BellTrees" 277 mi_Sh_isRow 1 8 := ⟨⟨0, bt_T8, 4, rfl, rfl, vm_Sh_isRow⟩, bt_gin (bt_tin4 (List.mem_of_getElem? (i := 147) (by decide +kernel))) rfl, vm_Sh_isRow_k, vm_Sh_isRow_s⟩
theorem vm_Sh_isOfSortOf : bt_lkM mi_Sh_isOfSortOf 1 := ⟨bt_gin (bt_tin4 (List.mem_of_getElem? (i := 172) (by decide +kernel))) rfl, bt_gin (bt_tin1 (List.mem_of_getElem? (i := 10) (by decide +kernel))) rfl, ⟨by decide +kernel, by decide +kernel, by decide +kernel⟩, by decide +kernel⟩
theorem vm_Sh_isOfSortOf_k : Cond.instanceMethod mi_Sh_isOfSortOf.1 ∈ bt_gw := bt_gin (bt_tin4 (List.mem_of_getElem? (i := 170) (by decide +kernel))) rfl
theorem vm_Sh_isOfSortOf_s : Cond.selects mi_Sh_isOfSortOf.1.cls mi_Sh_isOfSortOf.1 mi_Sh_isOfSortOf.1 ∈ bt_gw := bt_gin (bt_tin4 (List.mem_of_getElem? (i := 171) (by decide +kernel))) rfl
theorem bv_B_280 : bt_lkV "BellTrees" 280 mi_Sh_isOfSortOf 2 8 := ⟨⟨1, bt_T8, 4, rfl, rfl, vm_Sh_isOfSortOf⟩, bt_gin (bt_tin4 (List.mem_of_getElem? (i := 169) (by decide +kernel))) rfl, vm_Sh_isOfSortOf_k, vm_Sh_isOfSortOf_s⟩
theorem vm_Sh_hasPlaces : bt_lkM mi_Sh_hasPlaces 2 := ⟨bt_gin (bt_tin2 (List.mem_of_getElem? (i := 72) (by decide +kernel))) rfl, bt_gin (bt_tin1 (List.mem_of_getElem? (i := 10) (by decide +kernel))) rfl, ⟨by decide +kernel, by decide +kernel, by decide +kernel⟩, by decide +kernel⟩
theorem vm_Sh_hasPlaces_k : Cond.instanceMethod mi_Sh_hasPlaces.1 ∈ bt_gw := bt_gin (bt_tin2 (List.mem_of_getElem? (i := 70) (by decide +kernel))) rfl
theorem vm_Sh_hasPlaces_s : Cond.selects mi_Sh_hasPlaces.1.cls mi_Sh_hasPlaces.1 mi_Sh_hasPlaces.1 ∈ bt_gw := bt_gin (bt_tin2 (List.mem_of_getElem? (i := 71) (by decide +kernel))) rfl
theorem bv_B_284 : bt_lkV "BellTrees" 284 mi_Sh_hasPlaces 3 8 := ⟨⟨2, bt_T8, 4, rfl, rfl, vm_Sh_hasPlaces⟩, bt_gin (bt_tin2 (List.mem_of_getElem? (i := 69) (by decide +kernel))) rfl, vm_Sh_hasPlaces_k, vm_Sh_hasPlaces_s⟩
theorem vm_Sh_copy : bt_lkM mi_Sh_copy 4 := ⟨bt_gin (bt_tin4 (List.mem_of_getElem? (i := 176) (by decide +kernel))) rfl, bt_gin (bt_tin1 (List.mem_of_getElem? (i := 10) (by decide +kernel))) rfl, ⟨by decide +kernel, by decide +kernel, by decide +kernel⟩, by decide +kernel⟩
theorem vm_Sh_copy_k : Cond.instanceMethod mi_Sh_copy.1 ∈ bt_gw := bt_gin (bt_tin4 (List.mem_of_getElem? (i := 174) (by decide +kernel))) rfl
theorem vm_Sh_copy_s : Cond.selects mi_Sh_copy.1.cls mi_Sh_copy.1 mi_Sh_copy.1 ∈ bt_gw := bt_gin (bt_tin4 (List.mem_of_getElem? (i := 175) (by decide +kernel))) rfl
theorem bv_B_287 : bt_lkV "BellTrees" 287 mi_Sh_copy 5 8 := ⟨⟨4, bt_T8, 4, rfl, rfl, vm_Sh_copy⟩, bt_gin (bt_tin4 (List.mem_of_getElem? (i := 173) (by decide +kernel))) rfl, vm_Sh_copy_k, vm_Sh_copy_s⟩
theorem vm_Bo_isKind : bt_lkM mi_Bo_isKind 1 := ⟨bt_gin (bt_tin4 (List.mem_of_getElem? (i := 70) (by decide +kernel))) rfl, bt_gin (bt_tin1 (List.mem_of_getElem? (i := 9) (by decide +kernel))) rfl, ⟨by decide +kernel, by decide +kernel, by decide +kernel⟩, by decide +kernel⟩
theorem vm_Bo_isKind_k : Cond.instanceMethod mi_Bo_isKind.1 ∈ bt_gw := bt_gin (bt_tin4 (List.mem_of_getElem? (i := 68) (by decide +kernel))) rfl
theorem vm_Bo_isKind_s : Cond.selects mi_Bo_isKind.1.cls mi_Bo_isKind.1 mi_Bo_isKind.1 ∈ bt_gw := bt_gin (bt_tin4 (List.mem_of_getElem? (i := 69) (by decide +kernel))) rfl
theorem bv_B_291 : bt_lkV "BellTrees" 291 mi_Bo_isKind 2 7 := ⟨⟨1, bt_T7, 5, rfl, rfl, vm_Bo_isKind⟩, bt_gin (bt_tin4 (List.mem_of_getElem? (i := 182) (by decide +kernel))) rfl, vm_Bo_isKind_k, vm_Bo_isKind_s⟩
theorem vm_Sh_bodyHeld : bt_lkM mi_Sh_bodyHeld 0 := ⟨bt_gin (bt_tin4 (List.mem_of_getElem? (i := 186) (by decide +kernel))) rfl, bt_gin (bt_tin1 (List.mem_of_getElem? (i := 10) (by decide +kernel))) rfl, ⟨by decide +kernel, by decide +kernel, by decide +kernel⟩, by decide +kernel⟩
theorem vm_Sh_bodyHeld_k : Cond.instanceMethod mi_Sh_bodyHeld.1 ∈ bt_gw := bt_gin (bt_tin4 (List.mem_of_getElem? (i := 184) (by decide +kernel))) rfl
theorem vm_Sh_bodyHeld_s : Cond.selects mi_Sh_bodyHeld.1.cls mi_Sh_bodyHeld.1 mi_Sh_bodyHeld.1 ∈ bt_gw := bt_gin (bt_tin4 (List.mem_of_getElem? (i := 185) (by decide +kernel))) rfl
theorem bv_B_294 : bt_lkV "BellTrees" 294 mi_Sh_bodyHeld 1 8 := ⟨⟨0, bt_T8, 4, rfl, rfl, vm_Sh_bodyHeld⟩, bt_gin (bt_tin4 (List.mem_of_getElem? (i := 183) (by decide +kernel))) rfl, vm_Sh_bodyHeld_k, vm_Sh_bodyHeld_s⟩
theorem vm_Bo_kindOf : bt_lkM mi_Bo_kindOf 1 := ⟨bt_gin (bt_tin4 (List.mem_of_getElem? (i := 82) (by decide +kernel))) rfl, bt_gin (bt_tin1 (List.mem_of_getElem? (i := 9) (by decide +kernel))) rfl, ⟨by decide +kernel, by decide +kernel, by decide +kernel⟩, by decide +kernel⟩
theorem vm_Bo_kindOf_k : Cond.instanceMethod mi_Bo_kindOf.1 ∈ bt_gw := bt_gin (bt_tin4 (List.mem_of_getElem? (i := 80) (by decide +kernel))) rfl
theorem vm_Bo_kindOf_s : Cond.selects mi_Bo_kindOf.1.cls mi_Bo_kindOf.1 mi_Bo_kindOf.1 ∈ bt_gw := bt_gin (bt_tin4 (List.mem_of_getElem? (i := 81) (by decide +kernel))) rfl
theorem bv_B_297 : bt_lkV "BellTrees" 297 mi_Bo_kindOf 2 7 := ⟨⟨1, bt_T7, 5, rfl, rfl, vm_Bo_kindOf⟩, bt_gin (bt_tin4 (List.mem_of_getElem? (i := 187) (by decide +kernel))) rfl, vm_Bo_kindOf_k, vm_Bo_kindOf_s⟩
theorem vm_Bo_isUnder : bt_lkM mi_Bo_isUnder 2 := ⟨bt_gin (bt_tin4 (List.mem_of_getElem? (i := 191) (by decide +kernel))) rfl, bt_gin (bt_tin1 (List.mem_of_getElem? (i := 9) (by decide +kernel))) rfl, ⟨by decide +kernel, by decide +kernel, by decide +kernel⟩, by decide +kernel⟩
theorem vm_Bo_isUnder_k : Cond.instanceMethod mi_Bo_isUnder.1 ∈ bt_gw := bt_gin (bt_tin4 (List.mem_of_getElem? (i := 189) (by decide +kernel))) rfl
theorem vm_Bo_isUnder_s : Cond.selects mi_Bo_isUnder.1.cls mi_Bo_isUnder.1 mi_Bo_isUnder.1 ∈ bt_gw := bt_gin (bt_tin4 (List.mem_of_getElem? (i := 190) (by decide +kernel))) rfl
theorem bv_B_300 : bt_lkV "BellTrees" 300 mi_Bo_isUnder 3 7 := ⟨⟨2, bt_T7, 5, rfl, rfl, vm_Bo_isUnder⟩, bt_gin (bt_tin4 (List.mem_of_getElem? (i := 188) (by decide +kernel))) rfl, vm_Bo_isUnder_k, vm_Bo_isUnder_s⟩
theorem vm_Fo_joined : bt_lkM mi_Fo_joined 0 := ⟨bt_gin (bt_tin4 (List.mem_of_getElem? (i := 199) (by decide +kernel))) rfl, bt_gin (bt_tin1 (List.mem_of_getElem? (i := 2) (by decide +kernel))) rfl, ⟨by decide +kernel, by decide +kernel, by decide +kernel⟩, by decide +kernel⟩
theorem vm_Fo_joined_k : Cond.instanceMethod mi_Fo_joined.1 ∈ bt_gw := bt_gin (bt_tin4 (List.mem_of_getElem? (i := 197) (by decide +kernel))) rfl
theorem vm_Fo_joined_s : Cond.selects mi_Fo_joined.1.cls mi_Fo_joined.1 mi_Fo_joined.1 ∈ bt_gw := bt_gin (bt_tin4 (List.mem_of_getElem? (i := 198) (by decide +kernel))) rfl
theorem bv_B_303 : bt_lkV "BellTrees" 303 mi_Fo_joined 1 1 := ⟨⟨0, bt_T1, 7, rfl, rfl, vm_Fo_joined⟩, bt_gin (bt_tin4 (List.mem_of_getElem? (i := 196) (by decide +kernel))) rfl, vm_Fo_joined_k, vm_Fo_joined_s⟩
theorem vm_La_bytes : bt_lkM mi_La_bytes 0 := ⟨bt_gin (bt_tin4 (List.mem_of_getElem? (i := 203) (by decide +kernel))) rfl, bt_gin (bt_tin1 (List.mem_of_getElem? (i := 4) (by decide +kernel))) rfl, ⟨by decide +kernel, by decide +kernel, by decide +kernel⟩, by decide +kernel⟩
theorem vm_La_bytes_k : Cond.instanceMethod mi_La_bytes.1 ∈ bt_gw := bt_gin (bt_tin4 (List.mem_of_getElem? (i := 201) (by decide +kernel))) rfl
theorem vm_La_bytes_s : Cond.selects mi_La_bytes.1.cls mi_La_bytes.1 mi_La_bytes.1 ∈ bt_gw := bt_gin (bt_tin4 (List.mem_of_getElem? (i := 202) (by decide +kernel))) rfl
theorem bv_B_306 : bt_lkV "BellTrees" 306 mi_La_bytes 1 2 := ⟨⟨0, bt_T2, 15, rfl, rfl, vm_La_bytes⟩, bt_gin (bt_tin4 (List.mem_of_getElem? (i := 200) (by decide +kernel))) rfl, vm_La_bytes_k, vm_La_bytes_s⟩
theorem vm_Ch_revertible : bt_lkM mi_Ch_revertible 0 := ⟨bt_gin (bt_tin4 (List.mem_of_getElem? (i := 207) (by decide +kernel))) rfl, bt_gin (bt_tin1 (List.mem_of_getElem? (i := 7) (by decide +kernel))) rfl, ⟨by decide +kernel, by decide +kernel, by decide +kernel⟩, by decide +kernel⟩
theorem vm_Ch_revertible_k : Cond.instanceMethod mi_Ch_revertible.1 ∈ bt_gw := bt_gin (bt_tin4 (List.mem_of_getElem? (i := 205) (by decide +kernel))) rfl
theorem vm_Ch_revertible_s : Cond.selects mi_Ch_revertible.1.cls mi_Ch_revertible.1 mi_Ch_revertible.1 ∈ bt_gw := bt_gin (bt_tin4 (List.mem_of_getElem? (i := 206) (by decide +kernel))) rfl
theorem bv_B_309 : bt_lkV "BellTrees" 309 mi_Ch_revertible 1 5 := ⟨⟨0, bt_T5, 6, rfl, rfl, vm_Ch_revertible⟩, bt_gin (bt_tin4 (List.mem_of_getElem? (i := 204) (by decide +kernel))) rfl, vm_Ch_revertible_k, vm_Ch_revertible_s⟩
theorem vm_Bo_latestRuns : bt_lkM mi_Bo_latestRuns 0 := ⟨bt_gin (bt_tin4 (List.mem_of_getElem? (i := 211) (by decide +kernel))) rfl, bt_gin (bt_tin1 (List.mem_of_getElem? (i := 9) (by decide +kernel))) rfl, ⟨by decide +kernel, by decide +kernel, by decide +kernel⟩, by decide +kernel⟩
theorem vm_Bo_latestRuns_k : Cond.instanceMethod mi_Bo_latestRuns.1 ∈ bt_gw := bt_gin (bt_tin4 (List.mem_of_getElem? (i := 209) (by decide +kernel))) rfl
theorem vm_Bo_latestRuns_s : Cond.selects mi_Bo_latestRuns.1.cls mi_Bo_latestRuns.1 mi_Bo_latestRuns.1 ∈ bt_gw := bt_gin (bt_tin4 (List.mem_of_getElem? (i := 210) (by decide +kernel))) rfl
theorem bv_B_312 : bt_lkV "BellTrees" 312 mi_Bo_latestRuns 1 7 := ⟨⟨0, bt_T7, 5, rfl, rfl, vm_Bo_latestRuns⟩, bt_gin (bt_tin4 (List.mem_of_getElem? (i := 208) (by decide +kernel))) rfl, vm_Bo_latestRuns_k, vm_Bo_latestRuns_s⟩
theorem lk_B_315 : Cond.constant "BellTrees" 315 1103515245 ∈ bt_gw := bt_gin (bt_tin3 (List.mem_of_getElem? (i := 213) (by decide +kernel))) rfl
theorem lg_B_67 : bt_lkF "BellTrees" 67 0 8 false := ⟨bt_R0, bt_T0, 9, bt_ty0, rfl, rfl, bt_inG0, bt_tyok0, bt_nm0, rfl, bt_gin (bt_tin2 (List.mem_of_getElem? (i := 9) (by decide +kernel))) rfl, fun h => by cases h⟩
theorem vm_B_isWalk : bt_lkM mi_B_isWalk 1 := ⟨bt_gin (bt_tin3 (List.mem_of_getElem? (i := 141) (by decide +kernel))) rfl, bt_gin (bt_tin1 (List.mem_of_getElem? (i := 1) (by decide +kernel))) rfl, ⟨by decide +kernel, by decide +kernel, by decide +kernel⟩, by decide +kernel⟩
theorem vm_B_isWalk_k : Cond.instanceMethod mi_B_isWalk.1 ∈ bt_gw := bt_gin (bt_tin3 (List.mem_of_getElem? (i := 140) (by decide +kernel))) rfl
theorem vm_B_isWalk_s : Cond.selects mi_B_isWalk.1.cls mi_B_isWalk.1 mi_B_isWalk.1 ∈ bt_gw := bt_gin (List.mem_of_getElem? (i := 26) (by decide +kernel)) rfl
theorem bv_B_316 : bt_lkV "BellTrees" 316 mi_B_isWalk 2 0 := ⟨⟨1, bt_T0, 9, rfl, rfl, vm_B_isWalk⟩, bt_gin (bt_tin3 (List.mem_of_getElem? (i := 138) (by decide +kernel))) rfl, vm_B_isWalk_k, vm_B_isWalk_s⟩
theorem vm_Fo_all : bt_lkM mi_Fo_all 0 := ⟨bt_gin (bt_tin3 (List.mem_of_getElem? (i := 69) (by decide +kernel))) rfl, bt_gin (bt_tin1 (List.mem_of_getElem? (i := 2) (by decide +kernel))) rfl, ⟨by decide +kernel, by decide +kernel, by decide +kernel⟩, by decide +kernel⟩
theorem vm_Fo_all_k : Cond.instanceMethod mi_Fo_all.1 ∈ bt_gw := bt_gin (bt_tin3 (List.mem_of_getElem? (i := 67) (by decide +kernel))) rfl
theorem vm_Fo_all_s : Cond.selects mi_Fo_all.1.cls mi_Fo_all.1 mi_Fo_all.1 ∈ bt_gw := bt_gin (bt_tin3 (List.mem_of_getElem? (i := 68) (by decide +kernel))) rfl
theorem bv_B_319 : bt_lkV "BellTrees" 319 mi_Fo_all 1 1 := ⟨⟨0, bt_T1, 7, rfl, rfl, vm_Fo_all⟩, bt_gin (bt_tin3 (List.mem_of_getElem? (i := 142) (by decide +kernel))) rfl, vm_Fo_all_k, vm_Fo_all_s⟩
theorem vm_Fo_around : bt_lkM mi_Fo_around 1 := ⟨bt_gin (bt_tin3 (List.mem_of_getElem? (i := 53) (by decide +kernel))) rfl, bt_gin (bt_tin1 (List.mem_of_getElem? (i := 2) (by decide +kernel))) rfl, ⟨by decide +kernel, by decide +kernel, by decide +kernel⟩, by decide +kernel⟩
theorem vm_Fo_around_k : Cond.instanceMethod mi_Fo_around.1 ∈ bt_gw := bt_gin (bt_tin3 (List.mem_of_getElem? (i := 51) (by decide +kernel))) rfl
theorem vm_Fo_around_s : Cond.selects mi_Fo_around.1.cls mi_Fo_around.1 mi_Fo_around.1 ∈ bt_gw := bt_gin (bt_tin3 (List.mem_of_getElem? (i := 52) (by decide +kernel))) rfl
theorem bv_B_322 : bt_lkV "BellTrees" 322 mi_Fo_around 2 1 := ⟨⟨1, bt_T1, 7, rfl, rfl, vm_Fo_around⟩, bt_gin (bt_tin3 (List.mem_of_getElem? (i := 143) (by decide +kernel))) rfl, vm_Fo_around_k, vm_Fo_around_s⟩
theorem vm_JM_min : bt_lkM mi_JM_min 2 := ⟨bt_gin (bt_tin3 (List.mem_of_getElem? (i := 38) (by decide +kernel))) rfl, bt_gin (bt_tin1 (List.mem_of_getElem? (i := 13) (by decide +kernel))) rfl, ⟨by decide +kernel, by decide +kernel, by decide +kernel⟩, by decide +kernel⟩
theorem vm_JM_min_k : Cond.static mi_JM_min.1 ∈ bt_gw := bt_gin (bt_tin3 (List.mem_of_getElem? (i := 37) (by decide +kernel))) rfl
theorem bs_B_325 : bt_lkS "BellTrees" 325 mi_JM_min 2 := ⟨vm_JM_min, Or.inl (bt_gin (bt_tin3 (List.mem_of_getElem? (i := 148) (by decide +kernel))) rfl), vm_JM_min_k⟩
theorem vm_So_among : bt_lkM mi_So_among 3 := ⟨bt_gin (bt_tin3 (List.mem_of_getElem? (i := 156) (by decide +kernel))) rfl, bt_gin (bt_tin1 (List.mem_of_getElem? (i := 5) (by decide +kernel))) rfl, ⟨by decide +kernel, by decide +kernel, by decide +kernel⟩, by decide +kernel⟩
theorem vm_So_among_k : Cond.instanceMethod mi_So_among.1 ∈ bt_gw := bt_gin (bt_tin3 (List.mem_of_getElem? (i := 154) (by decide +kernel))) rfl
theorem vm_So_among_s : Cond.selects mi_So_among.1.cls mi_So_among.1 mi_So_among.1 ∈ bt_gw := bt_gin (bt_tin3 (List.mem_of_getElem? (i := 155) (by decide +kernel))) rfl
theorem bv_B_330 : bt_lkV "BellTrees" 330 mi_So_among 4 3 := ⟨⟨3, bt_T3, 4, rfl, rfl, vm_So_among⟩, bt_gin (bt_tin3 (List.mem_of_getElem? (i := 153) (by decide +kernel))) rfl, vm_So_among_k, vm_So_among_s⟩
theorem vm_B_hasSound : bt_lkM mi_B_hasSound 2 := ⟨bt_gin (bt_tin3 (List.mem_of_getElem? (i := 186) (by decide +kernel))) rfl, bt_gin (bt_tin1 (List.mem_of_getElem? (i := 1) (by decide +kernel))) rfl, ⟨by decide +kernel, by decide +kernel, by decide +kernel⟩, by decide +kernel⟩
theorem vm_B_hasSound_k : Cond.instanceMethod mi_B_hasSound.1 ∈ bt_gw := bt_gin (bt_tin3 (List.mem_of_getElem? (i := 185) (by decide +kernel))) rfl
theorem vm_B_hasSound_s : Cond.selects mi_B_hasSound.1.cls mi_B_hasSound.1 mi_B_hasSound.1 ∈ bt_gw := bt_gin (List.mem_of_getElem? (i := 31) (by decide +kernel)) rfl
theorem bv_B_333 : bt_lkV "BellTrees" 333 mi_B_hasSound 3 0 := ⟨⟨2, bt_T0, 9, rfl, rfl, vm_B_hasSound⟩, bt_gin (bt_tin3 (List.mem_of_getElem? (i := 183) (by decide +kernel))) rfl, vm_B_hasSound_k, vm_B_hasSound_s⟩
theorem vm_B_nextDraw : bt_lkM mi_B_nextDraw 1 := ⟨bt_gin (bt_tin3 (List.mem_of_getElem? (i := 212) (by decide +kernel))) rfl, bt_gin (bt_tin1 (List.mem_of_getElem? (i := 1) (by decide +kernel))) rfl, ⟨by decide +kernel, by decide +kernel, by decide +kernel⟩, by decide +kernel⟩
theorem vm_B_nextDraw_k : Cond.static mi_B_nextDraw.1 ∈ bt_gw := bt_gin (bt_tin3 (List.mem_of_getElem? (i := 211) (by decide +kernel))) rfl
theorem bs_B_337 : bt_lkS "BellTrees" 337 mi_B_nextDraw 1 := ⟨vm_B_nextDraw, Or.inl (bt_gin (bt_tin3 (List.mem_of_getElem? (i := 210) (by decide +kernel))) rfl), vm_B_nextDraw_k⟩
theorem vm_Fo_treeDrawn : bt_lkM mi_Fo_treeDrawn 1 := ⟨bt_gin (bt_tin3 (List.mem_of_getElem? (i := 217) (by decide +kernel))) rfl, bt_gin (bt_tin1 (List.mem_of_getElem? (i := 2) (by decide +kernel))) rfl, ⟨by decide +kernel, by decide +kernel, by decide +kernel⟩, by decide +kernel⟩
theorem vm_Fo_treeDrawn_k : Cond.instanceMethod mi_Fo_treeDrawn.1 ∈ bt_gw := bt_gin (bt_tin3 (List.mem_of_getElem? (i := 215) (by decide +kernel))) rfl
theorem vm_Fo_treeDrawn_s : Cond.selects mi_Fo_treeDrawn.1.cls mi_Fo_treeDrawn.1 mi_Fo_treeDrawn.1 ∈ bt_gw := bt_gin (bt_tin3 (List.mem_of_getElem? (i := 216) (by decide +kernel))) rfl
theorem bv_B_340 : bt_lkV "BellTrees" 340 mi_Fo_treeDrawn 2 1 := ⟨⟨1, bt_T1, 7, rfl, rfl, vm_Fo_treeDrawn⟩, bt_gin (bt_tin3 (List.mem_of_getElem? (i := 214) (by decide +kernel))) rfl, vm_Fo_treeDrawn_k, vm_Fo_treeDrawn_s⟩
theorem vm_Fo_stepDrawn : bt_lkM mi_Fo_stepDrawn 2 := ⟨bt_gin (bt_tin3 (List.mem_of_getElem? (i := 221) (by decide +kernel))) rfl, bt_gin (bt_tin1 (List.mem_of_getElem? (i := 2) (by decide +kernel))) rfl, ⟨by decide +kernel, by decide +kernel, by decide +kernel⟩, by decide +kernel⟩
theorem vm_Fo_stepDrawn_k : Cond.instanceMethod mi_Fo_stepDrawn.1 ∈ bt_gw := bt_gin (bt_tin3 (List.mem_of_getElem? (i := 219) (by decide +kernel))) rfl
theorem vm_Fo_stepDrawn_s : Cond.selects mi_Fo_stepDrawn.1.cls mi_Fo_stepDrawn.1 mi_Fo_stepDrawn.1 ∈ bt_gw := bt_gin (bt_tin3 (List.mem_of_getElem? (i := 220) (by decide +kernel))) rfl
theorem bv_B_343 : bt_lkV "BellTrees" 343 mi_Fo_stepDrawn 3 1 := ⟨⟨2, bt_T1, 7, rfl, rfl, vm_Fo_stepDrawn⟩, bt_gin (bt_tin3 (List.mem_of_getElem? (i := 218) (by decide +kernel))) rfl, vm_Fo_stepDrawn_k, vm_Fo_stepDrawn_s⟩
theorem lg_Fo_35 : bt_lkF "BellTrees$Forest" 35 1 4 false := ⟨bt_R1, bt_T1, 7, bt_ty1, rfl, rfl, bt_inG1, bt_tyok1, bt_nm1, rfl, bt_gin (bt_tin1 (List.mem_of_getElem? (i := 40) (by decide +kernel))) rfl, fun h => by cases h⟩
theorem lg_Fo_39 : bt_lkF "BellTrees$Forest" 39 1 5 false := ⟨bt_R1, bt_T1, 7, bt_ty1, rfl, rfl, bt_inG1, bt_tyok1, bt_nm1, rfl, bt_gin (bt_tin1 (List.mem_of_getElem? (i := 41) (by decide +kernel))) rfl, fun h => by cases h⟩
theorem lg_Fo_42 : bt_lkF "BellTrees$Forest" 42 1 6 false := ⟨bt_R1, bt_T1, 7, bt_ty1, rfl, rfl, bt_inG1, bt_tyok1, bt_nm1, rfl, bt_gin (bt_tin1 (List.mem_of_getElem? (i := 42) (by decide +kernel))) rfl, fun h => by cases h⟩
theorem vm_Fo_slots : bt_lkM mi_Fo_slots 1 := ⟨bt_gin (bt_tin2 (List.mem_of_getElem? (i := 48) (by decide +kernel))) rfl, bt_gin (bt_tin1 (List.mem_of_getElem? (i := 2) (by decide +kernel))) rfl, ⟨by decide +kernel, by decide +kernel, by decide +kernel⟩, by decide +kernel⟩
theorem vm_Fo_slots_k : Cond.instanceMethod mi_Fo_slots.1 ∈ bt_gw := bt_gin (bt_tin2 (List.mem_of_getElem? (i := 47) (by decide +kernel))) rfl
theorem vm_Fo_slots_s : Cond.selects mi_Fo_slots.1.cls mi_Fo_slots.1 mi_Fo_slots.1 ∈ bt_gw := bt_gin (List.mem_of_getElem? (i := 0) (by decide +kernel)) rfl
theorem bv_Fo_45 : bt_lkV "BellTrees$Forest" 45 mi_Fo_slots 2 1 := ⟨⟨1, bt_T1, 7, rfl, rfl, vm_Fo_slots⟩, bt_gin (bt_tin2 (List.mem_of_getElem? (i := 45) (by decide +kernel))) rfl, vm_Fo_slots_k, vm_Fo_slots_s⟩
theorem ls_Fo_9 : bt_lkG "BellTrees$Forest" 9 0 := ⟨by decide, bt_gin (bt_tin1 (List.mem_of_getElem? (i := 29) (by decide +kernel))) rfl⟩
theorem bv_Fo_49 : bt_lkV "BellTrees$Forest" 49 mi_Fo_isSlot 3 1 := ⟨⟨2, bt_T1, 7, rfl, rfl, vm_Fo_isSlot⟩, bt_gin (bt_tin2 (List.mem_of_getElem? (i := 41) (by decide +kernel))) rfl, vm_Fo_isSlot_k, vm_Fo_isSlot_s⟩
theorem lg_Fo_17 : bt_lkF "BellTrees$Forest" 17 1 0 false := ⟨bt_R1, bt_T1, 7, bt_ty1, rfl, rfl, bt_inG1, bt_tyok1, bt_nm1, rfl, bt_gin (bt_tin1 (List.mem_of_getElem? (i := 36) (by decide +kernel))) rfl, fun h => by cases h⟩
theorem lp_Fo_35 : bt_lkF "BellTrees$Forest" 35 1 4 true := ⟨bt_R1, bt_T1, 7, bt_ty1, rfl, rfl, bt_inG1, bt_tyok1, bt_nm1, rfl, bt_gin (bt_tin1 (List.mem_of_getElem? (i := 40) (by decide +kernel))) rfl, fun _ => ⟨rfl, Or.inl ⟨rfl, rfl⟩⟩⟩
theorem bv_Fo_53 : bt_lkV "BellTrees$Forest" 53 mi_Fo_set 4 1 := ⟨⟨3, bt_T1, 7, rfl, rfl, vm_Fo_set⟩, bt_gin (bt_tin2 (List.mem_of_getElem? (i := 37) (by decide +kernel))) rfl, vm_Fo_set_k, vm_Fo_set_s⟩
theorem bv_Fo_57 : bt_lkV "BellTrees$Forest" 57 mi_Fo_has 2 1 := ⟨⟨1, bt_T1, 7, rfl, rfl, vm_Fo_has⟩, bt_gin (bt_tin2 (List.mem_of_getElem? (i := 94) (by decide +kernel))) rfl, vm_Fo_has_k, vm_Fo_has_s⟩
theorem lg_Fo_20 : bt_lkF "BellTrees$Forest" 20 1 1 false := ⟨bt_R1, bt_T1, 7, bt_ty1, rfl, rfl, bt_inG1, bt_tyok1, bt_nm1, rfl, bt_gin (bt_tin1 (List.mem_of_getElem? (i := 37) (by decide +kernel))) rfl, fun h => by cases h⟩
theorem lp_Fo_39 : bt_lkF "BellTrees$Forest" 39 1 5 true := ⟨bt_R1, bt_T1, 7, bt_ty1, rfl, rfl, bt_inG1, bt_tyok1, bt_nm1, rfl, bt_gin (bt_tin1 (List.mem_of_getElem? (i := 41) (by decide +kernel))) rfl, fun _ => ⟨rfl, Or.inl ⟨rfl, rfl⟩⟩⟩
theorem lg_Fo_26 : bt_lkF "BellTrees$Forest" 26 1 3 false := ⟨bt_R1, bt_T1, 7, bt_ty1, rfl, rfl, bt_inG1, bt_tyok1, bt_nm1, rfl, bt_gin (bt_tin1 (List.mem_of_getElem? (i := 39) (by decide +kernel))) rfl, fun h => by cases h⟩
theorem bv_Fo_61 : bt_lkV "BellTrees$Forest" 61 mi_Fo_heardOf 2 1 := ⟨⟨1, bt_T1, 7, rfl, rfl, vm_Fo_heardOf⟩, bt_gin (bt_tin4 (List.mem_of_getElem? (i := 3) (by decide +kernel))) rfl, vm_Fo_heardOf_k, vm_Fo_heardOf_s⟩
theorem vm_Fo_setHeard : bt_lkM mi_Fo_setHeard 2 := ⟨bt_gin (bt_tin4 (List.mem_of_getElem? (i := 7) (by decide +kernel))) rfl, bt_gin (bt_tin1 (List.mem_of_getElem? (i := 2) (by decide +kernel))) rfl, ⟨by decide +kernel, by decide +kernel, by decide +kernel⟩, by decide +kernel⟩
theorem vm_Fo_setHeard_k : Cond.instanceMethod mi_Fo_setHeard.1 ∈ bt_gw := bt_gin (bt_tin4 (List.mem_of_getElem? (i := 5) (by decide +kernel))) rfl
theorem vm_Fo_setHeard_s : Cond.selects mi_Fo_setHeard.1.cls mi_Fo_setHeard.1 mi_Fo_setHeard.1 ∈ bt_gw := bt_gin (bt_tin4 (List.mem_of_getElem? (i := 6) (by decide +kernel))) rfl
theorem bv_Fo_64 : bt_lkV "BellTrees$Forest" 64 mi_Fo_setHeard 3 1 := ⟨⟨2, bt_T1, 7, rfl, rfl, vm_Fo_setHeard⟩, bt_gin (bt_tin4 (List.mem_of_getElem? (i := 4) (by decide +kernel))) rfl, vm_Fo_setHeard_k, vm_Fo_setHeard_s⟩
theorem lp_Fo_42 : bt_lkF "BellTrees$Forest" 42 1 6 true := ⟨bt_R1, bt_T1, 7, bt_ty1, rfl, rfl, bt_inG1, bt_tyok1, bt_nm1, rfl, bt_gin (bt_tin1 (List.mem_of_getElem? (i := 42) (by decide +kernel))) rfl, fun _ => ⟨rfl, Or.inl ⟨rfl, rfl⟩⟩⟩
theorem vm_Fo_measureFar : bt_lkM mi_Fo_measureFar 0 := ⟨bt_gin (bt_tin2 (List.mem_of_getElem? (i := 131) (by decide +kernel))) rfl, bt_gin (bt_tin1 (List.mem_of_getElem? (i := 2) (by decide +kernel))) rfl, ⟨by decide +kernel, by decide +kernel, by decide +kernel⟩, by decide +kernel⟩
theorem vm_Fo_measureFar_k : Cond.instanceMethod mi_Fo_measureFar.1 ∈ bt_gw := bt_gin (bt_tin2 (List.mem_of_getElem? (i := 129) (by decide +kernel))) rfl
theorem vm_Fo_measureFar_s : Cond.selects mi_Fo_measureFar.1.cls mi_Fo_measureFar.1 mi_Fo_measureFar.1 ∈ bt_gw := bt_gin (bt_tin2 (List.mem_of_getElem? (i := 130) (by decide +kernel))) rfl
theorem bv_Fo_68 : bt_lkV "BellTrees$Forest" 68 mi_Fo_measureFar 1 1 := ⟨⟨0, bt_T1, 7, rfl, rfl, vm_Fo_measureFar⟩, bt_gin (bt_tin2 (List.mem_of_getElem? (i := 128) (by decide +kernel))) rfl, vm_Fo_measureFar_k, vm_Fo_measureFar_s⟩
theorem vm_Fo_farMeasured : bt_lkM mi_Fo_farMeasured 1 := ⟨bt_gin (bt_tin2 (List.mem_of_getElem? (i := 136) (by decide +kernel))) rfl, bt_gin (bt_tin1 (List.mem_of_getElem? (i := 2) (by decide +kernel))) rfl, ⟨by decide +kernel, by decide +kernel, by decide +kernel⟩, by decide +kernel⟩
theorem vm_Fo_farMeasured_k : Cond.instanceMethod mi_Fo_farMeasured.1 ∈ bt_gw := bt_gin (bt_tin2 (List.mem_of_getElem? (i := 134) (by decide +kernel))) rfl
theorem vm_Fo_farMeasured_s : Cond.selects mi_Fo_farMeasured.1.cls mi_Fo_farMeasured.1 mi_Fo_farMeasured.1 ∈ bt_gw := bt_gin (bt_tin2 (List.mem_of_getElem? (i := 135) (by decide +kernel))) rfl
theorem bv_Fo_71 : bt_lkV "BellTrees$Forest" 71 mi_Fo_farMeasured 2 1 := ⟨⟨1, bt_T1, 7, rfl, rfl, vm_Fo_farMeasured⟩, bt_gin (bt_tin2 (List.mem_of_getElem? (i := 133) (by decide +kernel))) rfl, vm_Fo_farMeasured_k, vm_Fo_farMeasured_s⟩
theorem lg_Fo_23 : bt_lkF "BellTrees$Forest" 23 1 2 false := ⟨bt_R1, bt_T1, 7, bt_ty1, rfl, rfl, bt_inG1, bt_tyok1, bt_nm1, rfl, bt_gin (bt_tin1 (List.mem_of_getElem? (i := 38) (by decide +kernel))) rfl, fun h => by cases h⟩
theorem vm_JA_fillI : bt_lkM mi_JA_fillI 2 := ⟨bt_gin (bt_tin1 (List.mem_of_getElem? (i := 35) (by decide +kernel))) rfl, bt_gin (bt_tin1 (List.mem_of_getElem? (i := 3) (by decide +kernel))) rfl, ⟨by decide +kernel, by decide +kernel, by decide +kernel⟩, by decide +kernel⟩
theorem vm_JA_fillI_k : Cond.static mi_JA_fillI.1 ∈ bt_gw := bt_gin (bt_tin1 (List.mem_of_getElem? (i := 34) (by decide +kernel))) rfl
theorem bs_Fo_29 : bt_lkS "BellTrees$Forest" 29 mi_JA_fillI 2 := ⟨vm_JA_fillI, Or.inl (bt_gin (bt_tin1 (List.mem_of_getElem? (i := 33) (by decide +kernel))) rfl), vm_JA_fillI_k⟩
theorem bv_Fo_74 : bt_lkV "BellTrees$Forest" 74 mi_Fo_get 3 1 := ⟨⟨2, bt_T1, 7, rfl, rfl, vm_Fo_get⟩, bt_gin (bt_tin2 (List.mem_of_getElem? (i := 132) (by decide +kernel))) rfl, vm_Fo_get_k, vm_Fo_get_s⟩
theorem bv_Fo_78 : bt_lkV "BellTrees$Forest" 78 mi_Fo_all 1 1 := ⟨⟨0, bt_T1, 7, rfl, rfl, vm_Fo_all⟩, bt_gin (bt_tin3 (List.mem_of_getElem? (i := 195) (by decide +kernel))) rfl, vm_Fo_all_k, vm_Fo_all_s⟩
theorem bs_Fo_82 : bt_lkS "BellTrees$Forest" 82 mi_JI_bitCount 1 := ⟨vm_JI_bitCount, Or.inl (bt_gin (bt_tin3 (List.mem_of_getElem? (i := 196) (by decide +kernel))) rfl), vm_JI_bitCount_k⟩
theorem vm_Fo_isUnlikeWithout : bt_lkM mi_Fo_isUnlikeWithout 1 := ⟨bt_gin (bt_tin3 (List.mem_of_getElem? (i := 200) (by decide +kernel))) rfl, bt_gin (bt_tin1 (List.mem_of_getElem? (i := 2) (by decide +kernel))) rfl, ⟨by decide +kernel, by decide +kernel, by decide +kernel⟩, by decide +kernel⟩
theorem vm_Fo_isUnlikeWithout_k : Cond.instanceMethod mi_Fo_isUnlikeWithout.1 ∈ bt_gw := bt_gin (bt_tin3 (List.mem_of_getElem? (i := 199) (by decide +kernel))) rfl
theorem vm_Fo_isUnlikeWithout_s : Cond.selects mi_Fo_isUnlikeWithout.1.cls mi_Fo_isUnlikeWithout.1 mi_Fo_isUnlikeWithout.1 ∈ bt_gw := bt_gin (List.mem_of_getElem? (i := 32) (by decide +kernel)) rfl
theorem bv_Fo_87 : bt_lkV "BellTrees$Forest" 87 mi_Fo_isUnlikeWithout 2 1 := ⟨⟨1, bt_T1, 7, rfl, rfl, vm_Fo_isUnlikeWithout⟩, bt_gin (bt_tin3 (List.mem_of_getElem? (i := 197) (by decide +kernel))) rfl, vm_Fo_isUnlikeWithout_k, vm_Fo_isUnlikeWithout_s⟩
theorem bs_Fo_90 : bt_lkS "BellTrees$Forest" 90 mi_B_nextDraw 1 := ⟨vm_B_nextDraw, Or.inr ⟨"BellTrees", by decide +kernel⟩, vm_B_nextDraw_k⟩
theorem vm_JM_max : bt_lkM mi_JM_max 2 := ⟨bt_gin (bt_tin3 (List.mem_of_getElem? (i := 233) (by decide +kernel))) rfl, bt_gin (bt_tin1 (List.mem_of_getElem? (i := 13) (by decide +kernel))) rfl, ⟨by decide +kernel, by decide +kernel, by decide +kernel⟩, by decide +kernel⟩
theorem vm_JM_max_k : Cond.static mi_JM_max.1 ∈ bt_gw := bt_gin (bt_tin3 (List.mem_of_getElem? (i := 232) (by decide +kernel))) rfl
theorem bs_Fo_93 : bt_lkS "BellTrees$Forest" 93 mi_JM_max 2 := ⟨vm_JM_max, Or.inl (bt_gin (bt_tin3 (List.mem_of_getElem? (i := 231) (by decide +kernel))) rfl), vm_JM_max_k⟩
theorem bs_Fo_98 : bt_lkS "BellTrees$Forest" 98 mi_JM_min 2 := ⟨vm_JM_min, Or.inl (bt_gin (bt_tin3 (List.mem_of_getElem? (i := 234) (by decide +kernel))) rfl), vm_JM_min_k⟩
theorem lg_La_24 : bt_lkF "BellTrees$Law" 24 2 4 false := ⟨bt_R2, bt_T2, 15, bt_ty2, rfl, rfl, bt_inG2, bt_tyok2, bt_nm2, rfl, bt_gin (bt_tin1 (List.mem_of_getElem? (i := 69) (by decide +kernel))) rfl, fun h => by cases h⟩
theorem lg_La_11 : bt_lkF "BellTrees$Law" 11 2 0 false := ⟨bt_R2, bt_T2, 15, bt_ty2, rfl, rfl, bt_inG2, bt_tyok2, bt_nm2, rfl, bt_gin (bt_tin1 (List.mem_of_getElem? (i := 65) (by decide +kernel))) rfl, fun h => by cases h⟩
theorem lp_La_24 : bt_lkF "BellTrees$Law" 24 2 4 true := ⟨bt_R2, bt_T2, 15, bt_ty2, rfl, rfl, bt_inG2, bt_tyok2, bt_nm2, rfl, bt_gin (bt_tin1 (List.mem_of_getElem? (i := 69) (by decide +kernel))) rfl, fun _ => ⟨rfl, Or.inl ⟨rfl, rfl⟩⟩⟩
theorem lp_La_28 : bt_lkF "BellTrees$Law" 28 2 5 true := ⟨bt_R2, bt_T2, 15, bt_ty2, rfl, rfl, bt_inG2, bt_tyok2, bt_nm2, rfl, bt_gin (bt_tin1 (List.mem_of_getElem? (i := 70) (by decide +kernel))) rfl, fun _ => ⟨rfl, Or.inl ⟨rfl, rfl⟩⟩⟩
theorem lp_La_31 : bt_lkF "BellTrees$Law" 31 2 6 true := ⟨bt_R2, bt_T2, 15, bt_ty2, rfl, rfl, bt_inG2, bt_tyok2, bt_nm2, rfl, bt_gin (bt_tin1 (List.mem_of_getElem? (i := 71) (by decide +kernel))) rfl, fun _ => ⟨rfl, Or.inl ⟨rfl, rfl⟩⟩⟩
theorem vm_La_readLines : bt_lkM mi_La_readLines 0 := ⟨bt_gin (bt_tin2 (List.mem_of_getElem? (i := 164) (by decide +kernel))) rfl, bt_gin (bt_tin1 (List.mem_of_getElem? (i := 4) (by decide +kernel))) rfl, ⟨by decide +kernel, by decide +kernel, by decide +kernel⟩, by decide +kernel⟩
theorem vm_La_readLines_k : Cond.instanceMethod mi_La_readLines.1 ∈ bt_gw := bt_gin (bt_tin2 (List.mem_of_getElem? (i := 163) (by decide +kernel))) rfl
theorem vm_La_readLines_s : Cond.selects mi_La_readLines.1.cls mi_La_readLines.1 mi_La_readLines.1 ∈ bt_gw := bt_gin (List.mem_of_getElem? (i := 4) (by decide +kernel)) rfl
theorem bv_La_34 : bt_lkV "BellTrees$Law" 34 mi_La_readLines 1 2 := ⟨⟨0, bt_T2, 15, rfl, rfl, vm_La_readLines⟩, bt_gin (bt_tin2 (List.mem_of_getElem? (i := 161) (by decide +kernel))) rfl, vm_La_readLines_k, vm_La_readLines_s⟩
theorem lg_La_28 : bt_lkF "BellTrees$Law" 28 2 5 false := ⟨bt_R2, bt_T2, 15, bt_ty2, rfl, rfl, bt_inG2, bt_tyok2, bt_nm2, rfl, bt_gin (bt_tin1 (List.mem_of_getElem? (i := 70) (by decide +kernel))) rfl, fun h => by cases h⟩
theorem lg_La_15 : bt_lkF "BellTrees$Law" 15 2 1 false := ⟨bt_R2, bt_T2, 15, bt_ty2, rfl, rfl, bt_inG2, bt_tyok2, bt_nm2, rfl, bt_gin (bt_tin1 (List.mem_of_getElem? (i := 66) (by decide +kernel))) rfl, fun h => by cases h⟩
theorem lg_La_18 : bt_lkF "BellTrees$Law" 18 2 2 false := ⟨bt_R2, bt_T2, 15, bt_ty2, rfl, rfl, bt_inG2, bt_tyok2, bt_nm2, rfl, bt_gin (bt_tin1 (List.mem_of_getElem? (i := 67) (by decide +kernel))) rfl, fun h => by cases h⟩
theorem lg_La_31 : bt_lkF "BellTrees$Law" 31 2 6 false := ⟨bt_R2, bt_T2, 15, bt_ty2, rfl, rfl, bt_inG2, bt_tyok2, bt_nm2, rfl, bt_gin (bt_tin1 (List.mem_of_getElem? (i := 71) (by decide +kernel))) rfl, fun h => by cases h⟩
theorem lc_La_38 : bt_lkC "BellTrees$Law" 38 := ⟨bt_gin (bt_tin2 (List.mem_of_getElem? (i := 199) (by decide +kernel))) rfl, bt_gin (bt_tin2 (List.mem_of_getElem? (i := 118) (by decide +kernel))) rfl, bt_gin (bt_tin2 (List.mem_of_getElem? (i := 117) (by decide +kernel))) rfl, bt_gin (bt_tin1 (List.mem_of_getElem? (i := 12) (by decide +kernel))) rfl⟩
theorem lp_La_44 : bt_lkF "BellTrees$Law" 44 2 7 true := ⟨bt_R2, bt_T2, 15, bt_ty2, rfl, rfl, bt_inG2, bt_tyok2, bt_nm2, rfl, bt_gin (bt_tin1 (List.mem_of_getElem? (i := 72) (by decide +kernel))) rfl, fun _ => ⟨rfl, Or.inl ⟨rfl, rfl⟩⟩⟩
theorem vm_La_readLine : bt_lkM mi_La_readLine 0 := ⟨bt_gin (bt_tin2 (List.mem_of_getElem? (i := 168) (by decide +kernel))) rfl, bt_gin (bt_tin1 (List.mem_of_getElem? (i := 4) (by decide +kernel))) rfl, ⟨by decide +kernel, by decide +kernel, by decide +kernel⟩, by decide +kernel⟩
theorem vm_La_readLine_k : Cond.instanceMethod mi_La_readLine.1 ∈ bt_gw := bt_gin (bt_tin2 (List.mem_of_getElem? (i := 167) (by decide +kernel))) rfl
theorem vm_La_readLine_s : Cond.selects mi_La_readLine.1.cls mi_La_readLine.1 mi_La_readLine.1 ∈ bt_gw := bt_gin (List.mem_of_getElem? (i := 5) (by decide +kernel)) rfl
theorem bv_La_47 : bt_lkV "BellTrees$Law" 47 mi_La_readLine 1 2 := ⟨⟨0, bt_T2, 15, rfl, rfl, vm_La_readLine⟩, bt_gin (bt_tin2 (List.mem_of_getElem? (i := 165) (by decide +kernel))) rfl, vm_La_readLine_k, vm_La_readLine_s⟩
theorem vm_La_note : bt_lkM mi_La_note 1 := ⟨bt_gin (bt_tin2 (List.mem_of_getElem? (i := 188) (by decide +kernel))) rfl, bt_gin (bt_tin1 (List.mem_of_getElem? (i := 4) (by decide +kernel))) rfl, ⟨by decide +kernel, by decide +kernel, by decide +kernel⟩, by decide +kernel⟩
theorem vm_La_note_k : Cond.instanceMethod mi_La_note.1 ∈ bt_gw := bt_gin (bt_tin2 (List.mem_of_getElem? (i := 187) (by decide +kernel))) rfl
theorem vm_La_note_s : Cond.selects mi_La_note.1.cls mi_La_note.1 mi_La_note.1 ∈ bt_gw := bt_gin (List.mem_of_getElem? (i := 10) (by decide +kernel)) rfl
theorem bv_La_50 : bt_lkV "BellTrees$Law" 50 mi_La_note 2 2 := ⟨⟨1, bt_T2, 15, rfl, rfl, vm_La_note⟩, bt_gin (bt_tin2 (List.mem_of_getElem? (i := 185) (by decide +kernel))) rfl, vm_La_note_k, vm_La_note_s⟩
theorem vm_La_next : bt_lkM mi_La_next 0 := ⟨bt_gin (bt_tin2 (List.mem_of_getElem? (i := 180) (by decide +kernel))) rfl, bt_gin (bt_tin1 (List.mem_of_getElem? (i := 4) (by decide +kernel))) rfl, ⟨by decide +kernel, by decide +kernel, by decide +kernel⟩, by decide +kernel⟩
theorem vm_La_next_k : Cond.instanceMethod mi_La_next.1 ∈ bt_gw := bt_gin (bt_tin2 (List.mem_of_getElem? (i := 179) (by decide +kernel))) rfl
theorem vm_La_next_s : Cond.selects mi_La_next.1.cls mi_La_next.1 mi_La_next.1 ∈ bt_gw := bt_gin (List.mem_of_getElem? (i := 8) (by decide +kernel)) rfl
theorem bv_La_54 : bt_lkV "BellTrees$Law" 54 mi_La_next 1 2 := ⟨⟨0, bt_T2, 15, rfl, rfl, vm_La_next⟩, bt_gin (bt_tin2 (List.mem_of_getElem? (i := 177) (by decide +kernel))) rfl, vm_La_next_k, vm_La_next_s⟩
theorem vm_La_readLevel : bt_lkM mi_La_readLevel 2 := ⟨bt_gin (bt_tin2 (List.mem_of_getElem? (i := 172) (by decide +kernel))) rfl, bt_gin (bt_tin1 (List.mem_of_getElem? (i := 4) (by decide +kernel))) rfl, ⟨by decide +kernel, by decide +kernel, by decide +kernel⟩, by decide +kernel⟩
theorem vm_La_readLevel_k : Cond.instanceMethod mi_La_readLevel.1 ∈ bt_gw := bt_gin (bt_tin2 (List.mem_of_getElem? (i := 171) (by decide +kernel))) rfl
theorem vm_La_readLevel_s : Cond.selects mi_La_readLevel.1.cls mi_La_readLevel.1 mi_La_readLevel.1 ∈ bt_gw := bt_gin (List.mem_of_getElem? (i := 6) (by decide +kernel)) rfl
theorem bv_La_58 : bt_lkV "BellTrees$Law" 58 mi_La_readLevel 3 2 := ⟨⟨2, bt_T2, 15, rfl, rfl, vm_La_readLevel⟩, bt_gin (bt_tin2 (List.mem_of_getElem? (i := 169) (by decide +kernel))) rfl, vm_La_readLevel_k, vm_La_readLevel_s⟩
theorem vm_La_readOperand : bt_lkM mi_La_readOperand 1 := ⟨bt_gin (bt_tin2 (List.mem_of_getElem? (i := 176) (by decide +kernel))) rfl, bt_gin (bt_tin1 (List.mem_of_getElem? (i := 4) (by decide +kernel))) rfl, ⟨by decide +kernel, by decide +kernel, by decide +kernel⟩, by decide +kernel⟩
theorem vm_La_readOperand_k : Cond.instanceMethod mi_La_readOperand.1 ∈ bt_gw := bt_gin (bt_tin2 (List.mem_of_getElem? (i := 175) (by decide +kernel))) rfl
theorem vm_La_readOperand_s : Cond.selects mi_La_readOperand.1.cls mi_La_readOperand.1 mi_La_readOperand.1 ∈ bt_gw := bt_gin (List.mem_of_getElem? (i := 7) (by decide +kernel)) rfl
theorem bv_La_62 : bt_lkV "BellTrees$Law" 62 mi_La_readOperand 2 2 := ⟨⟨1, bt_T2, 15, rfl, rfl, vm_La_readOperand⟩, bt_gin (bt_tin2 (List.mem_of_getElem? (i := 173) (by decide +kernel))) rfl, vm_La_readOperand_k, vm_La_readOperand_s⟩
theorem vm_La_levelOf : bt_lkM mi_La_levelOf 1 := ⟨bt_gin (bt_tin2 (List.mem_of_getElem? (i := 198) (by decide +kernel))) rfl, bt_gin (bt_tin1 (List.mem_of_getElem? (i := 4) (by decide +kernel))) rfl, ⟨by decide +kernel, by decide +kernel, by decide +kernel⟩, by decide +kernel⟩
theorem vm_La_levelOf_k : Cond.static mi_La_levelOf.1 ∈ bt_gw := bt_gin (bt_tin2 (List.mem_of_getElem? (i := 197) (by decide +kernel))) rfl
theorem bs_La_66 : bt_lkS "BellTrees$Law" 66 mi_La_levelOf 1 := ⟨vm_La_levelOf, Or.inl (bt_gin (bt_tin2 (List.mem_of_getElem? (i := 196) (by decide +kernel))) rfl), vm_La_levelOf_k⟩
theorem vm_La_readNumber : bt_lkM mi_La_readNumber 0 := ⟨bt_gin (bt_tin2 (List.mem_of_getElem? (i := 184) (by decide +kernel))) rfl, bt_gin (bt_tin1 (List.mem_of_getElem? (i := 4) (by decide +kernel))) rfl, ⟨by decide +kernel, by decide +kernel, by decide +kernel⟩, by decide +kernel⟩
theorem vm_La_readNumber_k : Cond.instanceMethod mi_La_readNumber.1 ∈ bt_gw := bt_gin (bt_tin2 (List.mem_of_getElem? (i := 183) (by decide +kernel))) rfl
theorem vm_La_readNumber_s : Cond.selects mi_La_readNumber.1.cls mi_La_readNumber.1 mi_La_readNumber.1 ∈ bt_gw := bt_gin (List.mem_of_getElem? (i := 9) (by decide +kernel)) rfl
theorem bv_La_70 : bt_lkV "BellTrees$Law" 70 mi_La_readNumber 1 2 := ⟨⟨0, bt_T2, 15, rfl, rfl, vm_La_readNumber⟩, bt_gin (bt_tin2 (List.mem_of_getElem? (i := 181) (by decide +kernel))) rfl, vm_La_readNumber_k, vm_La_readNumber_s⟩
theorem vm_La_isName : bt_lkM mi_La_isName 1 := ⟨bt_gin (bt_tin2 (List.mem_of_getElem? (i := 191) (by decide +kernel))) rfl, bt_gin (bt_tin1 (List.mem_of_getElem? (i := 4) (by decide +kernel))) rfl, ⟨by decide +kernel, by decide +kernel, by decide +kernel⟩, by decide +kernel⟩
theorem vm_La_isName_k : Cond.static mi_La_isName.1 ∈ bt_gw := bt_gin (bt_tin2 (List.mem_of_getElem? (i := 190) (by decide +kernel))) rfl
theorem bs_La_73 : bt_lkS "BellTrees$Law" 73 mi_La_isName 1 := ⟨vm_La_isName, Or.inl (bt_gin (bt_tin2 (List.mem_of_getElem? (i := 189) (by decide +kernel))) rfl), vm_La_isName_k⟩
theorem vm_La_readClosing : bt_lkM mi_La_readClosing 0 := ⟨bt_gin (bt_tin2 (List.mem_of_getElem? (i := 195) (by decide +kernel))) rfl, bt_gin (bt_tin1 (List.mem_of_getElem? (i := 4) (by decide +kernel))) rfl, ⟨by decide +kernel, by decide +kernel, by decide +kernel⟩, by decide +kernel⟩
theorem vm_La_readClosing_k : Cond.instanceMethod mi_La_readClosing.1 ∈ bt_gw := bt_gin (bt_tin2 (List.mem_of_getElem? (i := 194) (by decide +kernel))) rfl
theorem vm_La_readClosing_s : Cond.selects mi_La_readClosing.1.cls mi_La_readClosing.1 mi_La_readClosing.1 ∈ bt_gw := bt_gin (List.mem_of_getElem? (i := 11) (by decide +kernel)) rfl
theorem bv_La_76 : bt_lkV "BellTrees$Law" 76 mi_La_readClosing 1 2 := ⟨⟨0, bt_T2, 15, rfl, rfl, vm_La_readClosing⟩, bt_gin (bt_tin2 (List.mem_of_getElem? (i := 192) (by decide +kernel))) rfl, vm_La_readClosing_k, vm_La_readClosing_s⟩
theorem lp_La_79 : bt_lkF "BellTrees$Law" 79 2 9 true := ⟨bt_R2, bt_T2, 15, bt_ty2, rfl, rfl, bt_inG2, bt_tyok2, bt_nm2, rfl, bt_gin (bt_tin1 (List.mem_of_getElem? (i := 74) (by decide +kernel))) rfl, fun _ => ⟨rfl, Or.inl ⟨rfl, rfl⟩⟩⟩
theorem lp_La_82 : bt_lkF "BellTrees$Law" 82 2 10 true := ⟨bt_R2, bt_T2, 15, bt_ty2, rfl, rfl, bt_inG2, bt_tyok2, bt_nm2, rfl, bt_gin (bt_tin1 (List.mem_of_getElem? (i := 75) (by decide +kernel))) rfl, fun _ => ⟨rfl, Or.inl ⟨rfl, rfl⟩⟩⟩
theorem lp_La_85 : bt_lkF "BellTrees$Law" 85 2 12 true := ⟨bt_R2, bt_T2, 15, bt_ty2, rfl, rfl, bt_inG2, bt_tyok2, bt_nm2, rfl, bt_gin (bt_tin1 (List.mem_of_getElem? (i := 77) (by decide +kernel))) rfl, fun _ => ⟨rfl, Or.inl ⟨rfl, rfl⟩⟩⟩
theorem lp_La_88 : bt_lkF "BellTrees$Law" 88 2 13 true := ⟨bt_R2, bt_T2, 15, bt_ty2, rfl, rfl, bt_inG2, bt_tyok2, bt_nm2, rfl, bt_gin (bt_tin1 (List.mem_of_getElem? (i := 78) (by decide +kernel))) rfl, fun _ => ⟨rfl, Or.inl ⟨rfl, rfl⟩⟩⟩
theorem lp_La_91 : bt_lkF "BellTrees$Law" 91 2 14 true := ⟨bt_R2, bt_T2, 15, bt_ty2, rfl, rfl, bt_inG2, bt_tyok2, bt_nm2, rfl, bt_gin (bt_tin1 (List.mem_of_getElem? (i := 79) (by decide +kernel))) rfl, fun _ => ⟨rfl, Or.inl ⟨rfl, rfl⟩⟩⟩
theorem lp_La_94 : bt_lkF "BellTrees$Law" 94 2 11 true := ⟨bt_R2, bt_T2, 15, bt_ty2, rfl, rfl, bt_inG2, bt_tyok2, bt_nm2, rfl, bt_gin (bt_tin1 (List.mem_of_getElem? (i := 76) (by decide +kernel))) rfl, fun _ => ⟨rfl, Or.inl ⟨rfl, rfl⟩⟩⟩
theorem lg_La_44 : bt_lkF "BellTrees$Law" 44 2 7 false := ⟨bt_R2, bt_T2, 15, bt_ty2, rfl, rfl, bt_inG2, bt_tyok2, bt_nm2, rfl, bt_gin (bt_tin1 (List.mem_of_getElem? (i := 72) (by decide +kernel))) rfl, fun h => by cases h⟩
theorem lg_La_79 : bt_lkF "BellTrees$Law" 79 2 9 false := ⟨bt_R2, bt_T2, 15, bt_ty2, rfl, rfl, bt_inG2, bt_tyok2, bt_nm2, rfl, bt_gin (bt_tin1 (List.mem_of_getElem? (i := 74) (by decide +kernel))) rfl, fun h => by cases h⟩
theorem lg_La_82 : bt_lkF "BellTrees$Law" 82 2 10 false := ⟨bt_R2, bt_T2, 15, bt_ty2, rfl, rfl, bt_inG2, bt_tyok2, bt_nm2, rfl, bt_gin (bt_tin1 (List.mem_of_getElem? (i := 75) (by decide +kernel))) rfl, fun h => by cases h⟩
theorem lg_La_94 : bt_lkF "BellTrees$Law" 94 2 11 false := ⟨bt_R2, bt_T2, 15, bt_ty2, rfl, rfl, bt_inG2, bt_tyok2, bt_nm2, rfl, bt_gin (bt_tin1 (List.mem_of_getElem? (i := 76) (by decide +kernel))) rfl, fun h => by cases h⟩
theorem lg_La_88 : bt_lkF "BellTrees$Law" 88 2 13 false := ⟨bt_R2, bt_T2, 15, bt_ty2, rfl, rfl, bt_inG2, bt_tyok2, bt_nm2, rfl, bt_gin (bt_tin1 (List.mem_of_getElem? (i := 78) (by decide +kernel))) rfl, fun h => by cases h⟩
theorem vm_La_workOut : bt_lkM mi_La_workOut 0 := ⟨bt_gin (bt_tin2 (List.mem_of_getElem? (i := 239) (by decide +kernel))) rfl, bt_gin (bt_tin1 (List.mem_of_getElem? (i := 4) (by decide +kernel))) rfl, ⟨by decide +kernel, by decide +kernel, by decide +kernel⟩, by decide +kernel⟩
theorem vm_La_workOut_k : Cond.instanceMethod mi_La_workOut.1 ∈ bt_gw := bt_gin (bt_tin2 (List.mem_of_getElem? (i := 238) (by decide +kernel))) rfl
theorem vm_La_workOut_s : Cond.selects mi_La_workOut.1.cls mi_La_workOut.1 mi_La_workOut.1 ∈ bt_gw := bt_gin (List.mem_of_getElem? (i := 13) (by decide +kernel)) rfl
theorem bv_La_97 : bt_lkV "BellTrees$Law" 97 mi_La_workOut 1 2 := ⟨⟨0, bt_T2, 15, rfl, rfl, vm_La_workOut⟩, bt_gin (bt_tin2 (List.mem_of_getElem? (i := 236) (by decide +kernel))) rfl, vm_La_workOut_k, vm_La_workOut_s⟩
theorem lp_La_100 : bt_lkF "BellTrees$Law" 100 2 8 true := ⟨bt_R2, bt_T2, 15, bt_ty2, rfl, rfl, bt_inG2, bt_tyok2, bt_nm2, rfl, bt_gin (bt_tin1 (List.mem_of_getElem? (i := 73) (by decide +kernel))) rfl, fun _ => ⟨rfl, Or.inl ⟨rfl, rfl⟩⟩⟩
theorem vm_La_pop : bt_lkM mi_La_pop 0 := ⟨bt_gin (bt_tin3 (List.mem_of_getElem? (i := 3) (by decide +kernel))) rfl, bt_gin (bt_tin1 (List.mem_of_getElem? (i := 4) (by decide +kernel))) rfl, ⟨by decide +kernel, by decide +kernel, by decide +kernel⟩, by decide +kernel⟩
theorem vm_La_pop_k : Cond.instanceMethod mi_La_pop.1 ∈ bt_gw := bt_gin (bt_tin3 (List.mem_of_getElem? (i := 2) (by decide +kernel))) rfl
theorem vm_La_pop_s : Cond.selects mi_La_pop.1.cls mi_La_pop.1 mi_La_pop.1 ∈ bt_gw := bt_gin (List.mem_of_getElem? (i := 14) (by decide +kernel)) rfl
theorem bv_La_103 : bt_lkV "BellTrees$Law" 103 mi_La_pop 1 2 := ⟨⟨0, bt_T2, 15, rfl, rfl, vm_La_pop⟩, bt_gin (bt_tin3 (List.mem_of_getElem? (i := 0) (by decide +kernel))) rfl, vm_La_pop_k, vm_La_pop_s⟩
theorem vm_La_valueBy : bt_lkM mi_La_valueBy 1 := ⟨bt_gin (bt_tin3 (List.mem_of_getElem? (i := 7) (by decide +kernel))) rfl, bt_gin (bt_tin1 (List.mem_of_getElem? (i := 4) (by decide +kernel))) rfl, ⟨by decide +kernel, by decide +kernel, by decide +kernel⟩, by decide +kernel⟩
theorem vm_La_valueBy_k : Cond.instanceMethod mi_La_valueBy.1 ∈ bt_gw := bt_gin (bt_tin3 (List.mem_of_getElem? (i := 6) (by decide +kernel))) rfl
theorem vm_La_valueBy_s : Cond.selects mi_La_valueBy.1.cls mi_La_valueBy.1 mi_La_valueBy.1 ∈ bt_gw := bt_gin (List.mem_of_getElem? (i := 15) (by decide +kernel)) rfl
theorem bv_La_106 : bt_lkV "BellTrees$Law" 106 mi_La_valueBy 2 2 := ⟨⟨1, bt_T2, 15, rfl, rfl, vm_La_valueBy⟩, bt_gin (bt_tin3 (List.mem_of_getElem? (i := 4) (by decide +kernel))) rfl, vm_La_valueBy_k, vm_La_valueBy_s⟩
theorem vm_La_push : bt_lkM mi_La_push 1 := ⟨bt_gin (bt_tin3 (List.mem_of_getElem? (i := 18) (by decide +kernel))) rfl, bt_gin (bt_tin1 (List.mem_of_getElem? (i := 4) (by decide +kernel))) rfl, ⟨by decide +kernel, by decide +kernel, by decide +kernel⟩, by decide +kernel⟩
theorem vm_La_push_k : Cond.instanceMethod mi_La_push.1 ∈ bt_gw := bt_gin (bt_tin3 (List.mem_of_getElem? (i := 17) (by decide +kernel))) rfl
theorem vm_La_push_s : Cond.selects mi_La_push.1.cls mi_La_push.1 mi_La_push.1 ∈ bt_gw := bt_gin (List.mem_of_getElem? (i := 17) (by decide +kernel)) rfl
theorem bv_La_109 : bt_lkV "BellTrees$Law" 109 mi_La_push 2 2 := ⟨⟨1, bt_T2, 15, rfl, rfl, vm_La_push⟩, bt_gin (bt_tin3 (List.mem_of_getElem? (i := 15) (by decide +kernel))) rfl, vm_La_push_k, vm_La_push_s⟩
theorem vm_La_named : bt_lkM mi_La_named 1 := ⟨bt_gin (bt_tin3 (List.mem_of_getElem? (i := 11) (by decide +kernel))) rfl, bt_gin (bt_tin1 (List.mem_of_getElem? (i := 4) (by decide +kernel))) rfl, ⟨by decide +kernel, by decide +kernel, by decide +kernel⟩, by decide +kernel⟩
theorem vm_La_named_k : Cond.instanceMethod mi_La_named.1 ∈ bt_gw := bt_gin (bt_tin3 (List.mem_of_getElem? (i := 10) (by decide +kernel))) rfl
theorem vm_La_named_s : Cond.selects mi_La_named.1.cls mi_La_named.1 mi_La_named.1 ∈ bt_gw := bt_gin (List.mem_of_getElem? (i := 16) (by decide +kernel)) rfl
theorem bv_La_112 : bt_lkV "BellTrees$Law" 112 mi_La_named 2 2 := ⟨⟨1, bt_T2, 15, rfl, rfl, vm_La_named⟩, bt_gin (bt_tin3 (List.mem_of_getElem? (i := 8) (by decide +kernel))) rfl, vm_La_named_k, vm_La_named_s⟩
theorem vm_La_joined : bt_lkM mi_La_joined 3 := ⟨bt_gin (bt_tin3 (List.mem_of_getElem? (i := 14) (by decide +kernel))) rfl, bt_gin (bt_tin1 (List.mem_of_getElem? (i := 4) (by decide +kernel))) rfl, ⟨by decide +kernel, by decide +kernel, by decide +kernel⟩, by decide +kernel⟩
theorem vm_La_joined_k : Cond.static mi_La_joined.1 ∈ bt_gw := bt_gin (bt_tin3 (List.mem_of_getElem? (i := 13) (by decide +kernel))) rfl
theorem bs_La_115 : bt_lkS "BellTrees$Law" 115 mi_La_joined 3 := ⟨vm_La_joined, Or.inl (bt_gin (bt_tin3 (List.mem_of_getElem? (i := 12) (by decide +kernel))) rfl), vm_La_joined_k⟩
theorem lg_La_85 : bt_lkF "BellTrees$Law" 85 2 12 false := ⟨bt_R2, bt_T2, 15, bt_ty2, rfl, rfl, bt_inG2, bt_tyok2, bt_nm2, rfl, bt_gin (bt_tin1 (List.mem_of_getElem? (i := 77) (by decide +kernel))) rfl, fun h => by cases h⟩
theorem lg_La_91 : bt_lkF "BellTrees$Law" 91 2 14 false := ⟨bt_R2, bt_T2, 15, bt_ty2, rfl, rfl, bt_inG2, bt_tyok2, bt_nm2, rfl, bt_gin (bt_tin1 (List.mem_of_getElem? (i := 79) (by decide +kernel))) rfl, fun h => by cases h⟩
theorem lg_La_100 : bt_lkF "BellTrees$Law" 100 2 8 false := ⟨bt_R2, bt_T2, 15, bt_ty2, rfl, rfl, bt_inG2, bt_tyok2, bt_nm2, rfl, bt_gin (bt_tin1 (List.mem_of_getElem? (i := 73) (by decide +kernel))) rfl, fun h => by cases h⟩
theorem lg_La_21 : bt_lkF "BellTrees$Law" 21 2 3 false := ⟨bt_R2, bt_T2, 15, bt_ty2, rfl, rfl, bt_inG2, bt_tyok2, bt_nm2, rfl, bt_gin (bt_tin1 (List.mem_of_getElem? (i := 68) (by decide +kernel))) rfl, fun h => by cases h⟩
theorem lg_So_20 : bt_lkF "BellTrees$Sounds" 20 3 0 false := ⟨bt_R3, bt_T3, 4, bt_ty3, rfl, rfl, bt_inG3, bt_tyok3, bt_nm3, rfl, bt_gin (bt_tin1 (List.mem_of_getElem? (i := 118) (by decide +kernel))) rfl, fun h => by cases h⟩
theorem bv_So_28 : bt_lkV "BellTrees$Sounds" 28 mi_Fo_get 3 1 := ⟨⟨2, bt_T1, 7, rfl, rfl, vm_Fo_get⟩, bt_gin (bt_tin2 (List.mem_of_getElem? (i := 215) (by decide +kernel))) rfl, vm_Fo_get_k, vm_Fo_get_s⟩
theorem bv_So_34 : bt_lkV "BellTrees$Sounds" 34 mi_Fo_measureFar 1 1 := ⟨⟨0, bt_T1, 7, rfl, rfl, vm_Fo_measureFar⟩, bt_gin (bt_tin2 (List.mem_of_getElem? (i := 216) (by decide +kernel))) rfl, vm_Fo_measureFar_k, vm_Fo_measureFar_s⟩
theorem bv_So_37 : bt_lkV "BellTrees$Sounds" 37 mi_Fo_has 2 1 := ⟨⟨1, bt_T1, 7, rfl, rfl, vm_Fo_has⟩, bt_gin (bt_tin2 (List.mem_of_getElem? (i := 217) (by decide +kernel))) rfl, vm_Fo_has_k, vm_Fo_has_s⟩
theorem vm_Fo_rings : bt_lkM mi_Fo_rings 2 := ⟨bt_gin (bt_tin2 (List.mem_of_getElem? (i := 221) (by decide +kernel))) rfl, bt_gin (bt_tin1 (List.mem_of_getElem? (i := 2) (by decide +kernel))) rfl, ⟨by decide +kernel, by decide +kernel, by decide +kernel⟩, by decide +kernel⟩
theorem vm_Fo_rings_k : Cond.instanceMethod mi_Fo_rings.1 ∈ bt_gw := bt_gin (bt_tin2 (List.mem_of_getElem? (i := 219) (by decide +kernel))) rfl
theorem vm_Fo_rings_s : Cond.selects mi_Fo_rings.1.cls mi_Fo_rings.1 mi_Fo_rings.1 ∈ bt_gw := bt_gin (bt_tin2 (List.mem_of_getElem? (i := 220) (by decide +kernel))) rfl
theorem bv_So_41 : bt_lkV "BellTrees$Sounds" 41 mi_Fo_rings 3 1 := ⟨⟨2, bt_T1, 7, rfl, rfl, vm_Fo_rings⟩, bt_gin (bt_tin2 (List.mem_of_getElem? (i := 218) (by decide +kernel))) rfl, vm_Fo_rings_k, vm_Fo_rings_s⟩
theorem lg_So_24 : bt_lkF "BellTrees$Sounds" 24 3 1 false := ⟨bt_R3, bt_T3, 4, bt_ty3, rfl, rfl, bt_inG3, bt_tyok3, bt_nm3, rfl, bt_gin (bt_tin1 (List.mem_of_getElem? (i := 119) (by decide +kernel))) rfl, fun h => by cases h⟩
theorem bv_So_45 : bt_lkV "BellTrees$Sounds" 45 mi_Fo_farMeasured 2 1 := ⟨⟨1, bt_T1, 7, rfl, rfl, vm_Fo_farMeasured⟩, bt_gin (bt_tin2 (List.mem_of_getElem? (i := 222) (by decide +kernel))) rfl, vm_Fo_farMeasured_k, vm_Fo_farMeasured_s⟩
theorem vm_La_ask : bt_lkM mi_La_ask 5 := ⟨bt_gin (bt_tin2 (List.mem_of_getElem? (i := 226) (by decide +kernel))) rfl, bt_gin (bt_tin1 (List.mem_of_getElem? (i := 4) (by decide +kernel))) rfl, ⟨by decide +kernel, by decide +kernel, by decide +kernel⟩, by decide +kernel⟩
theorem vm_La_ask_k : Cond.instanceMethod mi_La_ask.1 ∈ bt_gw := bt_gin (bt_tin2 (List.mem_of_getElem? (i := 224) (by decide +kernel))) rfl
theorem vm_La_ask_s : Cond.selects mi_La_ask.1.cls mi_La_ask.1 mi_La_ask.1 ∈ bt_gw := bt_gin (bt_tin2 (List.mem_of_getElem? (i := 225) (by decide +kernel))) rfl
theorem bv_So_49 : bt_lkV "BellTrees$Sounds" 49 mi_La_ask 6 2 := ⟨⟨5, bt_T2, 15, rfl, rfl, vm_La_ask⟩, bt_gin (bt_tin2 (List.mem_of_getElem? (i := 223) (by decide +kernel))) rfl, vm_La_ask_k, vm_La_ask_s⟩
theorem lg_So_16 : bt_lkF "BellTrees$Sounds" 16 3 3 false := ⟨bt_R3, bt_T3, 4, bt_ty3, rfl, rfl, bt_inG3, bt_tyok3, bt_nm3, rfl, bt_gin (bt_tin1 (List.mem_of_getElem? (i := 121) (by decide +kernel))) rfl, fun h => by cases h⟩
theorem bs_So_55 : bt_lkS "BellTrees$Sounds" 55 mi_JA_fillI 2 := ⟨vm_JA_fillI, Or.inl (bt_gin (bt_tin2 (List.mem_of_getElem? (i := 227) (by decide +kernel))) rfl), vm_JA_fillI_k⟩
theorem lg_So_11 : bt_lkF "BellTrees$Sounds" 11 3 2 false := ⟨bt_R3, bt_T3, 4, bt_ty3, rfl, rfl, bt_inG3, bt_tyok3, bt_nm3, rfl, bt_gin (bt_tin1 (List.mem_of_getElem? (i := 120) (by decide +kernel))) rfl, fun h => by cases h⟩
theorem vm_So_isHeard : bt_lkM mi_So_isHeard 1 := ⟨bt_gin (bt_tin2 (List.mem_of_getElem? (i := 231) (by decide +kernel))) rfl, bt_gin (bt_tin1 (List.mem_of_getElem? (i := 5) (by decide +kernel))) rfl, ⟨by decide +kernel, by decide +kernel, by decide +kernel⟩, by decide +kernel⟩
theorem vm_So_isHeard_k : Cond.instanceMethod mi_So_isHeard.1 ∈ bt_gw := bt_gin (bt_tin2 (List.mem_of_getElem? (i := 230) (by decide +kernel))) rfl
theorem vm_So_isHeard_s : Cond.selects mi_So_isHeard.1.cls mi_So_isHeard.1 mi_So_isHeard.1 ∈ bt_gw := bt_gin (List.mem_of_getElem? (i := 12) (by decide +kernel)) rfl
theorem bv_So_61 : bt_lkV "BellTrees$Sounds" 61 mi_So_isHeard 2 3 := ⟨⟨1, bt_T3, 4, rfl, rfl, vm_So_isHeard⟩, bt_gin (bt_tin2 (List.mem_of_getElem? (i := 228) (by decide +kernel))) rfl, vm_So_isHeard_k, vm_So_isHeard_s⟩
theorem vm_La_hears : bt_lkM mi_La_hears 1 := ⟨bt_gin (bt_tin2 (List.mem_of_getElem? (i := 235) (by decide +kernel))) rfl, bt_gin (bt_tin1 (List.mem_of_getElem? (i := 4) (by decide +kernel))) rfl, ⟨by decide +kernel, by decide +kernel, by decide +kernel⟩, by decide +kernel⟩
theorem vm_La_hears_k : Cond.instanceMethod mi_La_hears.1 ∈ bt_gw := bt_gin (bt_tin2 (List.mem_of_getElem? (i := 233) (by decide +kernel))) rfl
theorem vm_La_hears_s : Cond.selects mi_La_hears.1.cls mi_La_hears.1 mi_La_hears.1 ∈ bt_gw := bt_gin (bt_tin2 (List.mem_of_getElem? (i := 234) (by decide +kernel))) rfl
theorem bv_So_64 : bt_lkV "BellTrees$Sounds" 64 mi_La_hears 2 2 := ⟨⟨1, bt_T2, 15, rfl, rfl, vm_La_hears⟩, bt_gin (bt_tin2 (List.mem_of_getElem? (i := 232) (by decide +kernel))) rfl, vm_La_hears_k, vm_La_hears_s⟩
theorem bs_So_67 : bt_lkS "BellTrees$Sounds" 67 mi_B_isMinute 1 := ⟨vm_B_isMinute, Or.inr ⟨"BellTrees", by decide +kernel⟩, vm_B_isMinute_k⟩
theorem bv_So_70 : bt_lkV "BellTrees$Sounds" 70 mi_So_at 3 3 := ⟨⟨2, bt_T3, 4, rfl, rfl, vm_So_at⟩, bt_gin (bt_tin3 (List.mem_of_getElem? (i := 105) (by decide +kernel))) rfl, vm_So_at_k, vm_So_at_s⟩
theorem bv_So_73 : bt_lkV "BellTrees$Sounds" 73 mi_Fo_size 1 1 := ⟨⟨0, bt_T1, 7, rfl, rfl, vm_Fo_size⟩, bt_gin (bt_tin3 (List.mem_of_getElem? (i := 104) (by decide +kernel))) rfl, vm_Fo_size_k, vm_Fo_size_s⟩
theorem bv_Wa_20 : bt_lkV "BellTrees$Walks" 20 mi_Sh_minutes 1 8 := ⟨⟨0, bt_T8, 4, rfl, rfl, vm_Sh_minutes⟩, bt_gin (bt_tin3 (List.mem_of_getElem? (i := 43) (by decide +kernel))) rfl, vm_Sh_minutes_k, vm_Sh_minutes_s⟩
theorem lg_Wa_16 : bt_lkF "BellTrees$Walks" 16 4 0 false := ⟨bt_R4, bt_T4, 2, bt_ty4, rfl, rfl, bt_inG4, bt_tyok4, bt_nm4, rfl, bt_gin (bt_tin1 (List.mem_of_getElem? (i := 138) (by decide +kernel))) rfl, fun h => by cases h⟩
theorem bv_Wa_26 : bt_lkV "BellTrees$Walks" 26 mi_Fo_size 1 1 := ⟨⟨0, bt_T1, 7, rfl, rfl, vm_Fo_size⟩, bt_gin (bt_tin3 (List.mem_of_getElem? (i := 44) (by decide +kernel))) rfl, vm_Fo_size_k, vm_Fo_size_s⟩
theorem bv_Wa_31 : bt_lkV "BellTrees$Walks" 31 mi_So_at 3 3 := ⟨⟨2, bt_T3, 4, rfl, rfl, vm_So_at⟩, bt_gin (bt_tin3 (List.mem_of_getElem? (i := 48) (by decide +kernel))) rfl, vm_So_at_k, vm_So_at_s⟩
theorem bv_Wa_37 : bt_lkV "BellTrees$Walks" 37 mi_Sh_at 2 8 := ⟨⟨1, bt_T8, 4, rfl, rfl, vm_Sh_at⟩, bt_gin (bt_tin3 (List.mem_of_getElem? (i := 49) (by decide +kernel))) rfl, vm_Sh_at_k, vm_Sh_at_s⟩
theorem bv_Wa_40 : bt_lkV "BellTrees$Walks" 40 mi_Fo_around 2 1 := ⟨⟨1, bt_T1, 7, rfl, rfl, vm_Fo_around⟩, bt_gin (bt_tin3 (List.mem_of_getElem? (i := 50) (by decide +kernel))) rfl, vm_Fo_around_k, vm_Fo_around_s⟩
theorem vm_Wa_ways : bt_lkM mi_Wa_ways 2 := ⟨bt_gin (bt_tin3 (List.mem_of_getElem? (i := 57) (by decide +kernel))) rfl, bt_gin (bt_tin1 (List.mem_of_getElem? (i := 6) (by decide +kernel))) rfl, ⟨by decide +kernel, by decide +kernel, by decide +kernel⟩, by decide +kernel⟩
theorem vm_Wa_ways_k : Cond.instanceMethod mi_Wa_ways.1 ∈ bt_gw := bt_gin (bt_tin3 (List.mem_of_getElem? (i := 56) (by decide +kernel))) rfl
theorem vm_Wa_ways_s : Cond.selects mi_Wa_ways.1.cls mi_Wa_ways.1 mi_Wa_ways.1 ∈ bt_gw := bt_gin (List.mem_of_getElem? (i := 19) (by decide +kernel)) rfl
theorem bv_Wa_43 : bt_lkV "BellTrees$Walks" 43 mi_Wa_ways 3 4 := ⟨⟨2, bt_T4, 2, rfl, rfl, vm_Wa_ways⟩, bt_gin (bt_tin3 (List.mem_of_getElem? (i := 54) (by decide +kernel))) rfl, vm_Wa_ways_k, vm_Wa_ways_s⟩
theorem lg_Wa_11 : bt_lkF "BellTrees$Walks" 11 4 1 false := ⟨bt_R4, bt_T4, 2, bt_ty4, rfl, rfl, bt_inG4, bt_tyok4, bt_nm4, rfl, bt_gin (bt_tin1 (List.mem_of_getElem? (i := 139) (by decide +kernel))) rfl, fun h => by cases h⟩
theorem bv_Wa_46 : bt_lkV "BellTrees$Walks" 46 mi_Fo_all 1 1 := ⟨⟨0, bt_T1, 7, rfl, rfl, vm_Fo_all⟩, bt_gin (bt_tin3 (List.mem_of_getElem? (i := 66) (by decide +kernel))) rfl, vm_Fo_all_k, vm_Fo_all_s⟩
theorem lk_Wa_49 : Cond.constant "BellTrees$Walks" 49 999999999 ∈ bt_gw := bt_gin (bt_tin3 (List.mem_of_getElem? (i := 58) (by decide +kernel))) rfl
theorem vm_Wa_onwardAt : bt_lkM mi_Wa_onwardAt 2 := ⟨bt_gin (bt_tin3 (List.mem_of_getElem? (i := 62) (by decide +kernel))) rfl, bt_gin (bt_tin1 (List.mem_of_getElem? (i := 6) (by decide +kernel))) rfl, ⟨by decide +kernel, by decide +kernel, by decide +kernel⟩, by decide +kernel⟩
theorem vm_Wa_onwardAt_k : Cond.instanceMethod mi_Wa_onwardAt.1 ∈ bt_gw := bt_gin (bt_tin3 (List.mem_of_getElem? (i := 61) (by decide +kernel))) rfl
theorem vm_Wa_onwardAt_s : Cond.selects mi_Wa_onwardAt.1.cls mi_Wa_onwardAt.1 mi_Wa_onwardAt.1 ∈ bt_gw := bt_gin (List.mem_of_getElem? (i := 20) (by decide +kernel)) rfl
theorem bv_Wa_50 : bt_lkV "BellTrees$Walks" 50 mi_Wa_onwardAt 3 4 := ⟨⟨2, bt_T4, 2, rfl, rfl, vm_Wa_onwardAt⟩, bt_gin (bt_tin3 (List.mem_of_getElem? (i := 59) (by decide +kernel))) rfl, vm_Wa_onwardAt_k, vm_Wa_onwardAt_s⟩
theorem bs_Wa_53 : bt_lkS "BellTrees$Walks" 53 mi_JM_min 2 := ⟨vm_JM_min, Or.inl (bt_gin (bt_tin3 (List.mem_of_getElem? (i := 65) (by decide +kernel))) rfl), vm_JM_min_k⟩
theorem bs_Wa_58 : bt_lkS "BellTrees$Walks" 58 mi_B_isMinute 1 := ⟨vm_B_isMinute, Or.inr ⟨"BellTrees", by decide +kernel⟩, vm_B_isMinute_k⟩
theorem bv_Wa_62 : bt_lkV "BellTrees$Walks" 62 mi_Fo_has 2 1 := ⟨⟨1, bt_T1, 7, rfl, rfl, vm_Fo_has⟩, bt_gin (bt_tin3 (List.mem_of_getElem? (i := 64) (by decide +kernel))) rfl, vm_Fo_has_k, vm_Fo_has_s⟩
theorem vm_Wa_fittingOf : bt_lkM mi_Wa_fittingOf 2 := ⟨bt_gin (bt_tin3 (List.mem_of_getElem? (i := 77) (by decide +kernel))) rfl, bt_gin (bt_tin1 (List.mem_of_getElem? (i := 6) (by decide +kernel))) rfl, ⟨by decide +kernel, by decide +kernel, by decide +kernel⟩, by decide +kernel⟩
theorem vm_Wa_fittingOf_k : Cond.instanceMethod mi_Wa_fittingOf.1 ∈ bt_gw := bt_gin (bt_tin3 (List.mem_of_getElem? (i := 76) (by decide +kernel))) rfl
theorem vm_Wa_fittingOf_s : Cond.selects mi_Wa_fittingOf.1.cls mi_Wa_fittingOf.1 mi_Wa_fittingOf.1 ∈ bt_gw := bt_gin (List.mem_of_getElem? (i := 21) (by decide +kernel)) rfl
theorem bv_Wa_65 : bt_lkV "BellTrees$Walks" 65 mi_Wa_fittingOf 3 4 := ⟨⟨2, bt_T4, 2, rfl, rfl, vm_Wa_fittingOf⟩, bt_gin (bt_tin3 (List.mem_of_getElem? (i := 74) (by decide +kernel))) rfl, vm_Wa_fittingOf_k, vm_Wa_fittingOf_s⟩
theorem vm_Wa_lowestOf : bt_lkM mi_Wa_lowestOf 1 := ⟨bt_gin (bt_tin3 (List.mem_of_getElem? (i := 80) (by decide +kernel))) rfl, bt_gin (bt_tin1 (List.mem_of_getElem? (i := 6) (by decide +kernel))) rfl, ⟨by decide +kernel, by decide +kernel, by decide +kernel⟩, by decide +kernel⟩
theorem vm_Wa_lowestOf_k : Cond.static mi_Wa_lowestOf.1 ∈ bt_gw := bt_gin (bt_tin3 (List.mem_of_getElem? (i := 79) (by decide +kernel))) rfl
theorem bs_Wa_68 : bt_lkS "BellTrees$Walks" 68 mi_Wa_lowestOf 1 := ⟨vm_Wa_lowestOf, Or.inl (bt_gin (bt_tin3 (List.mem_of_getElem? (i := 78) (by decide +kernel))) rfl), vm_Wa_lowestOf_k⟩
theorem vm_Wa_quietest : bt_lkM mi_Wa_quietest 2 := ⟨bt_gin (bt_tin3 (List.mem_of_getElem? (i := 117) (by decide +kernel))) rfl, bt_gin (bt_tin1 (List.mem_of_getElem? (i := 6) (by decide +kernel))) rfl, ⟨by decide +kernel, by decide +kernel, by decide +kernel⟩, by decide +kernel⟩
theorem vm_Wa_quietest_k : Cond.instanceMethod mi_Wa_quietest.1 ∈ bt_gw := bt_gin (bt_tin3 (List.mem_of_getElem? (i := 116) (by decide +kernel))) rfl
theorem vm_Wa_quietest_s : Cond.selects mi_Wa_quietest.1.cls mi_Wa_quietest.1 mi_Wa_quietest.1 ∈ bt_gw := bt_gin (List.mem_of_getElem? (i := 23) (by decide +kernel)) rfl
theorem bv_Wa_71 : bt_lkV "BellTrees$Walks" 71 mi_Wa_quietest 3 4 := ⟨⟨2, bt_T4, 2, rfl, rfl, vm_Wa_quietest⟩, bt_gin (bt_tin3 (List.mem_of_getElem? (i := 114) (by decide +kernel))) rfl, vm_Wa_quietest_k, vm_Wa_quietest_s⟩
theorem lg_Ch_24 : bt_lkF "BellTrees$Changes" 24 5 4 false := ⟨bt_R5, bt_T5, 6, bt_ty5, rfl, rfl, bt_inG5, bt_tyok5, bt_nm5, rfl, bt_gin (bt_tin1 (List.mem_of_getElem? (i := 155) (by decide +kernel))) rfl, fun h => by cases h⟩
theorem vm_Ch_dropOldest : bt_lkM mi_Ch_dropOldest 0 := ⟨bt_gin (bt_tin2 (List.mem_of_getElem? (i := 115) (by decide +kernel))) rfl, bt_gin (bt_tin1 (List.mem_of_getElem? (i := 7) (by decide +kernel))) rfl, ⟨by decide +kernel, by decide +kernel, by decide +kernel⟩, by decide +kernel⟩
theorem vm_Ch_dropOldest_k : Cond.instanceMethod mi_Ch_dropOldest.1 ∈ bt_gw := bt_gin (bt_tin2 (List.mem_of_getElem? (i := 114) (by decide +kernel))) rfl
theorem vm_Ch_dropOldest_s : Cond.selects mi_Ch_dropOldest.1.cls mi_Ch_dropOldest.1 mi_Ch_dropOldest.1 ∈ bt_gw := bt_gin (List.mem_of_getElem? (i := 3) (by decide +kernel)) rfl
theorem bv_Ch_28 : bt_lkV "BellTrees$Changes" 28 mi_Ch_dropOldest 1 5 := ⟨⟨0, bt_T5, 6, rfl, rfl, vm_Ch_dropOldest⟩, bt_gin (bt_tin2 (List.mem_of_getElem? (i := 112) (by decide +kernel))) rfl, vm_Ch_dropOldest_k, vm_Ch_dropOldest_s⟩
theorem lg_Ch_11 : bt_lkF "BellTrees$Changes" 11 5 0 false := ⟨bt_R5, bt_T5, 6, bt_ty5, rfl, rfl, bt_inG5, bt_tyok5, bt_nm5, rfl, bt_gin (bt_tin1 (List.mem_of_getElem? (i := 151) (by decide +kernel))) rfl, fun h => by cases h⟩
theorem lg_Ch_15 : bt_lkF "BellTrees$Changes" 15 5 1 false := ⟨bt_R5, bt_T5, 6, bt_ty5, rfl, rfl, bt_inG5, bt_tyok5, bt_nm5, rfl, bt_gin (bt_tin1 (List.mem_of_getElem? (i := 152) (by decide +kernel))) rfl, fun h => by cases h⟩
theorem lg_Ch_18 : bt_lkF "BellTrees$Changes" 18 5 2 false := ⟨bt_R5, bt_T5, 6, bt_ty5, rfl, rfl, bt_inG5, bt_tyok5, bt_nm5, rfl, bt_gin (bt_tin1 (List.mem_of_getElem? (i := 153) (by decide +kernel))) rfl, fun h => by cases h⟩
theorem lg_Ch_21 : bt_lkF "BellTrees$Changes" 21 5 3 false := ⟨bt_R5, bt_T5, 6, bt_ty5, rfl, rfl, bt_inG5, bt_tyok5, bt_nm5, rfl, bt_gin (bt_tin1 (List.mem_of_getElem? (i := 154) (by decide +kernel))) rfl, fun h => by cases h⟩
theorem lp_Ch_24 : bt_lkF "BellTrees$Changes" 24 5 4 true := ⟨bt_R5, bt_T5, 6, bt_ty5, rfl, rfl, bt_inG5, bt_tyok5, bt_nm5, rfl, bt_gin (bt_tin1 (List.mem_of_getElem? (i := 155) (by decide +kernel))) rfl, fun _ => ⟨rfl, Or.inl ⟨rfl, rfl⟩⟩⟩
theorem lp_Ch_31 : bt_lkF "BellTrees$Changes" 31 5 5 true := ⟨bt_R5, bt_T5, 6, bt_ty5, rfl, rfl, bt_inG5, bt_tyok5, bt_nm5, rfl, bt_gin (bt_tin1 (List.mem_of_getElem? (i := 156) (by decide +kernel))) rfl, fun _ => ⟨rfl, Or.inl ⟨rfl, rfl⟩⟩⟩
theorem lc_Ch_34 : bt_lkC "BellTrees$Changes" 34 := ⟨bt_gin (bt_tin2 (List.mem_of_getElem? (i := 116) (by decide +kernel))) rfl, bt_gin (bt_tin2 (List.mem_of_getElem? (i := 118) (by decide +kernel))) rfl, bt_gin (bt_tin2 (List.mem_of_getElem? (i := 117) (by decide +kernel))) rfl, bt_gin (bt_tin1 (List.mem_of_getElem? (i := 12) (by decide +kernel))) rfl⟩
theorem bv_Ch_40 : bt_lkV "BellTrees$Changes" 40 mi_Fo_set 4 1 := ⟨⟨3, bt_T1, 7, rfl, rfl, vm_Fo_set⟩, bt_gin (bt_tin4 (List.mem_of_getElem? (i := 50) (by decide +kernel))) rfl, vm_Fo_set_k, vm_Fo_set_s⟩
theorem lg_Ch_31 : bt_lkF "BellTrees$Changes" 31 5 5 false := ⟨bt_R5, bt_T5, 6, bt_ty5, rfl, rfl, bt_inG5, bt_tyok5, bt_nm5, rfl, bt_gin (bt_tin1 (List.mem_of_getElem? (i := 156) (by decide +kernel))) rfl, fun h => by cases h⟩
theorem lp_Im_24 : bt_lkF "BellTrees$Image" 24 6 4 true := ⟨bt_R6, bt_T6, 7, bt_ty6, rfl, rfl, bt_inG6, bt_tyok6, bt_nm6, rfl, bt_gin (bt_tin1 (List.mem_of_getElem? (i := 180) (by decide +kernel))) rfl, fun _ => ⟨rfl, Or.inr ⟨rfl, rfl⟩⟩⟩
theorem bv_Im_28 : bt_lkV "BellTrees$Image" 28 mi_Fo_size 1 1 := ⟨⟨0, bt_T1, 7, rfl, rfl, vm_Fo_size⟩, bt_gin (bt_tin4 (List.mem_of_getElem? (i := 24) (by decide +kernel))) rfl, vm_Fo_size_k, vm_Fo_size_s⟩
theorem lp_Im_34 : bt_lkF "BellTrees$Image" 34 6 5 true := ⟨bt_R6, bt_T6, 7, bt_ty6, rfl, rfl, bt_inG6, bt_tyok6, bt_nm6, rfl, bt_gin (bt_tin1 (List.mem_of_getElem? (i := 181) (by decide +kernel))) rfl, fun _ => ⟨rfl, Or.inl ⟨rfl, rfl⟩⟩⟩
theorem bv_Im_38 : bt_lkV "BellTrees$Image" 38 mi_Fo_walked 1 1 := ⟨⟨0, bt_T1, 7, rfl, rfl, vm_Fo_walked⟩, bt_gin (bt_tin4 (List.mem_of_getElem? (i := 25) (by decide +kernel))) rfl, vm_Fo_walked_k, vm_Fo_walked_s⟩
theorem lp_Im_41 : bt_lkF "BellTrees$Image" 41 6 6 true := ⟨bt_R6, bt_T6, 7, bt_ty6, rfl, rfl, bt_inG6, bt_tyok6, bt_nm6, rfl, bt_gin (bt_tin1 (List.mem_of_getElem? (i := 182) (by decide +kernel))) rfl, fun _ => ⟨rfl, Or.inl ⟨rfl, rfl⟩⟩⟩
theorem lg_Im_9 : bt_lkF "BellTrees$Image" 9 6 0 false := ⟨bt_R6, bt_T6, 7, bt_ty6, rfl, rfl, bt_inG6, bt_tyok6, bt_nm6, rfl, bt_gin (bt_tin1 (List.mem_of_getElem? (i := 176) (by decide +kernel))) rfl, fun h => by cases h⟩
theorem bv_Im_44 : bt_lkV "BellTrees$Image" 44 mi_Fo_get 3 1 := ⟨⟨2, bt_T1, 7, rfl, rfl, vm_Fo_get⟩, bt_gin (bt_tin4 (List.mem_of_getElem? (i := 26) (by decide +kernel))) rfl, vm_Fo_get_k, vm_Fo_get_s⟩
theorem lg_Im_15 : bt_lkF "BellTrees$Image" 15 6 1 false := ⟨bt_R6, bt_T6, 7, bt_ty6, rfl, rfl, bt_inG6, bt_tyok6, bt_nm6, rfl, bt_gin (bt_tin1 (List.mem_of_getElem? (i := 177) (by decide +kernel))) rfl, fun h => by cases h⟩
theorem lg_Im_18 : bt_lkF "BellTrees$Image" 18 6 2 false := ⟨bt_R6, bt_T6, 7, bt_ty6, rfl, rfl, bt_inG6, bt_tyok6, bt_nm6, rfl, bt_gin (bt_tin1 (List.mem_of_getElem? (i := 178) (by decide +kernel))) rfl, fun h => by cases h⟩
theorem lg_Im_21 : bt_lkF "BellTrees$Image" 21 6 3 false := ⟨bt_R6, bt_T6, 7, bt_ty6, rfl, rfl, bt_inG6, bt_tyok6, bt_nm6, rfl, bt_gin (bt_tin1 (List.mem_of_getElem? (i := 179) (by decide +kernel))) rfl, fun h => by cases h⟩
theorem bv_Im_48 : bt_lkV "BellTrees$Image" 48 mi_Fo_heardOf 2 1 := ⟨⟨1, bt_T1, 7, rfl, rfl, vm_Fo_heardOf⟩, bt_gin (bt_tin4 (List.mem_of_getElem? (i := 27) (by decide +kernel))) rfl, vm_Fo_heardOf_k, vm_Fo_heardOf_s⟩
theorem lg_Im_34 : bt_lkF "BellTrees$Image" 34 6 5 false := ⟨bt_R6, bt_T6, 7, bt_ty6, rfl, rfl, bt_inG6, bt_tyok6, bt_nm6, rfl, bt_gin (bt_tin1 (List.mem_of_getElem? (i := 181) (by decide +kernel))) rfl, fun h => by cases h⟩
theorem lg_Im_24 : bt_lkF "BellTrees$Image" 24 6 4 false := ⟨bt_R6, bt_T6, 7, bt_ty6, rfl, rfl, bt_inG6, bt_tyok6, bt_nm6, rfl, bt_gin (bt_tin1 (List.mem_of_getElem? (i := 180) (by decide +kernel))) rfl, fun h => by cases h⟩
theorem bv_Im_52 : bt_lkV "BellTrees$Image" 52 mi_Fo_set 4 1 := ⟨⟨3, bt_T1, 7, rfl, rfl, vm_Fo_set⟩, bt_gin (bt_tin4 (List.mem_of_getElem? (i := 36) (by decide +kernel))) rfl, vm_Fo_set_k, vm_Fo_set_s⟩
theorem bv_Im_56 : bt_lkV "BellTrees$Image" 56 mi_Fo_setHeard 3 1 := ⟨⟨2, bt_T1, 7, rfl, rfl, vm_Fo_setHeard⟩, bt_gin (bt_tin4 (List.mem_of_getElem? (i := 37) (by decide +kernel))) rfl, vm_Fo_setHeard_k, vm_Fo_setHeard_s⟩
theorem lg_Im_41 : bt_lkF "BellTrees$Image" 41 6 6 false := ⟨bt_R6, bt_T6, 7, bt_ty6, rfl, rfl, bt_inG6, bt_tyok6, bt_nm6, rfl, bt_gin (bt_tin1 (List.mem_of_getElem? (i := 182) (by decide +kernel))) rfl, fun h => by cases h⟩
theorem vm_Fo_setWalked : bt_lkM mi_Fo_setWalked 1 := ⟨bt_gin (bt_tin4 (List.mem_of_getElem? (i := 41) (by decide +kernel))) rfl, bt_gin (bt_tin1 (List.mem_of_getElem? (i := 2) (by decide +kernel))) rfl, ⟨by decide +kernel, by decide +kernel, by decide +kernel⟩, by decide +kernel⟩
theorem vm_Fo_setWalked_k : Cond.instanceMethod mi_Fo_setWalked.1 ∈ bt_gw := bt_gin (bt_tin4 (List.mem_of_getElem? (i := 39) (by decide +kernel))) rfl
theorem vm_Fo_setWalked_s : Cond.selects mi_Fo_setWalked.1.cls mi_Fo_setWalked.1 mi_Fo_setWalked.1 ∈ bt_gw := bt_gin (bt_tin4 (List.mem_of_getElem? (i := 40) (by decide +kernel))) rfl
theorem bv_Im_60 : bt_lkV "BellTrees$Image" 60 mi_Fo_setWalked 2 1 := ⟨⟨1, bt_T1, 7, rfl, rfl, vm_Fo_setWalked⟩, bt_gin (bt_tin4 (List.mem_of_getElem? (i := 38) (by decide +kernel))) rfl, vm_Fo_setWalked_k, vm_Fo_setWalked_s⟩
theorem lg_Bo_18 : bt_lkF "BellTrees$Bodies" 18 7 2 false := ⟨bt_R7, bt_T7, 5, bt_ty7, rfl, rfl, bt_inG7, bt_tyok7, bt_nm7, rfl, bt_gin (bt_tin1 (List.mem_of_getElem? (i := 206) (by decide +kernel))) rfl, fun h => by cases h⟩
theorem lg_Bo_22 : bt_lkF "BellTrees$Bodies" 22 7 3 false := ⟨bt_R7, bt_T7, 5, bt_ty7, rfl, rfl, bt_inG7, bt_tyok7, bt_nm7, rfl, bt_gin (bt_tin1 (List.mem_of_getElem? (i := 207) (by decide +kernel))) rfl, fun h => by cases h⟩
theorem lg_Bo_11 : bt_lkF "BellTrees$Bodies" 11 7 0 false := ⟨bt_R7, bt_T7, 5, bt_ty7, rfl, rfl, bt_inG7, bt_tyok7, bt_nm7, rfl, bt_gin (bt_tin1 (List.mem_of_getElem? (i := 204) (by decide +kernel))) rfl, fun h => by cases h⟩
theorem bv_Bo_25 : bt_lkV "BellTrees$Bodies" 25 mi_Bo_isKind 2 7 := ⟨⟨1, bt_T7, 5, rfl, rfl, vm_Bo_isKind⟩, bt_gin (bt_tin4 (List.mem_of_getElem? (i := 67) (by decide +kernel))) rfl, vm_Bo_isKind_k, vm_Bo_isKind_s⟩
theorem ls_Bo_29 : bt_lkG "BellTrees$Bodies" 29 1 := ⟨by decide, bt_gin (bt_tin4 (List.mem_of_getElem? (i := 105) (by decide +kernel))) rfl⟩
theorem lp_Bo_18 : bt_lkF "BellTrees$Bodies" 18 7 2 true := ⟨bt_R7, bt_T7, 5, bt_ty7, rfl, rfl, bt_inG7, bt_tyok7, bt_nm7, rfl, bt_gin (bt_tin1 (List.mem_of_getElem? (i := 206) (by decide +kernel))) rfl, fun _ => ⟨rfl, Or.inl ⟨rfl, rfl⟩⟩⟩
theorem lg_Bo_15 : bt_lkF "BellTrees$Bodies" 15 7 1 false := ⟨bt_R7, bt_T7, 5, bt_ty7, rfl, rfl, bt_inG7, bt_tyok7, bt_nm7, rfl, bt_gin (bt_tin1 (List.mem_of_getElem? (i := 205) (by decide +kernel))) rfl, fun h => by cases h⟩
theorem lp_Bo_22 : bt_lkF "BellTrees$Bodies" 22 7 3 true := ⟨bt_R7, bt_T7, 5, bt_ty7, rfl, rfl, bt_inG7, bt_tyok7, bt_nm7, rfl, bt_gin (bt_tin1 (List.mem_of_getElem? (i := 207) (by decide +kernel))) rfl, fun _ => ⟨rfl, Or.inl ⟨rfl, rfl⟩⟩⟩
theorem bv_Bo_32 : bt_lkV "BellTrees$Bodies" 32 mi_Bo_kindOf 2 7 := ⟨⟨1, bt_T7, 5, rfl, rfl, vm_Bo_kindOf⟩, bt_gin (bt_tin4 (List.mem_of_getElem? (i := 79) (by decide +kernel))) rfl, vm_Bo_kindOf_k, vm_Bo_kindOf_s⟩
theorem lp_Bo_36 : bt_lkF "BellTrees$Bodies" 36 7 4 true := ⟨bt_R7, bt_T7, 5, bt_ty7, rfl, rfl, bt_inG7, bt_tyok7, bt_nm7, rfl, bt_gin (bt_tin1 (List.mem_of_getElem? (i := 208) (by decide +kernel))) rfl, fun _ => ⟨rfl, Or.inl ⟨rfl, rfl⟩⟩⟩
theorem vm_Bo_runOwn : bt_lkM mi_Bo_runOwn 3 := ⟨bt_gin (bt_tin4 (List.mem_of_getElem? (i := 86) (by decide +kernel))) rfl, bt_gin (bt_tin1 (List.mem_of_getElem? (i := 9) (by decide +kernel))) rfl, ⟨by decide +kernel, by decide +kernel, by decide +kernel⟩, by decide +kernel⟩
theorem vm_Bo_runOwn_k : Cond.instanceMethod mi_Bo_runOwn.1 ∈ bt_gw := bt_gin (bt_tin4 (List.mem_of_getElem? (i := 85) (by decide +kernel))) rfl
theorem vm_Bo_runOwn_s : Cond.selects mi_Bo_runOwn.1.cls mi_Bo_runOwn.1 mi_Bo_runOwn.1 ∈ bt_gw := bt_gin (List.mem_of_getElem? (i := 34) (by decide +kernel)) rfl
theorem bv_Bo_39 : bt_lkV "BellTrees$Bodies" 39 mi_Bo_runOwn 4 7 := ⟨⟨3, bt_T7, 5, rfl, rfl, vm_Bo_runOwn⟩, bt_gin (bt_tin4 (List.mem_of_getElem? (i := 83) (by decide +kernel))) rfl, vm_Bo_runOwn_k, vm_Bo_runOwn_s⟩
theorem lg_Bo_36 : bt_lkF "BellTrees$Bodies" 36 7 4 false := ⟨bt_R7, bt_T7, 5, bt_ty7, rfl, rfl, bt_inG7, bt_tyok7, bt_nm7, rfl, bt_gin (bt_tin1 (List.mem_of_getElem? (i := 208) (by decide +kernel))) rfl, fun h => by cases h⟩
theorem vm_Bo_runFrom : bt_lkM mi_Bo_runFrom 4 := ⟨bt_gin (bt_tin4 (List.mem_of_getElem? (i := 90) (by decide +kernel))) rfl, bt_gin (bt_tin1 (List.mem_of_getElem? (i := 9) (by decide +kernel))) rfl, ⟨by decide +kernel, by decide +kernel, by decide +kernel⟩, by decide +kernel⟩
theorem vm_Bo_runFrom_k : Cond.instanceMethod mi_Bo_runFrom.1 ∈ bt_gw := bt_gin (bt_tin4 (List.mem_of_getElem? (i := 89) (by decide +kernel))) rfl
theorem vm_Bo_runFrom_s : Cond.selects mi_Bo_runFrom.1.cls mi_Bo_runFrom.1 mi_Bo_runFrom.1 ∈ bt_gw := bt_gin (List.mem_of_getElem? (i := 35) (by decide +kernel)) rfl
theorem bv_Bo_43 : bt_lkV "BellTrees$Bodies" 43 mi_Bo_runFrom 5 7 := ⟨⟨4, bt_T7, 5, rfl, rfl, vm_Bo_runFrom⟩, bt_gin (bt_tin4 (List.mem_of_getElem? (i := 87) (by decide +kernel))) rfl, vm_Bo_runFrom_k, vm_Bo_runFrom_s⟩
theorem ls_Bo_47 : bt_lkG "BellTrees$Bodies" 47 2 := ⟨by decide, bt_gin (bt_tin4 (List.mem_of_getElem? (i := 91) (by decide +kernel))) rfl⟩
theorem vm_Bo_runBody : bt_lkM mi_Bo_runBody 4 := ⟨bt_gin (bt_tin4 (List.mem_of_getElem? (i := 96) (by decide +kernel))) rfl, bt_gin (bt_tin1 (List.mem_of_getElem? (i := 9) (by decide +kernel))) rfl, ⟨by decide +kernel, by decide +kernel, by decide +kernel⟩, by decide +kernel⟩
theorem vm_Bo_runBody_k : Cond.instanceMethod mi_Bo_runBody.1 ∈ bt_gw := bt_gin (bt_tin4 (List.mem_of_getElem? (i := 95) (by decide +kernel))) rfl
theorem vm_Bo_runBody_s : Cond.selects mi_Bo_runBody.1.cls mi_Bo_runBody.1 mi_Bo_runBody.1 ∈ bt_gw := bt_gin (List.mem_of_getElem? (i := 36) (by decide +kernel)) rfl
theorem bv_Bo_50 : bt_lkV "BellTrees$Bodies" 50 mi_Bo_runBody 5 7 := ⟨⟨4, bt_T7, 5, rfl, rfl, vm_Bo_runBody⟩, bt_gin (bt_tin4 (List.mem_of_getElem? (i := 93) (by decide +kernel))) rfl, vm_Bo_runBody_k, vm_Bo_runBody_s⟩
theorem vm_Bo_note : bt_lkM mi_Bo_note 1 := ⟨bt_gin (bt_tin4 (List.mem_of_getElem? (i := 100) (by decide +kernel))) rfl, bt_gin (bt_tin1 (List.mem_of_getElem? (i := 9) (by decide +kernel))) rfl, ⟨by decide +kernel, by decide +kernel, by decide +kernel⟩, by decide +kernel⟩
theorem vm_Bo_note_k : Cond.instanceMethod mi_Bo_note.1 ∈ bt_gw := bt_gin (bt_tin4 (List.mem_of_getElem? (i := 99) (by decide +kernel))) rfl
theorem vm_Bo_note_s : Cond.selects mi_Bo_note.1.cls mi_Bo_note.1 mi_Bo_note.1 ∈ bt_gw := bt_gin (List.mem_of_getElem? (i := 37) (by decide +kernel)) rfl
theorem bv_Bo_53 : bt_lkV "BellTrees$Bodies" 53 mi_Bo_note 2 7 := ⟨⟨1, bt_T7, 5, rfl, rfl, vm_Bo_note⟩, bt_gin (bt_tin4 (List.mem_of_getElem? (i := 97) (by decide +kernel))) rfl, vm_Bo_note_k, vm_Bo_note_s⟩
theorem vm_Bo_runAbove : bt_lkM mi_Bo_runAbove 4 := ⟨bt_gin (bt_tin4 (List.mem_of_getElem? (i := 104) (by decide +kernel))) rfl, bt_gin (bt_tin1 (List.mem_of_getElem? (i := 9) (by decide +kernel))) rfl, ⟨by decide +kernel, by decide +kernel, by decide +kernel⟩, by decide +kernel⟩
theorem vm_Bo_runAbove_k : Cond.instanceMethod mi_Bo_runAbove.1 ∈ bt_gw := bt_gin (bt_tin4 (List.mem_of_getElem? (i := 103) (by decide +kernel))) rfl
theorem vm_Bo_runAbove_s : Cond.selects mi_Bo_runAbove.1.cls mi_Bo_runAbove.1 mi_Bo_runAbove.1 ∈ bt_gw := bt_gin (List.mem_of_getElem? (i := 38) (by decide +kernel)) rfl
theorem bv_Bo_57 : bt_lkV "BellTrees$Bodies" 57 mi_Bo_runAbove 5 7 := ⟨⟨4, bt_T7, 5, rfl, rfl, vm_Bo_runAbove⟩, bt_gin (bt_tin4 (List.mem_of_getElem? (i := 101) (by decide +kernel))) rfl, vm_Bo_runAbove_k, vm_Bo_runAbove_s⟩
theorem lg_Sh_15 : bt_lkF "BellTrees$Shelf" 15 8 1 false := ⟨bt_R8, bt_T8, 4, bt_ty8, rfl, rfl, bt_inG8, bt_tyok8, bt_nm8, rfl, bt_gin (bt_tin1 (List.mem_of_getElem? (i := 228) (by decide +kernel))) rfl, fun h => by cases h⟩
theorem lg_Sh_19 : bt_lkF "BellTrees$Shelf" 19 8 2 false := ⟨bt_R8, bt_T8, 4, bt_ty8, rfl, rfl, bt_inG8, bt_tyok8, bt_nm8, rfl, bt_gin (bt_tin1 (List.mem_of_getElem? (i := 229) (by decide +kernel))) rfl, fun h => by cases h⟩
theorem lp_Sh_15 : bt_lkF "BellTrees$Shelf" 15 8 1 true := ⟨bt_R8, bt_T8, 4, bt_ty8, rfl, rfl, bt_inG8, bt_tyok8, bt_nm8, rfl, bt_gin (bt_tin1 (List.mem_of_getElem? (i := 228) (by decide +kernel))) rfl, fun _ => ⟨rfl, Or.inl ⟨rfl, rfl⟩⟩⟩
theorem lp_Sh_19 : bt_lkF "BellTrees$Shelf" 19 8 2 true := ⟨bt_R8, bt_T8, 4, bt_ty8, rfl, rfl, bt_inG8, bt_tyok8, bt_nm8, rfl, bt_gin (bt_tin1 (List.mem_of_getElem? (i := 229) (by decide +kernel))) rfl, fun _ => ⟨rfl, Or.inl ⟨rfl, rfl⟩⟩⟩
theorem lp_Sh_22 : bt_lkF "BellTrees$Shelf" 22 8 3 true := ⟨bt_R8, bt_T8, 4, bt_ty8, rfl, rfl, bt_inG8, bt_tyok8, bt_nm8, rfl, bt_gin (bt_tin1 (List.mem_of_getElem? (i := 230) (by decide +kernel))) rfl, fun _ => ⟨rfl, Or.inl ⟨rfl, rfl⟩⟩⟩
theorem bs_Sh_25 : bt_lkS "BellTrees$Shelf" 25 mi_JM_min 2 := ⟨vm_JM_min, Or.inl (bt_gin (bt_tin3 (List.mem_of_getElem? (i := 36) (by decide +kernel))) rfl), vm_JM_min_k⟩
theorem bs_Sh_31 : bt_lkS "BellTrees$Shelf" 31 mi_JM_max 2 := ⟨vm_JM_max, Or.inl (bt_gin (bt_tin4 (List.mem_of_getElem? (i := 135) (by decide +kernel))) rfl), vm_JM_max_k⟩
theorem lg_Sh_11 : bt_lkF "BellTrees$Shelf" 11 8 0 false := ⟨bt_R8, bt_T8, 4, bt_ty8, rfl, rfl, bt_inG8, bt_tyok8, bt_nm8, rfl, bt_gin (bt_tin1 (List.mem_of_getElem? (i := 227) (by decide +kernel))) rfl, fun h => by cases h⟩
theorem vm_JA_fillL : bt_lkM mi_JA_fillL 2 := ⟨bt_gin (bt_tin4 (List.mem_of_getElem? (i := 138) (by decide +kernel))) rfl, bt_gin (bt_tin1 (List.mem_of_getElem? (i := 3) (by decide +kernel))) rfl, ⟨by decide +kernel, by decide +kernel, by decide +kernel⟩, by decide +kernel⟩
theorem vm_JA_fillL_k : Cond.static mi_JA_fillL.1 ∈ bt_gw := bt_gin (bt_tin4 (List.mem_of_getElem? (i := 137) (by decide +kernel))) rfl
theorem bs_Sh_34 : bt_lkS "BellTrees$Shelf" 34 mi_JA_fillL 2 := ⟨vm_JA_fillL, Or.inl (bt_gin (bt_tin4 (List.mem_of_getElem? (i := 136) (by decide +kernel))) rfl), vm_JA_fillL_k⟩
theorem lg_Sh_22 : bt_lkF "BellTrees$Shelf" 22 8 3 false := ⟨bt_R8, bt_T8, 4, bt_ty8, rfl, rfl, bt_inG8, bt_tyok8, bt_nm8, rfl, bt_gin (bt_tin1 (List.mem_of_getElem? (i := 230) (by decide +kernel))) rfl, fun h => by cases h⟩
theorem bv_Sh_40 : bt_lkV "BellTrees$Shelf" 40 mi_Sh_hasPlaces 3 8 := ⟨⟨2, bt_T8, 4, rfl, rfl, vm_Sh_hasPlaces⟩, bt_gin (bt_tin2 (List.mem_of_getElem? (i := 81) (by decide +kernel))) rfl, vm_Sh_hasPlaces_k, vm_Sh_hasPlaces_s⟩
theorem vm_Sh_lowest : bt_lkM mi_Sh_lowest 1 := ⟨bt_gin (bt_tin4 (List.mem_of_getElem? (i := 158) (by decide +kernel))) rfl, bt_gin (bt_tin1 (List.mem_of_getElem? (i := 10) (by decide +kernel))) rfl, ⟨by decide +kernel, by decide +kernel, by decide +kernel⟩, by decide +kernel⟩
theorem vm_Sh_lowest_k : Cond.instanceMethod mi_Sh_lowest.1 ∈ bt_gw := bt_gin (bt_tin4 (List.mem_of_getElem? (i := 157) (by decide +kernel))) rfl
theorem vm_Sh_lowest_s : Cond.selects mi_Sh_lowest.1.cls mi_Sh_lowest.1 mi_Sh_lowest.1 ∈ bt_gw := bt_gin (List.mem_of_getElem? (i := 40) (by decide +kernel)) rfl
theorem bv_Sh_44 : bt_lkV "BellTrees$Shelf" 44 mi_Sh_lowest 2 8 := ⟨⟨1, bt_T8, 4, rfl, rfl, vm_Sh_lowest⟩, bt_gin (bt_tin4 (List.mem_of_getElem? (i := 155) (by decide +kernel))) rfl, vm_Sh_lowest_k, vm_Sh_lowest_s⟩
theorem lc_Sh_48 : bt_lkC "BellTrees$Shelf" 48 := ⟨bt_gin (bt_tin4 (List.mem_of_getElem? (i := 177) (by decide +kernel))) rfl, bt_gin (bt_tin2 (List.mem_of_getElem? (i := 118) (by decide +kernel))) rfl, bt_gin (bt_tin2 (List.mem_of_getElem? (i := 117) (by decide +kernel))) rfl, bt_gin (bt_tin1 (List.mem_of_getElem? (i := 12) (by decide +kernel))) rfl⟩
theorem bv_Sh_54 : bt_lkV "BellTrees$Shelf" 54 mi_Sh_read 2 8 := ⟨⟨1, bt_T8, 4, rfl, rfl, vm_Sh_read⟩, bt_gin (bt_tin2 (List.mem_of_getElem? (i := 77) (by decide +kernel))) rfl, vm_Sh_read_k, vm_Sh_read_s⟩
theorem lg_M_122 : bt_lkF "BellTreesModel" 122 9 1 false := ⟨bt_R9, bt_T9, 53, bt_ty9, rfl, rfl, bt_inG9, bt_tyok9, bt_nm9, rfl, bt_gin (bt_tin4 (List.mem_of_getElem? (i := 218) (by decide +kernel))) rfl, fun h => by cases h⟩
theorem vm_M_in : bt_lkM mi_M_in 3 := ⟨bt_gin (bt_tin5 (List.mem_of_getElem? (i := 145) (by decide +kernel))) rfl, bt_gin (bt_tin1 (List.mem_of_getElem? (i := 11) (by decide +kernel))) rfl, ⟨by decide +kernel, by decide +kernel, by decide +kernel⟩, by decide +kernel⟩
theorem vm_M_in_k : Cond.static mi_M_in.1 ∈ bt_gw := bt_gin (bt_tin5 (List.mem_of_getElem? (i := 144) (by decide +kernel))) rfl
theorem bs_M_125 : bt_lkS "BellTreesModel" 125 mi_M_in 3 := ⟨vm_M_in, Or.inl (bt_gin (bt_tin5 (List.mem_of_getElem? (i := 143) (by decide +kernel))) rfl), vm_M_in_k⟩
theorem lg_M_7 : bt_lkF "BellTreesModel" 7 9 2 false := ⟨bt_R9, bt_T9, 53, bt_ty9, rfl, rfl, bt_inG9, bt_tyok9, bt_nm9, rfl, bt_gin (bt_tin4 (List.mem_of_getElem? (i := 219) (by decide +kernel))) rfl, fun h => by cases h⟩
theorem lg_M_13 : bt_lkF "BellTreesModel" 13 9 3 false := ⟨bt_R9, bt_T9, 53, bt_ty9, rfl, rfl, bt_inG9, bt_tyok9, bt_nm9, rfl, bt_gin (bt_tin4 (List.mem_of_getElem? (i := 220) (by decide +kernel))) rfl, fun h => by cases h⟩
theorem lg_M_16 : bt_lkF "BellTreesModel" 16 9 4 false := ⟨bt_R9, bt_T9, 53, bt_ty9, rfl, rfl, bt_inG9, bt_tyok9, bt_nm9, rfl, bt_gin (bt_tin4 (List.mem_of_getElem? (i := 221) (by decide +kernel))) rfl, fun h => by cases h⟩
theorem lg_M_19 : bt_lkF "BellTreesModel" 19 9 5 false := ⟨bt_R9, bt_T9, 53, bt_ty9, rfl, rfl, bt_inG9, bt_tyok9, bt_nm9, rfl, bt_gin (bt_tin4 (List.mem_of_getElem? (i := 222) (by decide +kernel))) rfl, fun h => by cases h⟩
theorem lg_M_22 : bt_lkF "BellTreesModel" 22 9 6 false := ⟨bt_R9, bt_T9, 53, bt_ty9, rfl, rfl, bt_inG9, bt_tyok9, bt_nm9, rfl, bt_gin (bt_tin4 (List.mem_of_getElem? (i := 223) (by decide +kernel))) rfl, fun h => by cases h⟩
theorem lg_M_25 : bt_lkF "BellTreesModel" 25 9 7 false := ⟨bt_R9, bt_T9, 53, bt_ty9, rfl, rfl, bt_inG9, bt_tyok9, bt_nm9, rfl, bt_gin (bt_tin4 (List.mem_of_getElem? (i := 224) (by decide +kernel))) rfl, fun h => by cases h⟩
theorem lp_M_122 : bt_lkF "BellTreesModel" 122 9 1 true := ⟨bt_R9, bt_T9, 53, bt_ty9, rfl, rfl, bt_inG9, bt_tyok9, bt_nm9, rfl, bt_gin (bt_tin4 (List.mem_of_getElem? (i := 218) (by decide +kernel))) rfl, fun _ => ⟨rfl, Or.inl ⟨rfl, rfl⟩⟩⟩
theorem vm_M_addTree : bt_lkM mi_M_addTree 3 := ⟨bt_gin (bt_tin5 (List.mem_of_getElem? (i := 149) (by decide +kernel))) rfl, bt_gin (bt_tin1 (List.mem_of_getElem? (i := 11) (by decide +kernel))) rfl, ⟨by decide +kernel, by decide +kernel, by decide +kernel⟩, by decide +kernel⟩
theorem vm_M_addTree_k : Cond.instanceMethod mi_M_addTree.1 ∈ bt_gw := bt_gin (bt_tin5 (List.mem_of_getElem? (i := 148) (by decide +kernel))) rfl
theorem vm_M_addTree_s : Cond.selects mi_M_addTree.1.cls mi_M_addTree.1 mi_M_addTree.1 ∈ bt_gw := bt_gin (List.mem_of_getElem? (i := 41) (by decide +kernel)) rfl
theorem bv_M_129 : bt_lkV "BellTreesModel" 129 mi_M_addTree 4 9 := ⟨⟨3, bt_T9, 53, rfl, rfl, vm_M_addTree⟩, bt_gin (bt_tin5 (List.mem_of_getElem? (i := 146) (by decide +kernel))) rfl, vm_M_addTree_k, vm_M_addTree_s⟩
theorem vm_M_isShelf : bt_lkM mi_M_isShelf 1 := ⟨bt_gin (bt_tin5 (List.mem_of_getElem? (i := 156) (by decide +kernel))) rfl, bt_gin (bt_tin1 (List.mem_of_getElem? (i := 11) (by decide +kernel))) rfl, ⟨by decide +kernel, by decide +kernel, by decide +kernel⟩, by decide +kernel⟩
theorem vm_M_isShelf_k : Cond.static mi_M_isShelf.1 ∈ bt_gw := bt_gin (bt_tin5 (List.mem_of_getElem? (i := 155) (by decide +kernel))) rfl
theorem bs_M_133 : bt_lkS "BellTreesModel" 133 mi_M_isShelf 1 := ⟨vm_M_isShelf, Or.inl (bt_gin (bt_tin5 (List.mem_of_getElem? (i := 154) (by decide +kernel))) rfl), vm_M_isShelf_k⟩
theorem lg_M_107 : bt_lkF "BellTreesModel" 107 9 49 false := ⟨bt_R9, bt_T9, 53, bt_ty9, rfl, rfl, bt_inG9, bt_tyok9, bt_nm9, rfl, bt_gin (bt_tin5 (List.mem_of_getElem? (i := 26) (by decide +kernel))) rfl, fun h => by cases h⟩
theorem lk_M_137 : Cond.constantLong "BellTreesModel" 137 2 ∈ bt_gw := bt_gin (bt_tin5 (List.mem_of_getElem? (i := 157) (by decide +kernel))) rfl
theorem lg_M_110 : bt_lkF "BellTreesModel" 110 9 50 false := ⟨bt_R9, bt_T9, 53, bt_ty9, rfl, rfl, bt_inG9, bt_tyok9, bt_nm9, rfl, bt_gin (bt_tin5 (List.mem_of_getElem? (i := 27) (by decide +kernel))) rfl, fun h => by cases h⟩
theorem lg_M_113 : bt_lkF "BellTreesModel" 113 9 51 false := ⟨bt_R9, bt_T9, 53, bt_ty9, rfl, rfl, bt_inG9, bt_tyok9, bt_nm9, rfl, bt_gin (bt_tin5 (List.mem_of_getElem? (i := 28) (by decide +kernel))) rfl, fun h => by cases h⟩
theorem vm_M_isTree : bt_lkM mi_M_isTree 1 := ⟨bt_gin (bt_tin5 (List.mem_of_getElem? (i := 165) (by decide +kernel))) rfl, bt_gin (bt_tin1 (List.mem_of_getElem? (i := 11) (by decide +kernel))) rfl, ⟨by decide +kernel, by decide +kernel, by decide +kernel⟩, by decide +kernel⟩
theorem vm_M_isTree_k : Cond.instanceMethod mi_M_isTree.1 ∈ bt_gw := bt_gin (bt_tin5 (List.mem_of_getElem? (i := 164) (by decide +kernel))) rfl
theorem vm_M_isTree_s : Cond.selects mi_M_isTree.1.cls mi_M_isTree.1 mi_M_isTree.1 ∈ bt_gw := bt_gin (List.mem_of_getElem? (i := 42) (by decide +kernel)) rfl
theorem bv_M_139 : bt_lkV "BellTreesModel" 139 mi_M_isTree 2 9 := ⟨⟨1, bt_T9, 53, rfl, rfl, vm_M_isTree⟩, bt_gin (bt_tin5 (List.mem_of_getElem? (i := 162) (by decide +kernel))) rfl, vm_M_isTree_k, vm_M_isTree_s⟩
theorem vm_M_areBeside : bt_lkM mi_M_areBeside 2 := ⟨bt_gin (bt_tin5 (List.mem_of_getElem? (i := 169) (by decide +kernel))) rfl, bt_gin (bt_tin1 (List.mem_of_getElem? (i := 11) (by decide +kernel))) rfl, ⟨by decide +kernel, by decide +kernel, by decide +kernel⟩, by decide +kernel⟩
theorem vm_M_areBeside_k : Cond.instanceMethod mi_M_areBeside.1 ∈ bt_gw := bt_gin (bt_tin5 (List.mem_of_getElem? (i := 168) (by decide +kernel))) rfl
theorem vm_M_areBeside_s : Cond.selects mi_M_areBeside.1.cls mi_M_areBeside.1 mi_M_areBeside.1 ∈ bt_gw := bt_gin (List.mem_of_getElem? (i := 43) (by decide +kernel)) rfl
theorem bv_M_142 : bt_lkV "BellTreesModel" 142 mi_M_areBeside 3 9 := ⟨⟨2, bt_T9, 53, rfl, rfl, vm_M_areBeside⟩, bt_gin (bt_tin5 (List.mem_of_getElem? (i := 166) (by decide +kernel))) rfl, vm_M_areBeside_k, vm_M_areBeside_s⟩
theorem lg_M_146 : bt_lkF "BellTreesModel" 146 9 8 false := ⟨bt_R9, bt_T9, 53, bt_ty9, rfl, rfl, bt_inG9, bt_tyok9, bt_nm9, rfl, bt_gin (bt_tin4 (List.mem_of_getElem? (i := 225) (by decide +kernel))) rfl, fun h => by cases h⟩
theorem lp_M_146 : bt_lkF "BellTreesModel" 146 9 8 true := ⟨bt_R9, bt_T9, 53, bt_ty9, rfl, rfl, bt_inG9, bt_tyok9, bt_nm9, rfl, bt_gin (bt_tin4 (List.mem_of_getElem? (i := 225) (by decide +kernel))) rfl, fun _ => ⟨rfl, Or.inl ⟨rfl, rfl⟩⟩⟩
theorem lg_M_28 : bt_lkF "BellTreesModel" 28 9 10 false := ⟨bt_R9, bt_T9, 53, bt_ty9, rfl, rfl, bt_inG9, bt_tyok9, bt_nm9, rfl, bt_gin (bt_tin4 (List.mem_of_getElem? (i := 227) (by decide +kernel))) rfl, fun h => by cases h⟩
theorem lg_M_31 : bt_lkF "BellTreesModel" 31 9 11 false := ⟨bt_R9, bt_T9, 53, bt_ty9, rfl, rfl, bt_inG9, bt_tyok9, bt_nm9, rfl, bt_gin (bt_tin4 (List.mem_of_getElem? (i := 228) (by decide +kernel))) rfl, fun h => by cases h⟩
theorem lg_M_149 : bt_lkF "BellTreesModel" 149 9 12 false := ⟨bt_R9, bt_T9, 53, bt_ty9, rfl, rfl, bt_inG9, bt_tyok9, bt_nm9, rfl, bt_gin (bt_tin4 (List.mem_of_getElem? (i := 229) (by decide +kernel))) rfl, fun h => by cases h⟩
theorem lg_M_152 : bt_lkF "BellTreesModel" 152 9 13 false := ⟨bt_R9, bt_T9, 53, bt_ty9, rfl, rfl, bt_inG9, bt_tyok9, bt_nm9, rfl, bt_gin (bt_tin4 (List.mem_of_getElem? (i := 230) (by decide +kernel))) rfl, fun h => by cases h⟩
theorem lp_M_149 : bt_lkF "BellTreesModel" 149 9 12 true := ⟨bt_R9, bt_T9, 53, bt_ty9, rfl, rfl, bt_inG9, bt_tyok9, bt_nm9, rfl, bt_gin (bt_tin4 (List.mem_of_getElem? (i := 229) (by decide +kernel))) rfl, fun _ => ⟨rfl, Or.inl ⟨rfl, rfl⟩⟩⟩
theorem lp_M_152 : bt_lkF "BellTreesModel" 152 9 13 true := ⟨bt_R9, bt_T9, 53, bt_ty9, rfl, rfl, bt_inG9, bt_tyok9, bt_nm9, rfl, bt_gin (bt_tin4 (List.mem_of_getElem? (i := 230) (by decide +kernel))) rfl, fun _ => ⟨rfl, Or.inl ⟨rfl, rfl⟩⟩⟩
theorem vm_M_valueAt : bt_lkM mi_M_valueAt 2 := ⟨bt_gin (bt_tin5 (List.mem_of_getElem? (i := 203) (by decide +kernel))) rfl, bt_gin (bt_tin1 (List.mem_of_getElem? (i := 11) (by decide +kernel))) rfl, ⟨by decide +kernel, by decide +kernel, by decide +kernel⟩, by decide +kernel⟩
theorem vm_M_valueAt_k : Cond.instanceMethod mi_M_valueAt.1 ∈ bt_gw := bt_gin (bt_tin5 (List.mem_of_getElem? (i := 202) (by decide +kernel))) rfl
theorem vm_M_valueAt_s : Cond.selects mi_M_valueAt.1.cls mi_M_valueAt.1 mi_M_valueAt.1 ∈ bt_gw := bt_gin (List.mem_of_getElem? (i := 47) (by decide +kernel)) rfl
theorem bv_M_155 : bt_lkV "BellTreesModel" 155 mi_M_valueAt 3 9 := ⟨⟨2, bt_T9, 53, rfl, rfl, vm_M_valueAt⟩, bt_gin (bt_tin5 (List.mem_of_getElem? (i := 200) (by decide +kernel))) rfl, vm_M_valueAt_k, vm_M_valueAt_s⟩
theorem lp_M_159 : bt_lkF "BellTreesModel" 159 9 15 true := ⟨bt_R9, bt_T9, 53, bt_ty9, rfl, rfl, bt_inG9, bt_tyok9, bt_nm9, rfl, bt_gin (bt_tin4 (List.mem_of_getElem? (i := 232) (by decide +kernel))) rfl, fun _ => ⟨rfl, Or.inl ⟨rfl, rfl⟩⟩⟩
theorem lg_M_162 : bt_lkF "BellTreesModel" 162 9 14 false := ⟨bt_R9, bt_T9, 53, bt_ty9, rfl, rfl, bt_inG9, bt_tyok9, bt_nm9, rfl, bt_gin (bt_tin4 (List.mem_of_getElem? (i := 231) (by decide +kernel))) rfl, fun h => by cases h⟩
theorem lg_M_34 : bt_lkF "BellTreesModel" 34 9 16 false := ⟨bt_R9, bt_T9, 53, bt_ty9, rfl, rfl, bt_inG9, bt_tyok9, bt_nm9, rfl, bt_gin (bt_tin4 (List.mem_of_getElem? (i := 233) (by decide +kernel))) rfl, fun h => by cases h⟩
theorem lg_M_37 : bt_lkF "BellTreesModel" 37 9 17 false := ⟨bt_R9, bt_T9, 53, bt_ty9, rfl, rfl, bt_inG9, bt_tyok9, bt_nm9, rfl, bt_gin (bt_tin4 (List.mem_of_getElem? (i := 234) (by decide +kernel))) rfl, fun h => by cases h⟩
theorem lg_M_40 : bt_lkF "BellTreesModel" 40 9 18 false := ⟨bt_R9, bt_T9, 53, bt_ty9, rfl, rfl, bt_inG9, bt_tyok9, bt_nm9, rfl, bt_gin (bt_tin4 (List.mem_of_getElem? (i := 235) (by decide +kernel))) rfl, fun h => by cases h⟩
theorem lg_M_43 : bt_lkF "BellTreesModel" 43 9 19 false := ⟨bt_R9, bt_T9, 53, bt_ty9, rfl, rfl, bt_inG9, bt_tyok9, bt_nm9, rfl, bt_gin (bt_tin4 (List.mem_of_getElem? (i := 236) (by decide +kernel))) rfl, fun h => by cases h⟩
theorem lp_M_162 : bt_lkF "BellTreesModel" 162 9 14 true := ⟨bt_R9, bt_T9, 53, bt_ty9, rfl, rfl, bt_inG9, bt_tyok9, bt_nm9, rfl, bt_gin (bt_tin4 (List.mem_of_getElem? (i := 231) (by decide +kernel))) rfl, fun _ => ⟨rfl, Or.inl ⟨rfl, rfl⟩⟩⟩
theorem vm_M_lays : bt_lkM mi_M_lays 3 := ⟨bt_gin (bt_tin5 (List.mem_of_getElem? (i := 177) (by decide +kernel))) rfl, bt_gin (bt_tin1 (List.mem_of_getElem? (i := 11) (by decide +kernel))) rfl, ⟨by decide +kernel, by decide +kernel, by decide +kernel⟩, by decide +kernel⟩
theorem vm_M_lays_k : Cond.instanceMethod mi_M_lays.1 ∈ bt_gw := bt_gin (bt_tin5 (List.mem_of_getElem? (i := 176) (by decide +kernel))) rfl
theorem vm_M_lays_s : Cond.selects mi_M_lays.1.cls mi_M_lays.1 mi_M_lays.1 ∈ bt_gw := bt_gin (List.mem_of_getElem? (i := 44) (by decide +kernel)) rfl
theorem bv_M_165 : bt_lkV "BellTreesModel" 165 mi_M_lays 4 9 := ⟨⟨3, bt_T9, 53, rfl, rfl, vm_M_lays⟩, bt_gin (bt_tin5 (List.mem_of_getElem? (i := 174) (by decide +kernel))) rfl, vm_M_lays_k, vm_M_lays_s⟩
theorem lg_M_159 : bt_lkF "BellTreesModel" 159 9 15 false := ⟨bt_R9, bt_T9, 53, bt_ty9, rfl, rfl, bt_inG9, bt_tyok9, bt_nm9, rfl, bt_gin (bt_tin4 (List.mem_of_getElem? (i := 232) (by decide +kernel))) rfl, fun h => by cases h⟩
theorem vm_M_isMinute : bt_lkM mi_M_isMinute 1 := ⟨bt_gin (bt_tin5 (List.mem_of_getElem? (i := 192) (by decide +kernel))) rfl, bt_gin (bt_tin1 (List.mem_of_getElem? (i := 11) (by decide +kernel))) rfl, ⟨by decide +kernel, by decide +kernel, by decide +kernel⟩, by decide +kernel⟩
theorem vm_M_isMinute_k : Cond.static mi_M_isMinute.1 ∈ bt_gw := bt_gin (bt_tin5 (List.mem_of_getElem? (i := 191) (by decide +kernel))) rfl
theorem bs_M_169 : bt_lkS "BellTreesModel" 169 mi_M_isMinute 1 := ⟨vm_M_isMinute, Or.inl (bt_gin (bt_tin5 (List.mem_of_getElem? (i := 190) (by decide +kernel))) rfl), vm_M_isMinute_k⟩
theorem vm_M_isSort : bt_lkM mi_M_isSort 1 := ⟨bt_gin (bt_tin5 (List.mem_of_getElem? (i := 195) (by decide +kernel))) rfl, bt_gin (bt_tin1 (List.mem_of_getElem? (i := 11) (by decide +kernel))) rfl, ⟨by decide +kernel, by decide +kernel, by decide +kernel⟩, by decide +kernel⟩
theorem vm_M_isSort_k : Cond.static mi_M_isSort.1 ∈ bt_gw := bt_gin (bt_tin5 (List.mem_of_getElem? (i := 194) (by decide +kernel))) rfl
theorem bs_M_172 : bt_lkS "BellTreesModel" 172 mi_M_isSort 1 := ⟨vm_M_isSort, Or.inl (bt_gin (bt_tin5 (List.mem_of_getElem? (i := 193) (by decide +kernel))) rfl), vm_M_isSort_k⟩
theorem vm_M_isThing : bt_lkM mi_M_isThing 2 := ⟨bt_gin (bt_tin5 (List.mem_of_getElem? (i := 189) (by decide +kernel))) rfl, bt_gin (bt_tin1 (List.mem_of_getElem? (i := 11) (by decide +kernel))) rfl, ⟨by decide +kernel, by decide +kernel, by decide +kernel⟩, by decide +kernel⟩
theorem vm_M_isThing_k : Cond.instanceMethod mi_M_isThing.1 ∈ bt_gw := bt_gin (bt_tin5 (List.mem_of_getElem? (i := 188) (by decide +kernel))) rfl
theorem vm_M_isThing_s : Cond.selects mi_M_isThing.1.cls mi_M_isThing.1 mi_M_isThing.1 ∈ bt_gw := bt_gin (List.mem_of_getElem? (i := 45) (by decide +kernel)) rfl
theorem bv_M_175 : bt_lkV "BellTreesModel" 175 mi_M_isThing 3 9 := ⟨⟨2, bt_T9, 53, rfl, rfl, vm_M_isThing⟩, bt_gin (bt_tin5 (List.mem_of_getElem? (i := 186) (by decide +kernel))) rfl, vm_M_isThing_k, vm_M_isThing_s⟩
theorem vm_M_changes : bt_lkM mi_M_changes 3 := ⟨bt_gin (bt_tin5 (List.mem_of_getElem? (i := 199) (by decide +kernel))) rfl, bt_gin (bt_tin1 (List.mem_of_getElem? (i := 11) (by decide +kernel))) rfl, ⟨by decide +kernel, by decide +kernel, by decide +kernel⟩, by decide +kernel⟩
theorem vm_M_changes_k : Cond.instanceMethod mi_M_changes.1 ∈ bt_gw := bt_gin (bt_tin5 (List.mem_of_getElem? (i := 198) (by decide +kernel))) rfl
theorem vm_M_changes_s : Cond.selects mi_M_changes.1.cls mi_M_changes.1 mi_M_changes.1 ∈ bt_gw := bt_gin (List.mem_of_getElem? (i := 46) (by decide +kernel)) rfl
theorem bv_M_178 : bt_lkV "BellTreesModel" 178 mi_M_changes 4 9 := ⟨⟨3, bt_T9, 53, rfl, rfl, vm_M_changes⟩, bt_gin (bt_tin5 (List.mem_of_getElem? (i := 196) (by decide +kernel))) rfl, vm_M_changes_k, vm_M_changes_s⟩
theorem lg_M_46 : bt_lkF "BellTreesModel" 46 9 20 false := ⟨bt_R9, bt_T9, 53, bt_ty9, rfl, rfl, bt_inG9, bt_tyok9, bt_nm9, rfl, bt_gin (bt_tin4 (List.mem_of_getElem? (i := 237) (by decide +kernel))) rfl, fun h => by cases h⟩
theorem lg_M_181 : bt_lkF "BellTreesModel" 181 9 9 false := ⟨bt_R9, bt_T9, 53, bt_ty9, rfl, rfl, bt_inG9, bt_tyok9, bt_nm9, rfl, bt_gin (bt_tin4 (List.mem_of_getElem? (i := 226) (by decide +kernel))) rfl, fun h => by cases h⟩
theorem vm_M_findFar : bt_lkM mi_M_findFar 0 := ⟨bt_gin (bt_tin5 (List.mem_of_getElem? (i := 211) (by decide +kernel))) rfl, bt_gin (bt_tin1 (List.mem_of_getElem? (i := 11) (by decide +kernel))) rfl, ⟨by decide +kernel, by decide +kernel, by decide +kernel⟩, by decide +kernel⟩
theorem vm_M_findFar_k : Cond.instanceMethod mi_M_findFar.1 ∈ bt_gw := bt_gin (bt_tin5 (List.mem_of_getElem? (i := 210) (by decide +kernel))) rfl
theorem vm_M_findFar_s : Cond.selects mi_M_findFar.1.cls mi_M_findFar.1 mi_M_findFar.1 ∈ bt_gw := bt_gin (List.mem_of_getElem? (i := 48) (by decide +kernel)) rfl
theorem bv_M_184 : bt_lkV "BellTreesModel" 184 mi_M_findFar 1 9 := ⟨⟨0, bt_T9, 53, rfl, rfl, vm_M_findFar⟩, bt_gin (bt_tin5 (List.mem_of_getElem? (i := 208) (by decide +kernel))) rfl, vm_M_findFar_k, vm_M_findFar_s⟩
theorem lg_M_187 : bt_lkF "BellTreesModel" 187 9 22 false := ⟨bt_R9, bt_T9, 53, bt_ty9, rfl, rfl, bt_inG9, bt_tyok9, bt_nm9, rfl, bt_gin (bt_tin4 (List.mem_of_getElem? (i := 239) (by decide +kernel))) rfl, fun h => by cases h⟩
theorem lg_M_49 : bt_lkF "BellTreesModel" 49 9 21 false := ⟨bt_R9, bt_T9, 53, bt_ty9, rfl, rfl, bt_inG9, bt_tyok9, bt_nm9, rfl, bt_gin (bt_tin4 (List.mem_of_getElem? (i := 238) (by decide +kernel))) rfl, fun h => by cases h⟩
theorem lp_M_187 : bt_lkF "BellTreesModel" 187 9 22 true := ⟨bt_R9, bt_T9, 53, bt_ty9, rfl, rfl, bt_inG9, bt_tyok9, bt_nm9, rfl, bt_gin (bt_tin4 (List.mem_of_getElem? (i := 239) (by decide +kernel))) rfl, fun _ => ⟨rfl, Or.inl ⟨rfl, rfl⟩⟩⟩
theorem lg_M_190 : bt_lkF "BellTreesModel" 190 9 23 false := ⟨bt_R9, bt_T9, 53, bt_ty9, rfl, rfl, bt_inG9, bt_tyok9, bt_nm9, rfl, bt_gin (bt_tin5 (List.mem_of_getElem? (i := 0) (by decide +kernel))) rfl, fun h => by cases h⟩
theorem lg_M_193 : bt_lkF "BellTreesModel" 193 9 24 false := ⟨bt_R9, bt_T9, 53, bt_ty9, rfl, rfl, bt_inG9, bt_tyok9, bt_nm9, rfl, bt_gin (bt_tin5 (List.mem_of_getElem? (i := 1) (by decide +kernel))) rfl, fun h => by cases h⟩
theorem lp_M_193 : bt_lkF "BellTreesModel" 193 9 24 true := ⟨bt_R9, bt_T9, 53, bt_ty9, rfl, rfl, bt_inG9, bt_tyok9, bt_nm9, rfl, bt_gin (bt_tin5 (List.mem_of_getElem? (i := 1) (by decide +kernel))) rfl, fun _ => ⟨rfl, Or.inl ⟨rfl, rfl⟩⟩⟩
theorem lg_M_53 : bt_lkF "BellTreesModel" 53 9 27 false := ⟨bt_R9, bt_T9, 53, bt_ty9, rfl, rfl, bt_inG9, bt_tyok9, bt_nm9, rfl, bt_gin (bt_tin5 (List.mem_of_getElem? (i := 4) (by decide +kernel))) rfl, fun h => by cases h⟩
theorem lg_M_196 : bt_lkF "BellTreesModel" 196 9 26 false := ⟨bt_R9, bt_T9, 53, bt_ty9, rfl, rfl, bt_inG9, bt_tyok9, bt_nm9, rfl, bt_gin (bt_tin5 (List.mem_of_getElem? (i := 3) (by decide +kernel))) rfl, fun h => by cases h⟩
theorem lg_M_56 : bt_lkF "BellTreesModel" 56 9 28 false := ⟨bt_R9, bt_T9, 53, bt_ty9, rfl, rfl, bt_inG9, bt_tyok9, bt_nm9, rfl, bt_gin (bt_tin5 (List.mem_of_getElem? (i := 5) (by decide +kernel))) rfl, fun h => by cases h⟩
theorem lp_M_196 : bt_lkF "BellTreesModel" 196 9 26 true := ⟨bt_R9, bt_T9, 53, bt_ty9, rfl, rfl, bt_inG9, bt_tyok9, bt_nm9, rfl, bt_gin (bt_tin5 (List.mem_of_getElem? (i := 3) (by decide +kernel))) rfl, fun _ => ⟨rfl, Or.inl ⟨rfl, rfl⟩⟩⟩
theorem lg_M_199 : bt_lkF "BellTreesModel" 199 9 25 false := ⟨bt_R9, bt_T9, 53, bt_ty9, rfl, rfl, bt_inG9, bt_tyok9, bt_nm9, rfl, bt_gin (bt_tin5 (List.mem_of_getElem? (i := 2) (by decide +kernel))) rfl, fun h => by cases h⟩
theorem vm_M_faulty : bt_lkM mi_M_faulty 0 := ⟨bt_gin (bt_tin6 (List.mem_of_getElem? (i := 30) (by decide +kernel))) rfl, bt_gin (bt_tin1 (List.mem_of_getElem? (i := 11) (by decide +kernel))) rfl, ⟨by decide +kernel, by decide +kernel, by decide +kernel⟩, by decide +kernel⟩
theorem vm_M_faulty_k : Cond.instanceMethod mi_M_faulty.1 ∈ bt_gw := bt_gin (bt_tin6 (List.mem_of_getElem? (i := 29) (by decide +kernel))) rfl
theorem vm_M_faulty_s : Cond.selects mi_M_faulty.1.cls mi_M_faulty.1 mi_M_faulty.1 ∈ bt_gw := bt_gin (List.mem_of_getElem? (i := 60) (by decide +kernel)) rfl
theorem bv_M_202 : bt_lkV "BellTreesModel" 202 mi_M_faulty 1 9 := ⟨⟨0, bt_T9, 53, rfl, rfl, vm_M_faulty⟩, bt_gin (bt_tin6 (List.mem_of_getElem? (i := 27) (by decide +kernel))) rfl, vm_M_faulty_k, vm_M_faulty_s⟩
theorem lp_M_199 : bt_lkF "BellTreesModel" 199 9 25 true := ⟨bt_R9, bt_T9, 53, bt_ty9, rfl, rfl, bt_inG9, bt_tyok9, bt_nm9, rfl, bt_gin (bt_tin5 (List.mem_of_getElem? (i := 2) (by decide +kernel))) rfl, fun _ => ⟨rfl, Or.inl ⟨rfl, rfl⟩⟩⟩
theorem lp_M_190 : bt_lkF "BellTreesModel" 190 9 23 true := ⟨bt_R9, bt_T9, 53, bt_ty9, rfl, rfl, bt_inG9, bt_tyok9, bt_nm9, rfl, bt_gin (bt_tin5 (List.mem_of_getElem? (i := 0) (by decide +kernel))) rfl, fun _ => ⟨rfl, Or.inl ⟨rfl, rfl⟩⟩⟩
theorem vm_M_look : bt_lkM mi_M_look 0 := ⟨bt_gin (bt_tin6 (List.mem_of_getElem? (i := 15) (by decide +kernel))) rfl, bt_gin (bt_tin1 (List.mem_of_getElem? (i := 11) (by decide +kernel))) rfl, ⟨by decide +kernel, by decide +kernel, by decide +kernel⟩, by decide +kernel⟩
theorem vm_M_look_k : Cond.instanceMethod mi_M_look.1 ∈ bt_gw := bt_gin (bt_tin6 (List.mem_of_getElem? (i := 14) (by decide +kernel))) rfl
theorem vm_M_look_s : Cond.selects mi_M_look.1.cls mi_M_look.1 mi_M_look.1 ∈ bt_gw := bt_gin (List.mem_of_getElem? (i := 57) (by decide +kernel)) rfl
theorem bv_M_205 : bt_lkV "BellTreesModel" 205 mi_M_look 1 9 := ⟨⟨0, bt_T9, 53, rfl, rfl, vm_M_look⟩, bt_gin (bt_tin6 (List.mem_of_getElem? (i := 12) (by decide +kernel))) rfl, vm_M_look_k, vm_M_look_s⟩
theorem vm_M_addStep : bt_lkM mi_M_addStep 2 := ⟨bt_gin (bt_tin6 (List.mem_of_getElem? (i := 22) (by decide +kernel))) rfl, bt_gin (bt_tin1 (List.mem_of_getElem? (i := 11) (by decide +kernel))) rfl, ⟨by decide +kernel, by decide +kernel, by decide +kernel⟩, by decide +kernel⟩
theorem vm_M_addStep_k : Cond.instanceMethod mi_M_addStep.1 ∈ bt_gw := bt_gin (bt_tin6 (List.mem_of_getElem? (i := 21) (by decide +kernel))) rfl
theorem vm_M_addStep_s : Cond.selects mi_M_addStep.1.cls mi_M_addStep.1 mi_M_addStep.1 ∈ bt_gw := bt_gin (List.mem_of_getElem? (i := 58) (by decide +kernel)) rfl
theorem bv_M_209 : bt_lkV "BellTreesModel" 209 mi_M_addStep 3 9 := ⟨⟨2, bt_T9, 53, rfl, rfl, vm_M_addStep⟩, bt_gin (bt_tin6 (List.mem_of_getElem? (i := 19) (by decide +kernel))) rfl, vm_M_addStep_k, vm_M_addStep_s⟩
theorem vm_M_nameOf : bt_lkM mi_M_nameOf 1 := ⟨bt_gin (bt_tin6 (List.mem_of_getElem? (i := 18) (by decide +kernel))) rfl, bt_gin (bt_tin1 (List.mem_of_getElem? (i := 11) (by decide +kernel))) rfl, ⟨by decide +kernel, by decide +kernel, by decide +kernel⟩, by decide +kernel⟩
theorem vm_M_nameOf_k : Cond.static mi_M_nameOf.1 ∈ bt_gw := bt_gin (bt_tin6 (List.mem_of_getElem? (i := 17) (by decide +kernel))) rfl
theorem bs_M_213 : bt_lkS "BellTreesModel" 213 mi_M_nameOf 1 := ⟨vm_M_nameOf, Or.inl (bt_gin (bt_tin6 (List.mem_of_getElem? (i := 16) (by decide +kernel))) rfl), vm_M_nameOf_k⟩
theorem vm_M_opens : bt_lkM mi_M_opens 0 := ⟨bt_gin (bt_tin6 (List.mem_of_getElem? (i := 26) (by decide +kernel))) rfl, bt_gin (bt_tin1 (List.mem_of_getElem? (i := 11) (by decide +kernel))) rfl, ⟨by decide +kernel, by decide +kernel, by decide +kernel⟩, by decide +kernel⟩
theorem vm_M_opens_k : Cond.instanceMethod mi_M_opens.1 ∈ bt_gw := bt_gin (bt_tin6 (List.mem_of_getElem? (i := 25) (by decide +kernel))) rfl
theorem vm_M_opens_s : Cond.selects mi_M_opens.1.cls mi_M_opens.1 mi_M_opens.1 ∈ bt_gw := bt_gin (List.mem_of_getElem? (i := 59) (by decide +kernel)) rfl
theorem bv_M_217 : bt_lkV "BellTreesModel" 217 mi_M_opens 1 9 := ⟨⟨0, bt_T9, 53, rfl, rfl, vm_M_opens⟩, bt_gin (bt_tin6 (List.mem_of_getElem? (i := 23) (by decide +kernel))) rfl, vm_M_opens_k, vm_M_opens_s⟩
theorem vm_M_operand : bt_lkM mi_M_operand 0 := ⟨bt_gin (bt_tin6 (List.mem_of_getElem? (i := 11) (by decide +kernel))) rfl, bt_gin (bt_tin1 (List.mem_of_getElem? (i := 11) (by decide +kernel))) rfl, ⟨by decide +kernel, by decide +kernel, by decide +kernel⟩, by decide +kernel⟩
theorem vm_M_operand_k : Cond.instanceMethod mi_M_operand.1 ∈ bt_gw := bt_gin (bt_tin6 (List.mem_of_getElem? (i := 10) (by decide +kernel))) rfl
theorem vm_M_operand_s : Cond.selects mi_M_operand.1.cls mi_M_operand.1 mi_M_operand.1 ∈ bt_gw := bt_gin (List.mem_of_getElem? (i := 56) (by decide +kernel)) rfl
theorem bv_M_221 : bt_lkV "BellTreesModel" 221 mi_M_operand 1 9 := ⟨⟨0, bt_T9, 53, rfl, rfl, vm_M_operand⟩, bt_gin (bt_tin6 (List.mem_of_getElem? (i := 8) (by decide +kernel))) rfl, vm_M_operand_k, vm_M_operand_s⟩
theorem vm_M_either : bt_lkM mi_M_either 0 := ⟨bt_gin (bt_tin5 (List.mem_of_getElem? (i := 231) (by decide +kernel))) rfl, bt_gin (bt_tin1 (List.mem_of_getElem? (i := 11) (by decide +kernel))) rfl, ⟨by decide +kernel, by decide +kernel, by decide +kernel⟩, by decide +kernel⟩
theorem vm_M_either_k : Cond.instanceMethod mi_M_either.1 ∈ bt_gw := bt_gin (bt_tin5 (List.mem_of_getElem? (i := 230) (by decide +kernel))) rfl
theorem vm_M_either_s : Cond.selects mi_M_either.1.cls mi_M_either.1 mi_M_either.1 ∈ bt_gw := bt_gin (List.mem_of_getElem? (i := 51) (by decide +kernel)) rfl
theorem bv_M_224 : bt_lkV "BellTreesModel" 224 mi_M_either 1 9 := ⟨⟨0, bt_T9, 53, rfl, rfl, vm_M_either⟩, bt_gin (bt_tin5 (List.mem_of_getElem? (i := 228) (by decide +kernel))) rfl, vm_M_either_k, vm_M_either_s⟩
theorem vm_M_figure : bt_lkM mi_M_figure 0 := ⟨bt_gin (bt_tin6 (List.mem_of_getElem? (i := 34) (by decide +kernel))) rfl, bt_gin (bt_tin1 (List.mem_of_getElem? (i := 11) (by decide +kernel))) rfl, ⟨by decide +kernel, by decide +kernel, by decide +kernel⟩, by decide +kernel⟩
theorem vm_M_figure_k : Cond.instanceMethod mi_M_figure.1 ∈ bt_gw := bt_gin (bt_tin6 (List.mem_of_getElem? (i := 33) (by decide +kernel))) rfl
theorem vm_M_figure_s : Cond.selects mi_M_figure.1.cls mi_M_figure.1 mi_M_figure.1 ∈ bt_gw := bt_gin (List.mem_of_getElem? (i := 61) (by decide +kernel)) rfl
theorem bv_M_227 : bt_lkV "BellTreesModel" 227 mi_M_figure 1 9 := ⟨⟨0, bt_T9, 53, rfl, rfl, vm_M_figure⟩, bt_gin (bt_tin6 (List.mem_of_getElem? (i := 31) (by decide +kernel))) rfl, vm_M_figure_k, vm_M_figure_s⟩
theorem vm_M_product : bt_lkM mi_M_product 0 := ⟨bt_gin (bt_tin6 (List.mem_of_getElem? (i := 7) (by decide +kernel))) rfl, bt_gin (bt_tin1 (List.mem_of_getElem? (i := 11) (by decide +kernel))) rfl, ⟨by decide +kernel, by decide +kernel, by decide +kernel⟩, by decide +kernel⟩
theorem vm_M_product_k : Cond.instanceMethod mi_M_product.1 ∈ bt_gw := bt_gin (bt_tin6 (List.mem_of_getElem? (i := 6) (by decide +kernel))) rfl
theorem vm_M_product_s : Cond.selects mi_M_product.1.cls mi_M_product.1 mi_M_product.1 ∈ bt_gw := bt_gin (List.mem_of_getElem? (i := 55) (by decide +kernel)) rfl
theorem bv_M_230 : bt_lkV "BellTreesModel" 230 mi_M_product 1 9 := ⟨⟨0, bt_T9, 53, rfl, rfl, vm_M_product⟩, bt_gin (bt_tin6 (List.mem_of_getElem? (i := 4) (by decide +kernel))) rfl, vm_M_product_k, vm_M_product_s⟩
theorem vm_M_sum : bt_lkM mi_M_sum 0 := ⟨bt_gin (bt_tin6 (List.mem_of_getElem? (i := 3) (by decide +kernel))) rfl, bt_gin (bt_tin1 (List.mem_of_getElem? (i := 11) (by decide +kernel))) rfl, ⟨by decide +kernel, by decide +kernel, by decide +kernel⟩, by decide +kernel⟩
theorem vm_M_sum_k : Cond.instanceMethod mi_M_sum.1 ∈ bt_gw := bt_gin (bt_tin6 (List.mem_of_getElem? (i := 2) (by decide +kernel))) rfl
theorem vm_M_sum_s : Cond.selects mi_M_sum.1.cls mi_M_sum.1 mi_M_sum.1 ∈ bt_gw := bt_gin (List.mem_of_getElem? (i := 54) (by decide +kernel)) rfl
theorem bv_M_233 : bt_lkV "BellTreesModel" 233 mi_M_sum 1 9 := ⟨⟨0, bt_T9, 53, rfl, rfl, vm_M_sum⟩, bt_gin (bt_tin6 (List.mem_of_getElem? (i := 0) (by decide +kernel))) rfl, vm_M_sum_k, vm_M_sum_s⟩
theorem vm_M_compared : bt_lkM mi_M_compared 0 := ⟨bt_gin (bt_tin5 (List.mem_of_getElem? (i := 239) (by decide +kernel))) rfl, bt_gin (bt_tin1 (List.mem_of_getElem? (i := 11) (by decide +kernel))) rfl, ⟨by decide +kernel, by decide +kernel, by decide +kernel⟩, by decide +kernel⟩
theorem vm_M_compared_k : Cond.instanceMethod mi_M_compared.1 ∈ bt_gw := bt_gin (bt_tin5 (List.mem_of_getElem? (i := 238) (by decide +kernel))) rfl
theorem vm_M_compared_s : Cond.selects mi_M_compared.1.cls mi_M_compared.1 mi_M_compared.1 ∈ bt_gw := bt_gin (List.mem_of_getElem? (i := 53) (by decide +kernel)) rfl
theorem bv_M_236 : bt_lkV "BellTreesModel" 236 mi_M_compared 1 9 := ⟨⟨0, bt_T9, 53, rfl, rfl, vm_M_compared⟩, bt_gin (bt_tin5 (List.mem_of_getElem? (i := 236) (by decide +kernel))) rfl, vm_M_compared_k, vm_M_compared_s⟩
theorem vm_M_both : bt_lkM mi_M_both 0 := ⟨bt_gin (bt_tin5 (List.mem_of_getElem? (i := 235) (by decide +kernel))) rfl, bt_gin (bt_tin1 (List.mem_of_getElem? (i := 11) (by decide +kernel))) rfl, ⟨by decide +kernel, by decide +kernel, by decide +kernel⟩, by decide +kernel⟩
theorem vm_M_both_k : Cond.instanceMethod mi_M_both.1 ∈ bt_gw := bt_gin (bt_tin5 (List.mem_of_getElem? (i := 234) (by decide +kernel))) rfl
theorem vm_M_both_s : Cond.selects mi_M_both.1.cls mi_M_both.1 mi_M_both.1 ∈ bt_gw := bt_gin (List.mem_of_getElem? (i := 52) (by decide +kernel)) rfl
theorem bv_M_239 : bt_lkV "BellTreesModel" 239 mi_M_both 1 9 := ⟨⟨0, bt_T9, 53, rfl, rfl, vm_M_both⟩, bt_gin (bt_tin5 (List.mem_of_getElem? (i := 232) (by decide +kernel))) rfl, vm_M_both_k, vm_M_both_s⟩
theorem lg_M_59 : bt_lkF "BellTreesModel" 59 9 29 false := ⟨bt_R9, bt_T9, 53, bt_ty9, rfl, rfl, bt_inG9, bt_tyok9, bt_nm9, rfl, bt_gin (bt_tin5 (List.mem_of_getElem? (i := 6) (by decide +kernel))) rfl, fun h => by cases h⟩
theorem lg_M_62 : bt_lkF "BellTreesModel" 62 9 30 false := ⟨bt_R9, bt_T9, 53, bt_ty9, rfl, rfl, bt_inG9, bt_tyok9, bt_nm9, rfl, bt_gin (bt_tin5 (List.mem_of_getElem? (i := 7) (by decide +kernel))) rfl, fun h => by cases h⟩
theorem lg_M_66 : bt_lkF "BellTreesModel" 66 9 31 false := ⟨bt_R9, bt_T9, 53, bt_ty9, rfl, rfl, bt_inG9, bt_tyok9, bt_nm9, rfl, bt_gin (bt_tin5 (List.mem_of_getElem? (i := 8) (by decide +kernel))) rfl, fun h => by cases h⟩
theorem vm_M_line : bt_lkM mi_M_line 0 := ⟨bt_gin (bt_tin5 (List.mem_of_getElem? (i := 227) (by decide +kernel))) rfl, bt_gin (bt_tin1 (List.mem_of_getElem? (i := 11) (by decide +kernel))) rfl, ⟨by decide +kernel, by decide +kernel, by decide +kernel⟩, by decide +kernel⟩
theorem vm_M_line_k : Cond.instanceMethod mi_M_line.1 ∈ bt_gw := bt_gin (bt_tin5 (List.mem_of_getElem? (i := 226) (by decide +kernel))) rfl
theorem vm_M_line_s : Cond.selects mi_M_line.1.cls mi_M_line.1 mi_M_line.1 ∈ bt_gw := bt_gin (List.mem_of_getElem? (i := 50) (by decide +kernel)) rfl
theorem bv_M_242 : bt_lkV "BellTreesModel" 242 mi_M_line 1 9 := ⟨⟨0, bt_T9, 53, rfl, rfl, vm_M_line⟩, bt_gin (bt_tin5 (List.mem_of_getElem? (i := 224) (by decide +kernel))) rfl, vm_M_line_k, vm_M_line_s⟩
theorem lg_M_72 : bt_lkF "BellTreesModel" 72 9 33 false := ⟨bt_R9, bt_T9, 53, bt_ty9, rfl, rfl, bt_inG9, bt_tyok9, bt_nm9, rfl, bt_gin (bt_tin5 (List.mem_of_getElem? (i := 10) (by decide +kernel))) rfl, fun h => by cases h⟩
theorem lg_M_69 : bt_lkF "BellTreesModel" 69 9 32 false := ⟨bt_R9, bt_T9, 53, bt_ty9, rfl, rfl, bt_inG9, bt_tyok9, bt_nm9, rfl, bt_gin (bt_tin5 (List.mem_of_getElem? (i := 9) (by decide +kernel))) rfl, fun h => by cases h⟩
theorem vm_M_twoOf : bt_lkM mi_M_twoOf 3 := ⟨bt_gin (bt_tin6 (List.mem_of_getElem? (i := 61) (by decide +kernel))) rfl, bt_gin (bt_tin1 (List.mem_of_getElem? (i := 11) (by decide +kernel))) rfl, ⟨by decide +kernel, by decide +kernel, by decide +kernel⟩, by decide +kernel⟩
theorem vm_M_twoOf_k : Cond.static mi_M_twoOf.1 ∈ bt_gw := bt_gin (bt_tin6 (List.mem_of_getElem? (i := 60) (by decide +kernel))) rfl
theorem bs_M_245 : bt_lkS "BellTreesModel" 245 mi_M_twoOf 3 := ⟨vm_M_twoOf, Or.inl (bt_gin (bt_tin6 (List.mem_of_getElem? (i := 59) (by decide +kernel))) rfl), vm_M_twoOf_k⟩
theorem vm_M_worked : bt_lkM mi_M_worked 3 := ⟨bt_gin (bt_tin6 (List.mem_of_getElem? (i := 58) (by decide +kernel))) rfl, bt_gin (bt_tin1 (List.mem_of_getElem? (i := 11) (by decide +kernel))) rfl, ⟨by decide +kernel, by decide +kernel, by decide +kernel⟩, by decide +kernel⟩
theorem vm_M_worked_k : Cond.instanceMethod mi_M_worked.1 ∈ bt_gw := bt_gin (bt_tin6 (List.mem_of_getElem? (i := 57) (by decide +kernel))) rfl
theorem vm_M_worked_s : Cond.selects mi_M_worked.1.cls mi_M_worked.1 mi_M_worked.1 ∈ bt_gw := bt_gin (List.mem_of_getElem? (i := 65) (by decide +kernel)) rfl
theorem bv_M_248 : bt_lkV "BellTreesModel" 248 mi_M_worked 4 9 := ⟨⟨3, bt_T9, 53, rfl, rfl, vm_M_worked⟩, bt_gin (bt_tin6 (List.mem_of_getElem? (i := 55) (by decide +kernel))) rfl, vm_M_worked_k, vm_M_worked_s⟩
theorem vm_M_readText : bt_lkM mi_M_readText 1 := ⟨bt_gin (bt_tin5 (List.mem_of_getElem? (i := 223) (by decide +kernel))) rfl, bt_gin (bt_tin1 (List.mem_of_getElem? (i := 11) (by decide +kernel))) rfl, ⟨by decide +kernel, by decide +kernel, by decide +kernel⟩, by decide +kernel⟩
theorem vm_M_readText_k : Cond.instanceMethod mi_M_readText.1 ∈ bt_gw := bt_gin (bt_tin5 (List.mem_of_getElem? (i := 222) (by decide +kernel))) rfl
theorem vm_M_readText_s : Cond.selects mi_M_readText.1.cls mi_M_readText.1 mi_M_readText.1 ∈ bt_gw := bt_gin (List.mem_of_getElem? (i := 49) (by decide +kernel)) rfl
theorem bv_M_251 : bt_lkV "BellTreesModel" 251 mi_M_readText 2 9 := ⟨⟨1, bt_T9, 53, rfl, rfl, vm_M_readText⟩, bt_gin (bt_tin5 (List.mem_of_getElem? (i := 220) (by decide +kernel))) rfl, vm_M_readText_k, vm_M_readText_s⟩
theorem lp_M_254 : bt_lkF "BellTreesModel" 254 9 34 true := ⟨bt_R9, bt_T9, 53, bt_ty9, rfl, rfl, bt_inG9, bt_tyok9, bt_nm9, rfl, bt_gin (bt_tin5 (List.mem_of_getElem? (i := 11) (by decide +kernel))) rfl, fun _ => ⟨rfl, Or.inr ⟨rfl, rfl⟩⟩⟩
theorem lg_M_254 : bt_lkF "BellTreesModel" 254 9 34 false := ⟨bt_R9, bt_T9, 53, bt_ty9, rfl, rfl, bt_inG9, bt_tyok9, bt_nm9, rfl, bt_gin (bt_tin5 (List.mem_of_getElem? (i := 11) (by decide +kernel))) rfl, fun h => by cases h⟩
theorem vm_M_gives : bt_lkM mi_M_gives 1 := ⟨bt_gin (bt_tin6 (List.mem_of_getElem? (i := 54) (by decide +kernel))) rfl, bt_gin (bt_tin1 (List.mem_of_getElem? (i := 11) (by decide +kernel))) rfl, ⟨by decide +kernel, by decide +kernel, by decide +kernel⟩, by decide +kernel⟩
theorem vm_M_gives_k : Cond.instanceMethod mi_M_gives.1 ∈ bt_gw := bt_gin (bt_tin6 (List.mem_of_getElem? (i := 53) (by decide +kernel))) rfl
theorem vm_M_gives_s : Cond.selects mi_M_gives.1.cls mi_M_gives.1 mi_M_gives.1 ∈ bt_gw := bt_gin (List.mem_of_getElem? (i := 64) (by decide +kernel)) rfl
theorem bv_M_258 : bt_lkV "BellTreesModel" 258 mi_M_gives 2 9 := ⟨⟨1, bt_T9, 53, rfl, rfl, vm_M_gives⟩, bt_gin (bt_tin6 (List.mem_of_getElem? (i := 51) (by decide +kernel))) rfl, vm_M_gives_k, vm_M_gives_s⟩
theorem vm_M_isHeard : bt_lkM mi_M_isHeard 3 := ⟨bt_gin (bt_tin6 (List.mem_of_getElem? (i := 50) (by decide +kernel))) rfl, bt_gin (bt_tin1 (List.mem_of_getElem? (i := 11) (by decide +kernel))) rfl, ⟨by decide +kernel, by decide +kernel, by decide +kernel⟩, by decide +kernel⟩
theorem vm_M_isHeard_k : Cond.instanceMethod mi_M_isHeard.1 ∈ bt_gw := bt_gin (bt_tin6 (List.mem_of_getElem? (i := 49) (by decide +kernel))) rfl
theorem vm_M_isHeard_s : Cond.selects mi_M_isHeard.1.cls mi_M_isHeard.1 mi_M_isHeard.1 ∈ bt_gw := bt_gin (List.mem_of_getElem? (i := 63) (by decide +kernel)) rfl
theorem bv_M_261 : bt_lkV "BellTreesModel" 261 mi_M_isHeard 4 9 := ⟨⟨3, bt_T9, 53, rfl, rfl, vm_M_isHeard⟩, bt_gin (bt_tin6 (List.mem_of_getElem? (i := 47) (by decide +kernel))) rfl, vm_M_isHeard_k, vm_M_isHeard_s⟩
theorem lk_M_264 : Cond.constant "BellTreesModel" 264 (-2000000000) ∈ bt_gw := bt_gin (bt_tin6 (List.mem_of_getElem? (i := 39) (by decide +kernel))) rfl
theorem vm_M_every : bt_lkM mi_M_every 0 := ⟨bt_gin (bt_tin6 (List.mem_of_getElem? (i := 42) (by decide +kernel))) rfl, bt_gin (bt_tin1 (List.mem_of_getElem? (i := 11) (by decide +kernel))) rfl, ⟨by decide +kernel, by decide +kernel, by decide +kernel⟩, by decide +kernel⟩
theorem vm_M_every_k : Cond.static mi_M_every.1 ∈ bt_gw := bt_gin (bt_tin6 (List.mem_of_getElem? (i := 41) (by decide +kernel))) rfl
theorem bs_M_265 : bt_lkS "BellTreesModel" 265 mi_M_every 0 := ⟨vm_M_every, Or.inl (bt_gin (bt_tin6 (List.mem_of_getElem? (i := 40) (by decide +kernel))) rfl), vm_M_every_k⟩
theorem vm_M_soundOf : bt_lkM mi_M_soundOf 4 := ⟨bt_gin (bt_tin6 (List.mem_of_getElem? (i := 46) (by decide +kernel))) rfl, bt_gin (bt_tin1 (List.mem_of_getElem? (i := 11) (by decide +kernel))) rfl, ⟨by decide +kernel, by decide +kernel, by decide +kernel⟩, by decide +kernel⟩
theorem vm_M_soundOf_k : Cond.instanceMethod mi_M_soundOf.1 ∈ bt_gw := bt_gin (bt_tin6 (List.mem_of_getElem? (i := 45) (by decide +kernel))) rfl
theorem vm_M_soundOf_s : Cond.selects mi_M_soundOf.1.cls mi_M_soundOf.1 mi_M_soundOf.1 ∈ bt_gw := bt_gin (List.mem_of_getElem? (i := 62) (by decide +kernel)) rfl
theorem bv_M_268 : bt_lkV "BellTreesModel" 268 mi_M_soundOf 5 9 := ⟨⟨4, bt_T9, 53, rfl, rfl, vm_M_soundOf⟩, bt_gin (bt_tin6 (List.mem_of_getElem? (i := 43) (by decide +kernel))) rfl, vm_M_soundOf_k, vm_M_soundOf_s⟩
theorem lk_M_272 : Cond.constantLong "BellTreesModel" 272 999999999 ∈ bt_gw := bt_gin (bt_tin6 (List.mem_of_getElem? (i := 85) (by decide +kernel))) rfl
theorem vm_M_minutesOf : bt_lkM mi_M_minutesOf 1 := ⟨bt_gin (bt_tin6 (List.mem_of_getElem? (i := 73) (by decide +kernel))) rfl, bt_gin (bt_tin1 (List.mem_of_getElem? (i := 11) (by decide +kernel))) rfl, ⟨by decide +kernel, by decide +kernel, by decide +kernel⟩, by decide +kernel⟩
theorem vm_M_minutesOf_k : Cond.instanceMethod mi_M_minutesOf.1 ∈ bt_gw := bt_gin (bt_tin6 (List.mem_of_getElem? (i := 72) (by decide +kernel))) rfl
theorem vm_M_minutesOf_s : Cond.selects mi_M_minutesOf.1.cls mi_M_minutesOf.1 mi_M_minutesOf.1 ∈ bt_gw := bt_gin (List.mem_of_getElem? (i := 67) (by decide +kernel)) rfl
theorem bv_M_274 : bt_lkV "BellTreesModel" 274 mi_M_minutesOf 2 9 := ⟨⟨1, bt_T9, 53, rfl, rfl, vm_M_minutesOf⟩, bt_gin (bt_tin6 (List.mem_of_getElem? (i := 70) (by decide +kernel))) rfl, vm_M_minutesOf_k, vm_M_minutesOf_s⟩
theorem vm_M_mayGo : bt_lkM mi_M_mayGo 2 := ⟨bt_gin (bt_tin6 (List.mem_of_getElem? (i := 81) (by decide +kernel))) rfl, bt_gin (bt_tin1 (List.mem_of_getElem? (i := 11) (by decide +kernel))) rfl, ⟨by decide +kernel, by decide +kernel, by decide +kernel⟩, by decide +kernel⟩
theorem vm_M_mayGo_k : Cond.instanceMethod mi_M_mayGo.1 ∈ bt_gw := bt_gin (bt_tin6 (List.mem_of_getElem? (i := 80) (by decide +kernel))) rfl
theorem vm_M_mayGo_s : Cond.selects mi_M_mayGo.1.cls mi_M_mayGo.1 mi_M_mayGo.1 ∈ bt_gw := bt_gin (List.mem_of_getElem? (i := 69) (by decide +kernel)) rfl
theorem bv_M_277 : bt_lkV "BellTreesModel" 277 mi_M_mayGo 3 9 := ⟨⟨2, bt_T9, 53, rfl, rfl, vm_M_mayGo⟩, bt_gin (bt_tin6 (List.mem_of_getElem? (i := 78) (by decide +kernel))) rfl, vm_M_mayGo_k, vm_M_mayGo_s⟩
theorem lg_M_75 : bt_lkF "BellTreesModel" 75 9 35 false := ⟨bt_R9, bt_T9, 53, bt_ty9, rfl, rfl, bt_inG9, bt_tyok9, bt_nm9, rfl, bt_gin (bt_tin5 (List.mem_of_getElem? (i := 12) (by decide +kernel))) rfl, fun h => by cases h⟩
theorem vm_M_capped : bt_lkM mi_M_capped 1 := ⟨bt_gin (bt_tin6 (List.mem_of_getElem? (i := 84) (by decide +kernel))) rfl, bt_gin (bt_tin1 (List.mem_of_getElem? (i := 11) (by decide +kernel))) rfl, ⟨by decide +kernel, by decide +kernel, by decide +kernel⟩, by decide +kernel⟩
theorem vm_M_capped_k : Cond.static mi_M_capped.1 ∈ bt_gw := bt_gin (bt_tin6 (List.mem_of_getElem? (i := 83) (by decide +kernel))) rfl
theorem bs_M_280 : bt_lkS "BellTreesModel" 280 mi_M_capped 1 := ⟨vm_M_capped, Or.inl (bt_gin (bt_tin6 (List.mem_of_getElem? (i := 82) (by decide +kernel))) rfl), vm_M_capped_k⟩
theorem vm_M_told : bt_lkM mi_M_told 2 := ⟨bt_gin (bt_tin6 (List.mem_of_getElem? (i := 89) (by decide +kernel))) rfl, bt_gin (bt_tin1 (List.mem_of_getElem? (i := 11) (by decide +kernel))) rfl, ⟨by decide +kernel, by decide +kernel, by decide +kernel⟩, by decide +kernel⟩
theorem vm_M_told_k : Cond.instanceMethod mi_M_told.1 ∈ bt_gw := bt_gin (bt_tin6 (List.mem_of_getElem? (i := 88) (by decide +kernel))) rfl
theorem vm_M_told_s : Cond.selects mi_M_told.1.cls mi_M_told.1 mi_M_told.1 ∈ bt_gw := bt_gin (List.mem_of_getElem? (i := 70) (by decide +kernel)) rfl
theorem bv_M_284 : bt_lkV "BellTreesModel" 284 mi_M_told 3 9 := ⟨⟨2, bt_T9, 53, rfl, rfl, vm_M_told⟩, bt_gin (bt_tin6 (List.mem_of_getElem? (i := 86) (by decide +kernel))) rfl, vm_M_told_k, vm_M_told_s⟩
theorem lg_M_79 : bt_lkF "BellTreesModel" 79 9 36 false := ⟨bt_R9, bt_T9, 53, bt_ty9, rfl, rfl, bt_inG9, bt_tyok9, bt_nm9, rfl, bt_gin (bt_tin5 (List.mem_of_getElem? (i := 13) (by decide +kernel))) rfl, fun h => by cases h⟩
theorem vm_M_rowFault : bt_lkM mi_M_rowFault 1 := ⟨bt_gin (bt_tin6 (List.mem_of_getElem? (i := 69) (by decide +kernel))) rfl, bt_gin (bt_tin1 (List.mem_of_getElem? (i := 11) (by decide +kernel))) rfl, ⟨by decide +kernel, by decide +kernel, by decide +kernel⟩, by decide +kernel⟩
theorem vm_M_rowFault_k : Cond.instanceMethod mi_M_rowFault.1 ∈ bt_gw := bt_gin (bt_tin6 (List.mem_of_getElem? (i := 68) (by decide +kernel))) rfl
theorem vm_M_rowFault_s : Cond.selects mi_M_rowFault.1.cls mi_M_rowFault.1 mi_M_rowFault.1 ∈ bt_gw := bt_gin (List.mem_of_getElem? (i := 66) (by decide +kernel)) rfl
theorem bv_M_288 : bt_lkV "BellTreesModel" 288 mi_M_rowFault 2 9 := ⟨⟨1, bt_T9, 53, rfl, rfl, vm_M_rowFault⟩, bt_gin (bt_tin6 (List.mem_of_getElem? (i := 66) (by decide +kernel))) rfl, vm_M_rowFault_k, vm_M_rowFault_s⟩
theorem vm_M_findWalks : bt_lkM mi_M_findWalks 2 := ⟨bt_gin (bt_tin6 (List.mem_of_getElem? (i := 77) (by decide +kernel))) rfl, bt_gin (bt_tin1 (List.mem_of_getElem? (i := 11) (by decide +kernel))) rfl, ⟨by decide +kernel, by decide +kernel, by decide +kernel⟩, by decide +kernel⟩
theorem vm_M_findWalks_k : Cond.instanceMethod mi_M_findWalks.1 ∈ bt_gw := bt_gin (bt_tin6 (List.mem_of_getElem? (i := 76) (by decide +kernel))) rfl
theorem vm_M_findWalks_s : Cond.selects mi_M_findWalks.1.cls mi_M_findWalks.1 mi_M_findWalks.1 ∈ bt_gw := bt_gin (List.mem_of_getElem? (i := 68) (by decide +kernel)) rfl
theorem bv_M_291 : bt_lkV "BellTreesModel" 291 mi_M_findWalks 3 9 := ⟨⟨2, bt_T9, 53, rfl, rfl, vm_M_findWalks⟩, bt_gin (bt_tin6 (List.mem_of_getElem? (i := 74) (by decide +kernel))) rfl, vm_M_findWalks_k, vm_M_findWalks_s⟩
theorem vm_M_walksMany : bt_lkM mi_M_walksMany 1 := ⟨bt_gin (bt_tin6 (List.mem_of_getElem? (i := 93) (by decide +kernel))) rfl, bt_gin (bt_tin1 (List.mem_of_getElem? (i := 11) (by decide +kernel))) rfl, ⟨by decide +kernel, by decide +kernel, by decide +kernel⟩, by decide +kernel⟩
theorem vm_M_walksMany_k : Cond.instanceMethod mi_M_walksMany.1 ∈ bt_gw := bt_gin (bt_tin6 (List.mem_of_getElem? (i := 92) (by decide +kernel))) rfl
theorem vm_M_walksMany_s : Cond.selects mi_M_walksMany.1.cls mi_M_walksMany.1 mi_M_walksMany.1 ∈ bt_gw := bt_gin (List.mem_of_getElem? (i := 71) (by decide +kernel)) rfl
theorem bv_M_294 : bt_lkV "BellTreesModel" 294 mi_M_walksMany 2 9 := ⟨⟨1, bt_T9, 53, rfl, rfl, vm_M_walksMany⟩, bt_gin (bt_tin6 (List.mem_of_getElem? (i := 90) (by decide +kernel))) rfl, vm_M_walksMany_k, vm_M_walksMany_s⟩
theorem vm_M_areSorts : bt_lkM mi_M_areSorts 1 := ⟨bt_gin (bt_tin6 (List.mem_of_getElem? (i := 104) (by decide +kernel))) rfl, bt_gin (bt_tin1 (List.mem_of_getElem? (i := 11) (by decide +kernel))) rfl, ⟨by decide +kernel, by decide +kernel, by decide +kernel⟩, by decide +kernel⟩
theorem vm_M_areSorts_k : Cond.static mi_M_areSorts.1 ∈ bt_gw := bt_gin (bt_tin6 (List.mem_of_getElem? (i := 103) (by decide +kernel))) rfl
theorem bs_M_297 : bt_lkS "BellTreesModel" 297 mi_M_areSorts 1 := ⟨vm_M_areSorts, Or.inl (bt_gin (bt_tin6 (List.mem_of_getElem? (i := 102) (by decide +kernel))) rfl), vm_M_areSorts_k⟩
theorem vm_M_canBeOf : bt_lkM mi_M_canBeOf 3 := ⟨bt_gin (bt_tin6 (List.mem_of_getElem? (i := 108) (by decide +kernel))) rfl, bt_gin (bt_tin1 (List.mem_of_getElem? (i := 11) (by decide +kernel))) rfl, ⟨by decide +kernel, by decide +kernel, by decide +kernel⟩, by decide +kernel⟩
theorem vm_M_canBeOf_k : Cond.instanceMethod mi_M_canBeOf.1 ∈ bt_gw := bt_gin (bt_tin6 (List.mem_of_getElem? (i := 107) (by decide +kernel))) rfl
theorem vm_M_canBeOf_s : Cond.selects mi_M_canBeOf.1.cls mi_M_canBeOf.1 mi_M_canBeOf.1 ∈ bt_gw := bt_gin (List.mem_of_getElem? (i := 72) (by decide +kernel)) rfl
theorem bv_M_300 : bt_lkV "BellTreesModel" 300 mi_M_canBeOf 4 9 := ⟨⟨3, bt_T9, 53, rfl, rfl, vm_M_canBeOf⟩, bt_gin (bt_tin6 (List.mem_of_getElem? (i := 105) (by decide +kernel))) rfl, vm_M_canBeOf_k, vm_M_canBeOf_s⟩
theorem lg_M_82 : bt_lkF "BellTreesModel" 82 9 37 false := ⟨bt_R9, bt_T9, 53, bt_ty9, rfl, rfl, bt_inG9, bt_tyok9, bt_nm9, rfl, bt_gin (bt_tin5 (List.mem_of_getElem? (i := 14) (by decide +kernel))) rfl, fun h => by cases h⟩
theorem vm_M_soundIn : bt_lkM mi_M_soundIn 3 := ⟨bt_gin (bt_tin6 (List.mem_of_getElem? (i := 120) (by decide +kernel))) rfl, bt_gin (bt_tin1 (List.mem_of_getElem? (i := 11) (by decide +kernel))) rfl, ⟨by decide +kernel, by decide +kernel, by decide +kernel⟩, by decide +kernel⟩
theorem vm_M_soundIn_k : Cond.instanceMethod mi_M_soundIn.1 ∈ bt_gw := bt_gin (bt_tin6 (List.mem_of_getElem? (i := 119) (by decide +kernel))) rfl
theorem vm_M_soundIn_s : Cond.selects mi_M_soundIn.1.cls mi_M_soundIn.1 mi_M_soundIn.1 ∈ bt_gw := bt_gin (List.mem_of_getElem? (i := 74) (by decide +kernel)) rfl
theorem bv_M_304 : bt_lkV "BellTreesModel" 304 mi_M_soundIn 4 9 := ⟨⟨3, bt_T9, 53, rfl, rfl, vm_M_soundIn⟩, bt_gin (bt_tin6 (List.mem_of_getElem? (i := 117) (by decide +kernel))) rfl, vm_M_soundIn_k, vm_M_soundIn_s⟩
theorem lk_M_307 : Cond.constant "BellTreesModel" 307 1000000 ∈ bt_gw := bt_gin (bt_tin6 (List.mem_of_getElem? (i := 121) (by decide +kernel))) rfl
theorem vm_M_findLeast : bt_lkM mi_M_findLeast 4 := ⟨bt_gin (bt_tin6 (List.mem_of_getElem? (i := 116) (by decide +kernel))) rfl, bt_gin (bt_tin1 (List.mem_of_getElem? (i := 11) (by decide +kernel))) rfl, ⟨by decide +kernel, by decide +kernel, by decide +kernel⟩, by decide +kernel⟩
theorem vm_M_findLeast_k : Cond.instanceMethod mi_M_findLeast.1 ∈ bt_gw := bt_gin (bt_tin6 (List.mem_of_getElem? (i := 115) (by decide +kernel))) rfl
theorem vm_M_findLeast_s : Cond.selects mi_M_findLeast.1.cls mi_M_findLeast.1 mi_M_findLeast.1 ∈ bt_gw := bt_gin (List.mem_of_getElem? (i := 73) (by decide +kernel)) rfl
theorem bv_M_308 : bt_lkV "BellTreesModel" 308 mi_M_findLeast 5 9 := ⟨⟨4, bt_T9, 53, rfl, rfl, vm_M_findLeast⟩, bt_gin (bt_tin6 (List.mem_of_getElem? (i := 113) (by decide +kernel))) rfl, vm_M_findLeast_k, vm_M_findLeast_s⟩
theorem vm_M_areShelves : bt_lkM mi_M_areShelves 1 := ⟨bt_gin (bt_tin6 (List.mem_of_getElem? (i := 128) (by decide +kernel))) rfl, bt_gin (bt_tin1 (List.mem_of_getElem? (i := 11) (by decide +kernel))) rfl, ⟨by decide +kernel, by decide +kernel, by decide +kernel⟩, by decide +kernel⟩
theorem vm_M_areShelves_k : Cond.static mi_M_areShelves.1 ∈ bt_gw := bt_gin (bt_tin6 (List.mem_of_getElem? (i := 127) (by decide +kernel))) rfl
theorem bs_M_312 : bt_lkS "BellTreesModel" 312 mi_M_areShelves 1 := ⟨vm_M_areShelves, Or.inl (bt_gin (bt_tin6 (List.mem_of_getElem? (i := 126) (by decide +kernel))) rfl), vm_M_areShelves_k⟩
theorem vm_M_rowsFault : bt_lkM mi_M_rowsFault 1 := ⟨bt_gin (bt_tin6 (List.mem_of_getElem? (i := 132) (by decide +kernel))) rfl, bt_gin (bt_tin1 (List.mem_of_getElem? (i := 11) (by decide +kernel))) rfl, ⟨by decide +kernel, by decide +kernel, by decide +kernel⟩, by decide +kernel⟩
theorem vm_M_rowsFault_k : Cond.instanceMethod mi_M_rowsFault.1 ∈ bt_gw := bt_gin (bt_tin6 (List.mem_of_getElem? (i := 131) (by decide +kernel))) rfl
theorem vm_M_rowsFault_s : Cond.selects mi_M_rowsFault.1.cls mi_M_rowsFault.1 mi_M_rowsFault.1 ∈ bt_gw := bt_gin (List.mem_of_getElem? (i := 75) (by decide +kernel)) rfl
theorem bv_M_315 : bt_lkV "BellTreesModel" 315 mi_M_rowsFault 2 9 := ⟨⟨1, bt_T9, 53, rfl, rfl, vm_M_rowsFault⟩, bt_gin (bt_tin6 (List.mem_of_getElem? (i := 129) (by decide +kernel))) rfl, vm_M_rowsFault_k, vm_M_rowsFault_s⟩
theorem vm_M_isWalk : bt_lkM mi_M_isWalk 1 := ⟨bt_gin (bt_tin6 (List.mem_of_getElem? (i := 136) (by decide +kernel))) rfl, bt_gin (bt_tin1 (List.mem_of_getElem? (i := 11) (by decide +kernel))) rfl, ⟨by decide +kernel, by decide +kernel, by decide +kernel⟩, by decide +kernel⟩
theorem vm_M_isWalk_k : Cond.instanceMethod mi_M_isWalk.1 ∈ bt_gw := bt_gin (bt_tin6 (List.mem_of_getElem? (i := 135) (by decide +kernel))) rfl
theorem vm_M_isWalk_s : Cond.selects mi_M_isWalk.1.cls mi_M_isWalk.1 mi_M_isWalk.1 ∈ bt_gw := bt_gin (List.mem_of_getElem? (i := 76) (by decide +kernel)) rfl
theorem bv_M_318 : bt_lkV "BellTreesModel" 318 mi_M_isWalk 2 9 := ⟨⟨1, bt_T9, 53, rfl, rfl, vm_M_isWalk⟩, bt_gin (bt_tin6 (List.mem_of_getElem? (i := 133) (by decide +kernel))) rfl, vm_M_isWalk_k, vm_M_isWalk_s⟩
theorem vm_M_bothHave : bt_lkM mi_M_bothHave 1 := ⟨bt_gin (bt_tin6 (List.mem_of_getElem? (i := 140) (by decide +kernel))) rfl, bt_gin (bt_tin1 (List.mem_of_getElem? (i := 11) (by decide +kernel))) rfl, ⟨by decide +kernel, by decide +kernel, by decide +kernel⟩, by decide +kernel⟩
theorem vm_M_bothHave_k : Cond.instanceMethod mi_M_bothHave.1 ∈ bt_gw := bt_gin (bt_tin6 (List.mem_of_getElem? (i := 139) (by decide +kernel))) rfl
theorem vm_M_bothHave_s : Cond.selects mi_M_bothHave.1.cls mi_M_bothHave.1 mi_M_bothHave.1 ∈ bt_gw := bt_gin (List.mem_of_getElem? (i := 77) (by decide +kernel)) rfl
theorem bv_M_321 : bt_lkV "BellTreesModel" 321 mi_M_bothHave 2 9 := ⟨⟨1, bt_T9, 53, rfl, rfl, vm_M_bothHave⟩, bt_gin (bt_tin6 (List.mem_of_getElem? (i := 137) (by decide +kernel))) rfl, vm_M_bothHave_k, vm_M_bothHave_s⟩
theorem vm_M_walkedSound : bt_lkM mi_M_walkedSound 4 := ⟨bt_gin (bt_tin6 (List.mem_of_getElem? (i := 144) (by decide +kernel))) rfl, bt_gin (bt_tin1 (List.mem_of_getElem? (i := 11) (by decide +kernel))) rfl, ⟨by decide +kernel, by decide +kernel, by decide +kernel⟩, by decide +kernel⟩
theorem vm_M_walkedSound_k : Cond.instanceMethod mi_M_walkedSound.1 ∈ bt_gw := bt_gin (bt_tin6 (List.mem_of_getElem? (i := 143) (by decide +kernel))) rfl
theorem vm_M_walkedSound_s : Cond.selects mi_M_walkedSound.1.cls mi_M_walkedSound.1 mi_M_walkedSound.1 ∈ bt_gw := bt_gin (List.mem_of_getElem? (i := 78) (by decide +kernel)) rfl
theorem bv_M_324 : bt_lkV "BellTreesModel" 324 mi_M_walkedSound 5 9 := ⟨⟨4, bt_T9, 53, rfl, rfl, vm_M_walkedSound⟩, bt_gin (bt_tin6 (List.mem_of_getElem? (i := 141) (by decide +kernel))) rfl, vm_M_walkedSound_k, vm_M_walkedSound_s⟩
theorem lk_M_327 : Cond.constantLong "BellTreesModel" 327 (-1) ∈ bt_gw := bt_gin (bt_tin6 (List.mem_of_getElem? (i := 145) (by decide +kernel))) rfl
theorem vm_M_unlikeIn : bt_lkM mi_M_unlikeIn 5 := ⟨bt_gin (bt_tin6 (List.mem_of_getElem? (i := 153) (by decide +kernel))) rfl, bt_gin (bt_tin1 (List.mem_of_getElem? (i := 11) (by decide +kernel))) rfl, ⟨by decide +kernel, by decide +kernel, by decide +kernel⟩, by decide +kernel⟩
theorem vm_M_unlikeIn_k : Cond.instanceMethod mi_M_unlikeIn.1 ∈ bt_gw := bt_gin (bt_tin6 (List.mem_of_getElem? (i := 152) (by decide +kernel))) rfl
theorem vm_M_unlikeIn_s : Cond.selects mi_M_unlikeIn.1.cls mi_M_unlikeIn.1 mi_M_unlikeIn.1 ∈ bt_gw := bt_gin (List.mem_of_getElem? (i := 79) (by decide +kernel)) rfl
theorem bv_M_329 : bt_lkV "BellTreesModel" 329 mi_M_unlikeIn 6 9 := ⟨⟨5, bt_T9, 53, rfl, rfl, vm_M_unlikeIn⟩, bt_gin (bt_tin6 (List.mem_of_getElem? (i := 150) (by decide +kernel))) rfl, vm_M_unlikeIn_k, vm_M_unlikeIn_s⟩
theorem vm_M_hasSound : bt_lkM mi_M_hasSound 3 := ⟨bt_gin (bt_tin6 (List.mem_of_getElem? (i := 172) (by decide +kernel))) rfl, bt_gin (bt_tin1 (List.mem_of_getElem? (i := 11) (by decide +kernel))) rfl, ⟨by decide +kernel, by decide +kernel, by decide +kernel⟩, by decide +kernel⟩
theorem vm_M_hasSound_k : Cond.instanceMethod mi_M_hasSound.1 ∈ bt_gw := bt_gin (bt_tin6 (List.mem_of_getElem? (i := 171) (by decide +kernel))) rfl
theorem vm_M_hasSound_s : Cond.selects mi_M_hasSound.1.cls mi_M_hasSound.1 mi_M_hasSound.1 ∈ bt_gw := bt_gin (List.mem_of_getElem? (i := 82) (by decide +kernel)) rfl
theorem bv_M_333 : bt_lkV "BellTreesModel" 333 mi_M_hasSound 4 9 := ⟨⟨3, bt_T9, 53, rfl, rfl, vm_M_hasSound⟩, bt_gin (bt_tin6 (List.mem_of_getElem? (i := 169) (by decide +kernel))) rfl, vm_M_hasSound_k, vm_M_hasSound_s⟩
theorem vm_M_walksFault : bt_lkM mi_M_walksFault 1 := ⟨bt_gin (bt_tin6 (List.mem_of_getElem? (i := 161) (by decide +kernel))) rfl, bt_gin (bt_tin1 (List.mem_of_getElem? (i := 11) (by decide +kernel))) rfl, ⟨by decide +kernel, by decide +kernel, by decide +kernel⟩, by decide +kernel⟩
theorem vm_M_walksFault_k : Cond.instanceMethod mi_M_walksFault.1 ∈ bt_gw := bt_gin (bt_tin6 (List.mem_of_getElem? (i := 160) (by decide +kernel))) rfl
theorem vm_M_walksFault_s : Cond.selects mi_M_walksFault.1.cls mi_M_walksFault.1 mi_M_walksFault.1 ∈ bt_gw := bt_gin (List.mem_of_getElem? (i := 80) (by decide +kernel)) rfl
theorem bv_M_336 : bt_lkV "BellTreesModel" 336 mi_M_walksFault 2 9 := ⟨⟨1, bt_T9, 53, rfl, rfl, vm_M_walksFault⟩, bt_gin (bt_tin6 (List.mem_of_getElem? (i := 158) (by decide +kernel))) rfl, vm_M_walksFault_k, vm_M_walksFault_s⟩
theorem vm_M_bitsOf : bt_lkM mi_M_bitsOf 1 := ⟨bt_gin (bt_tin6 (List.mem_of_getElem? (i := 164) (by decide +kernel))) rfl, bt_gin (bt_tin1 (List.mem_of_getElem? (i := 11) (by decide +kernel))) rfl, ⟨by decide +kernel, by decide +kernel, by decide +kernel⟩, by decide +kernel⟩
theorem vm_M_bitsOf_k : Cond.static mi_M_bitsOf.1 ∈ bt_gw := bt_gin (bt_tin6 (List.mem_of_getElem? (i := 163) (by decide +kernel))) rfl
theorem bs_M_339 : bt_lkS "BellTreesModel" 339 mi_M_bitsOf 1 := ⟨vm_M_bitsOf, Or.inl (bt_gin (bt_tin6 (List.mem_of_getElem? (i := 162) (by decide +kernel))) rfl), vm_M_bitsOf_k⟩
theorem vm_M_areEnough : bt_lkM mi_M_areEnough 3 := ⟨bt_gin (bt_tin6 (List.mem_of_getElem? (i := 168) (by decide +kernel))) rfl, bt_gin (bt_tin1 (List.mem_of_getElem? (i := 11) (by decide +kernel))) rfl, ⟨by decide +kernel, by decide +kernel, by decide +kernel⟩, by decide +kernel⟩
theorem vm_M_areEnough_k : Cond.instanceMethod mi_M_areEnough.1 ∈ bt_gw := bt_gin (bt_tin6 (List.mem_of_getElem? (i := 167) (by decide +kernel))) rfl
theorem vm_M_areEnough_s : Cond.selects mi_M_areEnough.1.cls mi_M_areEnough.1 mi_M_areEnough.1 ∈ bt_gw := bt_gin (List.mem_of_getElem? (i := 81) (by decide +kernel)) rfl
theorem bv_M_342 : bt_lkV "BellTreesModel" 342 mi_M_areEnough 4 9 := ⟨⟨3, bt_T9, 53, rfl, rfl, vm_M_areEnough⟩, bt_gin (bt_tin6 (List.mem_of_getElem? (i := 165) (by decide +kernel))) rfl, vm_M_areEnough_k, vm_M_areEnough_s⟩
theorem vm_M_isTuned : bt_lkM mi_M_isTuned 1 := ⟨bt_gin (bt_tin6 (List.mem_of_getElem? (i := 180) (by decide +kernel))) rfl, bt_gin (bt_tin1 (List.mem_of_getElem? (i := 11) (by decide +kernel))) rfl, ⟨by decide +kernel, by decide +kernel, by decide +kernel⟩, by decide +kernel⟩
theorem vm_M_isTuned_k : Cond.instanceMethod mi_M_isTuned.1 ∈ bt_gw := bt_gin (bt_tin6 (List.mem_of_getElem? (i := 179) (by decide +kernel))) rfl
theorem vm_M_isTuned_s : Cond.selects mi_M_isTuned.1.cls mi_M_isTuned.1 mi_M_isTuned.1 ∈ bt_gw := bt_gin (List.mem_of_getElem? (i := 83) (by decide +kernel)) rfl
theorem bv_M_345 : bt_lkV "BellTreesModel" 345 mi_M_isTuned 2 9 := ⟨⟨1, bt_T9, 53, rfl, rfl, vm_M_isTuned⟩, bt_gin (bt_tin6 (List.mem_of_getElem? (i := 177) (by decide +kernel))) rfl, vm_M_isTuned_k, vm_M_isTuned_s⟩
theorem lg_M_348 : bt_lkF "BellTreesModel" 348 9 38 false := ⟨bt_R9, bt_T9, 53, bt_ty9, rfl, rfl, bt_inG9, bt_tyok9, bt_nm9, rfl, bt_gin (bt_tin5 (List.mem_of_getElem? (i := 15) (by decide +kernel))) rfl, fun h => by cases h⟩
theorem lk_M_351 : Cond.constant "BellTreesModel" 351 1103515245 ∈ bt_gw := bt_gin (bt_tin6 (List.mem_of_getElem? (i := 189) (by decide +kernel))) rfl
theorem lp_M_348 : bt_lkF "BellTreesModel" 348 9 38 true := ⟨bt_R9, bt_T9, 53, bt_ty9, rfl, rfl, bt_inG9, bt_tyok9, bt_nm9, rfl, bt_gin (bt_tin5 (List.mem_of_getElem? (i := 15) (by decide +kernel))) rfl, fun _ => ⟨rfl, Or.inl ⟨rfl, rfl⟩⟩⟩
theorem vm_M_draw : bt_lkM mi_M_draw 1 := ⟨bt_gin (bt_tin6 (List.mem_of_getElem? (i := 188) (by decide +kernel))) rfl, bt_gin (bt_tin1 (List.mem_of_getElem? (i := 11) (by decide +kernel))) rfl, ⟨by decide +kernel, by decide +kernel, by decide +kernel⟩, by decide +kernel⟩
theorem vm_M_draw_k : Cond.instanceMethod mi_M_draw.1 ∈ bt_gw := bt_gin (bt_tin6 (List.mem_of_getElem? (i := 187) (by decide +kernel))) rfl
theorem vm_M_draw_s : Cond.selects mi_M_draw.1.cls mi_M_draw.1 mi_M_draw.1 ∈ bt_gw := bt_gin (List.mem_of_getElem? (i := 84) (by decide +kernel)) rfl
theorem bv_M_352 : bt_lkV "BellTreesModel" 352 mi_M_draw 2 9 := ⟨⟨1, bt_T9, 53, rfl, rfl, vm_M_draw⟩, bt_gin (bt_tin6 (List.mem_of_getElem? (i := 185) (by decide +kernel))) rfl, vm_M_draw_k, vm_M_draw_s⟩
theorem vm_M_neighbour : bt_lkM mi_M_neighbour 2 := ⟨bt_gin (bt_tin6 (List.mem_of_getElem? (i := 193) (by decide +kernel))) rfl, bt_gin (bt_tin1 (List.mem_of_getElem? (i := 11) (by decide +kernel))) rfl, ⟨by decide +kernel, by decide +kernel, by decide +kernel⟩, by decide +kernel⟩
theorem vm_M_neighbour_k : Cond.instanceMethod mi_M_neighbour.1 ∈ bt_gw := bt_gin (bt_tin6 (List.mem_of_getElem? (i := 192) (by decide +kernel))) rfl
theorem vm_M_neighbour_s : Cond.selects mi_M_neighbour.1.cls mi_M_neighbour.1 mi_M_neighbour.1 ∈ bt_gw := bt_gin (List.mem_of_getElem? (i := 85) (by decide +kernel)) rfl
theorem bv_M_355 : bt_lkV "BellTreesModel" 355 mi_M_neighbour 3 9 := ⟨⟨2, bt_T9, 53, rfl, rfl, vm_M_neighbour⟩, bt_gin (bt_tin6 (List.mem_of_getElem? (i := 190) (by decide +kernel))) rfl, vm_M_neighbour_k, vm_M_neighbour_s⟩
theorem lp_M_181 : bt_lkF "BellTreesModel" 181 9 9 true := ⟨bt_R9, bt_T9, 53, bt_ty9, rfl, rfl, bt_inG9, bt_tyok9, bt_nm9, rfl, bt_gin (bt_tin4 (List.mem_of_getElem? (i := 226) (by decide +kernel))) rfl, fun _ => ⟨rfl, Or.inl ⟨rfl, rfl⟩⟩⟩
theorem lp_M_85 : bt_lkF "BellTreesModel" 85 9 39 true := ⟨bt_R9, bt_T9, 53, bt_ty9, rfl, rfl, bt_inG9, bt_tyok9, bt_nm9, rfl, bt_gin (bt_tin5 (List.mem_of_getElem? (i := 16) (by decide +kernel))) rfl, fun _ => ⟨rfl, Or.inl ⟨rfl, rfl⟩⟩⟩
theorem lp_M_358 : bt_lkF "BellTreesModel" 358 9 40 true := ⟨bt_R9, bt_T9, 53, bt_ty9, rfl, rfl, bt_inG9, bt_tyok9, bt_nm9, rfl, bt_gin (bt_tin5 (List.mem_of_getElem? (i := 17) (by decide +kernel))) rfl, fun _ => ⟨rfl, Or.inl ⟨rfl, rfl⟩⟩⟩
theorem lg_M_89 : bt_lkF "BellTreesModel" 89 9 41 false := ⟨bt_R9, bt_T9, 53, bt_ty9, rfl, rfl, bt_inG9, bt_tyok9, bt_nm9, rfl, bt_gin (bt_tin5 (List.mem_of_getElem? (i := 18) (by decide +kernel))) rfl, fun h => by cases h⟩
theorem lg_M_92 : bt_lkF "BellTreesModel" 92 9 42 false := ⟨bt_R9, bt_T9, 53, bt_ty9, rfl, rfl, bt_inG9, bt_tyok9, bt_nm9, rfl, bt_gin (bt_tin5 (List.mem_of_getElem? (i := 19) (by decide +kernel))) rfl, fun h => by cases h⟩
theorem lg_M_95 : bt_lkF "BellTreesModel" 95 9 43 false := ⟨bt_R9, bt_T9, 53, bt_ty9, rfl, rfl, bt_inG9, bt_tyok9, bt_nm9, rfl, bt_gin (bt_tin5 (List.mem_of_getElem? (i := 20) (by decide +kernel))) rfl, fun h => by cases h⟩
theorem lg_M_98 : bt_lkF "BellTreesModel" 98 9 44 false := ⟨bt_R9, bt_T9, 53, bt_ty9, rfl, rfl, bt_inG9, bt_tyok9, bt_nm9, rfl, bt_gin (bt_tin5 (List.mem_of_getElem? (i := 21) (by decide +kernel))) rfl, fun h => by cases h⟩
theorem lg_M_85 : bt_lkF "BellTreesModel" 85 9 39 false := ⟨bt_R9, bt_T9, 53, bt_ty9, rfl, rfl, bt_inG9, bt_tyok9, bt_nm9, rfl, bt_gin (bt_tin5 (List.mem_of_getElem? (i := 16) (by decide +kernel))) rfl, fun h => by cases h⟩
theorem lg_M_358 : bt_lkF "BellTreesModel" 358 9 40 false := ⟨bt_R9, bt_T9, 53, bt_ty9, rfl, rfl, bt_inG9, bt_tyok9, bt_nm9, rfl, bt_gin (bt_tin5 (List.mem_of_getElem? (i := 17) (by decide +kernel))) rfl, fun h => by cases h⟩
theorem lg_M_361 : bt_lkF "BellTreesModel" 361 9 45 false := ⟨bt_R9, bt_T9, 53, bt_ty9, rfl, rfl, bt_inG9, bt_tyok9, bt_nm9, rfl, bt_gin (bt_tin5 (List.mem_of_getElem? (i := 22) (by decide +kernel))) rfl, fun h => by cases h⟩
theorem lg_M_364 : bt_lkF "BellTreesModel" 364 9 47 false := ⟨bt_R9, bt_T9, 53, bt_ty9, rfl, rfl, bt_inG9, bt_tyok9, bt_nm9, rfl, bt_gin (bt_tin5 (List.mem_of_getElem? (i := 24) (by decide +kernel))) rfl, fun h => by cases h⟩
theorem lg_M_104 : bt_lkF "BellTreesModel" 104 9 48 false := ⟨bt_R9, bt_T9, 53, bt_ty9, rfl, rfl, bt_inG9, bt_tyok9, bt_nm9, rfl, bt_gin (bt_tin5 (List.mem_of_getElem? (i := 25) (by decide +kernel))) rfl, fun h => by cases h⟩
theorem lp_M_364 : bt_lkF "BellTreesModel" 364 9 47 true := ⟨bt_R9, bt_T9, 53, bt_ty9, rfl, rfl, bt_inG9, bt_tyok9, bt_nm9, rfl, bt_gin (bt_tin5 (List.mem_of_getElem? (i := 24) (by decide +kernel))) rfl, fun _ => ⟨rfl, Or.inl ⟨rfl, rfl⟩⟩⟩
theorem lg_M_101 : bt_lkF "BellTreesModel" 101 9 46 false := ⟨bt_R9, bt_T9, 53, bt_ty9, rfl, rfl, bt_inG9, bt_tyok9, bt_nm9, rfl, bt_gin (bt_tin5 (List.mem_of_getElem? (i := 23) (by decide +kernel))) rfl, fun h => by cases h⟩
theorem lp_M_361 : bt_lkF "BellTreesModel" 361 9 45 true := ⟨bt_R9, bt_T9, 53, bt_ty9, rfl, rfl, bt_inG9, bt_tyok9, bt_nm9, rfl, bt_gin (bt_tin5 (List.mem_of_getElem? (i := 22) (by decide +kernel))) rfl, fun _ => ⟨rfl, Or.inl ⟨rfl, rfl⟩⟩⟩
theorem vm_M_ran : bt_lkM mi_M_ran 1 := ⟨bt_gin (bt_tin7 (List.mem_of_getElem? (i := 0) (by decide +kernel))) rfl, bt_gin (bt_tin1 (List.mem_of_getElem? (i := 11) (by decide +kernel))) rfl, ⟨by decide +kernel, by decide +kernel, by decide +kernel⟩, by decide +kernel⟩
theorem vm_M_ran_k : Cond.instanceMethod mi_M_ran.1 ∈ bt_gw := bt_gin (bt_tin6 (List.mem_of_getElem? (i := 239) (by decide +kernel))) rfl
theorem vm_M_ran_s : Cond.selects mi_M_ran.1.cls mi_M_ran.1 mi_M_ran.1 ∈ bt_gw := bt_gin (List.mem_of_getElem? (i := 88) (by decide +kernel)) rfl
theorem bv_M_367 : bt_lkV "BellTreesModel" 367 mi_M_ran 2 9 := ⟨⟨1, bt_T9, 53, rfl, rfl, vm_M_ran⟩, bt_gin (bt_tin6 (List.mem_of_getElem? (i := 237) (by decide +kernel))) rfl, vm_M_ran_k, vm_M_ran_s⟩
theorem vm_M_plainRings : bt_lkM mi_M_plainRings 2 := ⟨bt_gin (bt_tin7 (List.mem_of_getElem? (i := 4) (by decide +kernel))) rfl, bt_gin (bt_tin1 (List.mem_of_getElem? (i := 11) (by decide +kernel))) rfl, ⟨by decide +kernel, by decide +kernel, by decide +kernel⟩, by decide +kernel⟩
theorem vm_M_plainRings_k : Cond.instanceMethod mi_M_plainRings.1 ∈ bt_gw := bt_gin (bt_tin7 (List.mem_of_getElem? (i := 3) (by decide +kernel))) rfl
theorem vm_M_plainRings_s : Cond.selects mi_M_plainRings.1.cls mi_M_plainRings.1 mi_M_plainRings.1 ∈ bt_gw := bt_gin (List.mem_of_getElem? (i := 89) (by decide +kernel)) rfl
theorem bv_M_371 : bt_lkV "BellTreesModel" 371 mi_M_plainRings 3 9 := ⟨⟨2, bt_T9, 53, rfl, rfl, vm_M_plainRings⟩, bt_gin (bt_tin7 (List.mem_of_getElem? (i := 1) (by decide +kernel))) rfl, vm_M_plainRings_k, vm_M_plainRings_s⟩
theorem vm_M_isUnder : bt_lkM mi_M_isUnder 2 := ⟨bt_gin (bt_tin6 (List.mem_of_getElem? (i := 236) (by decide +kernel))) rfl, bt_gin (bt_tin1 (List.mem_of_getElem? (i := 11) (by decide +kernel))) rfl, ⟨by decide +kernel, by decide +kernel, by decide +kernel⟩, by decide +kernel⟩
theorem vm_M_isUnder_k : Cond.static mi_M_isUnder.1 ∈ bt_gw := bt_gin (bt_tin6 (List.mem_of_getElem? (i := 235) (by decide +kernel))) rfl
theorem bs_M_374 : bt_lkS "BellTreesModel" 374 mi_M_isUnder 2 := ⟨vm_M_isUnder, Or.inl (bt_gin (bt_tin6 (List.mem_of_getElem? (i := 234) (by decide +kernel))) rfl), vm_M_isUnder_k⟩
theorem vm_M_stolenRings : bt_lkM mi_M_stolenRings 2 := ⟨bt_gin (bt_tin7 (List.mem_of_getElem? (i := 8) (by decide +kernel))) rfl, bt_gin (bt_tin1 (List.mem_of_getElem? (i := 11) (by decide +kernel))) rfl, ⟨by decide +kernel, by decide +kernel, by decide +kernel⟩, by decide +kernel⟩
theorem vm_M_stolenRings_k : Cond.instanceMethod mi_M_stolenRings.1 ∈ bt_gw := bt_gin (bt_tin7 (List.mem_of_getElem? (i := 7) (by decide +kernel))) rfl
theorem vm_M_stolenRings_s : Cond.selects mi_M_stolenRings.1.cls mi_M_stolenRings.1 mi_M_stolenRings.1 ∈ bt_gw := bt_gin (List.mem_of_getElem? (i := 90) (by decide +kernel)) rfl
theorem bv_M_377 : bt_lkV "BellTreesModel" 377 mi_M_stolenRings 3 9 := ⟨⟨2, bt_T9, 53, rfl, rfl, vm_M_stolenRings⟩, bt_gin (bt_tin7 (List.mem_of_getElem? (i := 5) (by decide +kernel))) rfl, vm_M_stolenRings_k, vm_M_stolenRings_s⟩
theorem vm_M_ringing : bt_lkM mi_M_ringing 2 := ⟨bt_gin (bt_tin6 (List.mem_of_getElem? (i := 233) (by decide +kernel))) rfl, bt_gin (bt_tin1 (List.mem_of_getElem? (i := 11) (by decide +kernel))) rfl, ⟨by decide +kernel, by decide +kernel, by decide +kernel⟩, by decide +kernel⟩
theorem vm_M_ringing_k : Cond.instanceMethod mi_M_ringing.1 ∈ bt_gw := bt_gin (bt_tin6 (List.mem_of_getElem? (i := 232) (by decide +kernel))) rfl
theorem vm_M_ringing_s : Cond.selects mi_M_ringing.1.cls mi_M_ringing.1 mi_M_ringing.1 ∈ bt_gw := bt_gin (List.mem_of_getElem? (i := 87) (by decide +kernel)) rfl
theorem bv_M_380 : bt_lkV "BellTreesModel" 380 mi_M_ringing 3 9 := ⟨⟨2, bt_T9, 53, rfl, rfl, vm_M_ringing⟩, bt_gin (bt_tin6 (List.mem_of_getElem? (i := 230) (by decide +kernel))) rfl, vm_M_ringing_k, vm_M_ringing_s⟩
theorem vm_M_plainBrushes : bt_lkM mi_M_plainBrushes 2 := ⟨bt_gin (bt_tin7 (List.mem_of_getElem? (i := 20) (by decide +kernel))) rfl, bt_gin (bt_tin1 (List.mem_of_getElem? (i := 11) (by decide +kernel))) rfl, ⟨by decide +kernel, by decide +kernel, by decide +kernel⟩, by decide +kernel⟩
theorem vm_M_plainBrushes_k : Cond.instanceMethod mi_M_plainBrushes.1 ∈ bt_gw := bt_gin (bt_tin7 (List.mem_of_getElem? (i := 19) (by decide +kernel))) rfl
theorem vm_M_plainBrushes_s : Cond.selects mi_M_plainBrushes.1.cls mi_M_plainBrushes.1 mi_M_plainBrushes.1 ∈ bt_gw := bt_gin (List.mem_of_getElem? (i := 93) (by decide +kernel)) rfl
theorem bv_M_383 : bt_lkV "BellTreesModel" 383 mi_M_plainBrushes 3 9 := ⟨⟨2, bt_T9, 53, rfl, rfl, vm_M_plainBrushes⟩, bt_gin (bt_tin7 (List.mem_of_getElem? (i := 17) (by decide +kernel))) rfl, vm_M_plainBrushes_k, vm_M_plainBrushes_s⟩
theorem vm_M_gustBrushes : bt_lkM mi_M_gustBrushes 2 := ⟨bt_gin (bt_tin7 (List.mem_of_getElem? (i := 16) (by decide +kernel))) rfl, bt_gin (bt_tin1 (List.mem_of_getElem? (i := 11) (by decide +kernel))) rfl, ⟨by decide +kernel, by decide +kernel, by decide +kernel⟩, by decide +kernel⟩
theorem vm_M_gustBrushes_k : Cond.instanceMethod mi_M_gustBrushes.1 ∈ bt_gw := bt_gin (bt_tin7 (List.mem_of_getElem? (i := 15) (by decide +kernel))) rfl
theorem vm_M_gustBrushes_s : Cond.selects mi_M_gustBrushes.1.cls mi_M_gustBrushes.1 mi_M_gustBrushes.1 ∈ bt_gw := bt_gin (List.mem_of_getElem? (i := 92) (by decide +kernel)) rfl
theorem bv_M_386 : bt_lkV "BellTreesModel" 386 mi_M_gustBrushes 3 9 := ⟨⟨2, bt_T9, 53, rfl, rfl, vm_M_gustBrushes⟩, bt_gin (bt_tin7 (List.mem_of_getElem? (i := 13) (by decide +kernel))) rfl, vm_M_gustBrushes_k, vm_M_gustBrushes_s⟩
theorem vm_M_hearing : bt_lkM mi_M_hearing 2 := ⟨bt_gin (bt_tin7 (List.mem_of_getElem? (i := 24) (by decide +kernel))) rfl, bt_gin (bt_tin1 (List.mem_of_getElem? (i := 11) (by decide +kernel))) rfl, ⟨by decide +kernel, by decide +kernel, by decide +kernel⟩, by decide +kernel⟩
theorem vm_M_hearing_k : Cond.instanceMethod mi_M_hearing.1 ∈ bt_gw := bt_gin (bt_tin7 (List.mem_of_getElem? (i := 23) (by decide +kernel))) rfl
theorem vm_M_hearing_s : Cond.selects mi_M_hearing.1.cls mi_M_hearing.1 mi_M_hearing.1 ∈ bt_gw := bt_gin (List.mem_of_getElem? (i := 94) (by decide +kernel)) rfl
theorem bv_M_389 : bt_lkV "BellTreesModel" 389 mi_M_hearing 3 9 := ⟨⟨2, bt_T9, 53, rfl, rfl, vm_M_hearing⟩, bt_gin (bt_tin7 (List.mem_of_getElem? (i := 21) (by decide +kernel))) rfl, vm_M_hearing_k, vm_M_hearing_s⟩
theorem vm_M_plainHears : bt_lkM mi_M_plainHears 2 := ⟨bt_gin (bt_tin7 (List.mem_of_getElem? (i := 32) (by decide +kernel))) rfl, bt_gin (bt_tin1 (List.mem_of_getElem? (i := 11) (by decide +kernel))) rfl, ⟨by decide +kernel, by decide +kernel, by decide +kernel⟩, by decide +kernel⟩
theorem vm_M_plainHears_k : Cond.instanceMethod mi_M_plainHears.1 ∈ bt_gw := bt_gin (bt_tin7 (List.mem_of_getElem? (i := 31) (by decide +kernel))) rfl
theorem vm_M_plainHears_s : Cond.selects mi_M_plainHears.1.cls mi_M_plainHears.1 mi_M_plainHears.1 ∈ bt_gw := bt_gin (List.mem_of_getElem? (i := 96) (by decide +kernel)) rfl
theorem bv_M_392 : bt_lkV "BellTreesModel" 392 mi_M_plainHears 3 9 := ⟨⟨2, bt_T9, 53, rfl, rfl, vm_M_plainHears⟩, bt_gin (bt_tin7 (List.mem_of_getElem? (i := 29) (by decide +kernel))) rfl, vm_M_plainHears_k, vm_M_plainHears_s⟩
theorem vm_M_owlHears : bt_lkM mi_M_owlHears 2 := ⟨bt_gin (bt_tin7 (List.mem_of_getElem? (i := 28) (by decide +kernel))) rfl, bt_gin (bt_tin1 (List.mem_of_getElem? (i := 11) (by decide +kernel))) rfl, ⟨by decide +kernel, by decide +kernel, by decide +kernel⟩, by decide +kernel⟩
theorem vm_M_owlHears_k : Cond.instanceMethod mi_M_owlHears.1 ∈ bt_gw := bt_gin (bt_tin7 (List.mem_of_getElem? (i := 27) (by decide +kernel))) rfl
theorem vm_M_owlHears_s : Cond.selects mi_M_owlHears.1.cls mi_M_owlHears.1 mi_M_owlHears.1 ∈ bt_gw := bt_gin (List.mem_of_getElem? (i := 95) (by decide +kernel)) rfl
theorem bv_M_395 : bt_lkV "BellTreesModel" 395 mi_M_owlHears 3 9 := ⟨⟨2, bt_T9, 53, rfl, rfl, vm_M_owlHears⟩, bt_gin (bt_tin7 (List.mem_of_getElem? (i := 25) (by decide +kernel))) rfl, vm_M_owlHears_k, vm_M_owlHears_s⟩
theorem vm_M_brushing : bt_lkM mi_M_brushing 2 := ⟨bt_gin (bt_tin7 (List.mem_of_getElem? (i := 12) (by decide +kernel))) rfl, bt_gin (bt_tin1 (List.mem_of_getElem? (i := 11) (by decide +kernel))) rfl, ⟨by decide +kernel, by decide +kernel, by decide +kernel⟩, by decide +kernel⟩
theorem vm_M_brushing_k : Cond.instanceMethod mi_M_brushing.1 ∈ bt_gw := bt_gin (bt_tin7 (List.mem_of_getElem? (i := 11) (by decide +kernel))) rfl
theorem vm_M_brushing_s : Cond.selects mi_M_brushing.1.cls mi_M_brushing.1 mi_M_brushing.1 ∈ bt_gw := bt_gin (List.mem_of_getElem? (i := 91) (by decide +kernel)) rfl
theorem bv_M_398 : bt_lkV "BellTreesModel" 398 mi_M_brushing 3 9 := ⟨⟨2, bt_T9, 53, rfl, rfl, vm_M_brushing⟩, bt_gin (bt_tin7 (List.mem_of_getElem? (i := 9) (by decide +kernel))) rfl, vm_M_brushing_k, vm_M_brushing_s⟩
theorem vm_M_plainWrites : bt_lkM mi_M_plainWrites 2 := ⟨bt_gin (bt_tin7 (List.mem_of_getElem? (i := 40) (by decide +kernel))) rfl, bt_gin (bt_tin1 (List.mem_of_getElem? (i := 11) (by decide +kernel))) rfl, ⟨by decide +kernel, by decide +kernel, by decide +kernel⟩, by decide +kernel⟩
theorem vm_M_plainWrites_k : Cond.instanceMethod mi_M_plainWrites.1 ∈ bt_gw := bt_gin (bt_tin7 (List.mem_of_getElem? (i := 39) (by decide +kernel))) rfl
theorem vm_M_plainWrites_s : Cond.selects mi_M_plainWrites.1.cls mi_M_plainWrites.1 mi_M_plainWrites.1 ∈ bt_gw := bt_gin (List.mem_of_getElem? (i := 98) (by decide +kernel)) rfl
theorem bv_M_401 : bt_lkV "BellTreesModel" 401 mi_M_plainWrites 3 9 := ⟨⟨2, bt_T9, 53, rfl, rfl, vm_M_plainWrites⟩, bt_gin (bt_tin7 (List.mem_of_getElem? (i := 37) (by decide +kernel))) rfl, vm_M_plainWrites_k, vm_M_plainWrites_s⟩
theorem vm_M_isBody : bt_lkM mi_M_isBody 1 := ⟨bt_gin (bt_tin6 (List.mem_of_getElem? (i := 229) (by decide +kernel))) rfl, bt_gin (bt_tin1 (List.mem_of_getElem? (i := 11) (by decide +kernel))) rfl, ⟨by decide +kernel, by decide +kernel, by decide +kernel⟩, by decide +kernel⟩
theorem vm_M_isBody_k : Cond.instanceMethod mi_M_isBody.1 ∈ bt_gw := bt_gin (bt_tin6 (List.mem_of_getElem? (i := 228) (by decide +kernel))) rfl
theorem vm_M_isBody_s : Cond.selects mi_M_isBody.1.cls mi_M_isBody.1 mi_M_isBody.1 ∈ bt_gw := bt_gin (List.mem_of_getElem? (i := 86) (by decide +kernel)) rfl
theorem bv_M_404 : bt_lkV "BellTreesModel" 404 mi_M_isBody 2 9 := ⟨⟨1, bt_T9, 53, rfl, rfl, vm_M_isBody⟩, bt_gin (bt_tin6 (List.mem_of_getElem? (i := 226) (by decide +kernel))) rfl, vm_M_isBody_k, vm_M_isBody_s⟩
theorem vm_M_writing : bt_lkM mi_M_writing 2 := ⟨bt_gin (bt_tin7 (List.mem_of_getElem? (i := 36) (by decide +kernel))) rfl, bt_gin (bt_tin1 (List.mem_of_getElem? (i := 11) (by decide +kernel))) rfl, ⟨by decide +kernel, by decide +kernel, by decide +kernel⟩, by decide +kernel⟩
theorem vm_M_writing_k : Cond.instanceMethod mi_M_writing.1 ∈ bt_gw := bt_gin (bt_tin7 (List.mem_of_getElem? (i := 35) (by decide +kernel))) rfl
theorem vm_M_writing_s : Cond.selects mi_M_writing.1.cls mi_M_writing.1 mi_M_writing.1 ∈ bt_gw := bt_gin (List.mem_of_getElem? (i := 97) (by decide +kernel)) rfl
theorem bv_M_407 : bt_lkV "BellTreesModel" 407 mi_M_writing 3 9 := ⟨⟨2, bt_T9, 53, rfl, rfl, vm_M_writing⟩, bt_gin (bt_tin7 (List.mem_of_getElem? (i := 33) (by decide +kernel))) rfl, vm_M_writing_k, vm_M_writing_s⟩
theorem vm_M_whyNoPlace : bt_lkM mi_M_whyNoPlace 2 := ⟨bt_gin (bt_tin7 (List.mem_of_getElem? (i := 60) (by decide +kernel))) rfl, bt_gin (bt_tin1 (List.mem_of_getElem? (i := 11) (by decide +kernel))) rfl, ⟨by decide +kernel, by decide +kernel, by decide +kernel⟩, by decide +kernel⟩
theorem vm_M_whyNoPlace_k : Cond.instanceMethod mi_M_whyNoPlace.1 ∈ bt_gw := bt_gin (bt_tin7 (List.mem_of_getElem? (i := 59) (by decide +kernel))) rfl
theorem vm_M_whyNoPlace_s : Cond.selects mi_M_whyNoPlace.1.cls mi_M_whyNoPlace.1 mi_M_whyNoPlace.1 ∈ bt_gw := bt_gin (List.mem_of_getElem? (i := 99) (by decide +kernel)) rfl
theorem bv_M_410 : bt_lkV "BellTreesModel" 410 mi_M_whyNoPlace 3 9 := ⟨⟨2, bt_T9, 53, rfl, rfl, vm_M_whyNoPlace⟩, bt_gin (bt_tin7 (List.mem_of_getElem? (i := 57) (by decide +kernel))) rfl, vm_M_whyNoPlace_k, vm_M_whyNoPlace_s⟩
theorem lk_M_415 : Cond.constantLong "BellTreesModel" 415 (-9223372036854775808) ∈ bt_gw := bt_gin (bt_tin7 (List.mem_of_getElem? (i := 65) (by decide +kernel))) rfl
theorem lg_M_116 : bt_lkF "BellTreesModel" 116 9 52 false := ⟨bt_R9, bt_T9, 53, bt_ty9, rfl, rfl, bt_inG9, bt_tyok9, bt_nm9, rfl, bt_gin (bt_tin5 (List.mem_of_getElem? (i := 29) (by decide +kernel))) rfl, fun h => by cases h⟩
theorem vm_B_tree : bt_lkM mi_B_tree 1 := ⟨bt_gin (bt_tin2 (List.mem_of_getElem? (i := 32) (by decide +kernel))) rfl, bt_gin (bt_tin1 (List.mem_of_getElem? (i := 1) (by decide +kernel))) rfl, ⟨by decide +kernel, by decide +kernel, by decide +kernel⟩, by decide +kernel⟩
theorem vm_B_tree_k : Cond.instanceMethod mi_B_tree.1 ∈ bt_gw := bt_gin (bt_tin2 (List.mem_of_getElem? (i := 30) (by decide +kernel))) rfl
theorem vm_B_tree_s : Cond.selects mi_B_tree.1.cls mi_B_tree.1 mi_B_tree.1 ∈ bt_gw := bt_gin (bt_tin2 (List.mem_of_getElem? (i := 31) (by decide +kernel))) rfl
theorem bv_X_13 : bt_lkV "BellTreesLaw" 13 mi_B_tree 2 0 := ⟨⟨1, bt_T0, 9, rfl, rfl, vm_B_tree⟩, bt_gin (bt_tin2 (List.mem_of_getElem? (i := 29) (by decide +kernel))) rfl, vm_B_tree_k, vm_B_tree_s⟩
theorem vm_M_tree : bt_lkM mi_M_tree 1 := ⟨bt_gin (bt_tin5 (List.mem_of_getElem? (i := 142) (by decide +kernel))) rfl, bt_gin (bt_tin1 (List.mem_of_getElem? (i := 11) (by decide +kernel))) rfl, ⟨by decide +kernel, by decide +kernel, by decide +kernel⟩, by decide +kernel⟩
theorem vm_M_tree_k : Cond.instanceMethod mi_M_tree.1 ∈ bt_gw := bt_gin (bt_tin5 (List.mem_of_getElem? (i := 140) (by decide +kernel))) rfl
theorem vm_M_tree_s : Cond.selects mi_M_tree.1.cls mi_M_tree.1 mi_M_tree.1 ∈ bt_gw := bt_gin (bt_tin5 (List.mem_of_getElem? (i := 141) (by decide +kernel))) rfl
theorem bv_X_17 : bt_lkV "BellTreesLaw" 17 mi_M_tree 2 9 := ⟨⟨1, bt_T9, 53, rfl, rfl, vm_M_tree⟩, bt_gin (bt_tin5 (List.mem_of_getElem? (i := 139) (by decide +kernel))) rfl, vm_M_tree_k, vm_M_tree_s⟩
theorem vm_B_trees : bt_lkM mi_B_trees 3 := ⟨bt_gin (bt_tin2 (List.mem_of_getElem? (i := 52) (by decide +kernel))) rfl, bt_gin (bt_tin1 (List.mem_of_getElem? (i := 1) (by decide +kernel))) rfl, ⟨by decide +kernel, by decide +kernel, by decide +kernel⟩, by decide +kernel⟩
theorem vm_B_trees_k : Cond.instanceMethod mi_B_trees.1 ∈ bt_gw := bt_gin (bt_tin2 (List.mem_of_getElem? (i := 50) (by decide +kernel))) rfl
theorem vm_B_trees_s : Cond.selects mi_B_trees.1.cls mi_B_trees.1 mi_B_trees.1 ∈ bt_gw := bt_gin (bt_tin2 (List.mem_of_getElem? (i := 51) (by decide +kernel))) rfl
theorem bv_X_18 : bt_lkV "BellTreesLaw" 18 mi_B_trees 4 0 := ⟨⟨3, bt_T0, 9, rfl, rfl, vm_B_trees⟩, bt_gin (bt_tin2 (List.mem_of_getElem? (i := 49) (by decide +kernel))) rfl, vm_B_trees_k, vm_B_trees_s⟩
theorem vm_M_trees : bt_lkM mi_M_trees 3 := ⟨bt_gin (bt_tin5 (List.mem_of_getElem? (i := 153) (by decide +kernel))) rfl, bt_gin (bt_tin1 (List.mem_of_getElem? (i := 11) (by decide +kernel))) rfl, ⟨by decide +kernel, by decide +kernel, by decide +kernel⟩, by decide +kernel⟩
theorem vm_M_trees_k : Cond.instanceMethod mi_M_trees.1 ∈ bt_gw := bt_gin (bt_tin5 (List.mem_of_getElem? (i := 151) (by decide +kernel))) rfl
theorem vm_M_trees_s : Cond.selects mi_M_trees.1.cls mi_M_trees.1 mi_M_trees.1 ∈ bt_gw := bt_gin (bt_tin5 (List.mem_of_getElem? (i := 152) (by decide +kernel))) rfl
theorem bv_X_22 : bt_lkV "BellTreesLaw" 22 mi_M_trees 4 9 := ⟨⟨3, bt_T9, 53, rfl, rfl, vm_M_trees⟩, bt_gin (bt_tin5 (List.mem_of_getElem? (i := 150) (by decide +kernel))) rfl, vm_M_trees_k, vm_M_trees_s⟩
theorem vm_B_path : bt_lkM mi_B_path 1 := ⟨bt_gin (bt_tin2 (List.mem_of_getElem? (i := 89) (by decide +kernel))) rfl, bt_gin (bt_tin1 (List.mem_of_getElem? (i := 1) (by decide +kernel))) rfl, ⟨by decide +kernel, by decide +kernel, by decide +kernel⟩, by decide +kernel⟩
theorem vm_B_path_k : Cond.instanceMethod mi_B_path.1 ∈ bt_gw := bt_gin (bt_tin2 (List.mem_of_getElem? (i := 87) (by decide +kernel))) rfl
theorem vm_B_path_s : Cond.selects mi_B_path.1.cls mi_B_path.1 mi_B_path.1 ∈ bt_gw := bt_gin (bt_tin2 (List.mem_of_getElem? (i := 88) (by decide +kernel))) rfl
theorem bv_X_23 : bt_lkV "BellTreesLaw" 23 mi_B_path 2 0 := ⟨⟨1, bt_T0, 9, rfl, rfl, vm_B_path⟩, bt_gin (bt_tin2 (List.mem_of_getElem? (i := 86) (by decide +kernel))) rfl, vm_B_path_k, vm_B_path_s⟩
theorem vm_M_path : bt_lkM mi_M_path 1 := ⟨bt_gin (bt_tin5 (List.mem_of_getElem? (i := 161) (by decide +kernel))) rfl, bt_gin (bt_tin1 (List.mem_of_getElem? (i := 11) (by decide +kernel))) rfl, ⟨by decide +kernel, by decide +kernel, by decide +kernel⟩, by decide +kernel⟩
theorem vm_M_path_k : Cond.instanceMethod mi_M_path.1 ∈ bt_gw := bt_gin (bt_tin5 (List.mem_of_getElem? (i := 159) (by decide +kernel))) rfl
theorem vm_M_path_s : Cond.selects mi_M_path.1.cls mi_M_path.1 mi_M_path.1 ∈ bt_gw := bt_gin (bt_tin5 (List.mem_of_getElem? (i := 160) (by decide +kernel))) rfl
theorem bv_X_26 : bt_lkV "BellTreesLaw" 26 mi_M_path 2 9 := ⟨⟨1, bt_T9, 53, rfl, rfl, vm_M_path⟩, bt_gin (bt_tin5 (List.mem_of_getElem? (i := 158) (by decide +kernel))) rfl, vm_M_path_k, vm_M_path_s⟩
theorem vm_B_mend : bt_lkM mi_B_mend 3 := ⟨bt_gin (bt_tin2 (List.mem_of_getElem? (i := 101) (by decide +kernel))) rfl, bt_gin (bt_tin1 (List.mem_of_getElem? (i := 1) (by decide +kernel))) rfl, ⟨by decide +kernel, by decide +kernel, by decide +kernel⟩, by decide +kernel⟩
theorem vm_B_mend_k : Cond.instanceMethod mi_B_mend.1 ∈ bt_gw := bt_gin (bt_tin2 (List.mem_of_getElem? (i := 99) (by decide +kernel))) rfl
theorem vm_B_mend_s : Cond.selects mi_B_mend.1.cls mi_B_mend.1 mi_B_mend.1 ∈ bt_gw := bt_gin (bt_tin2 (List.mem_of_getElem? (i := 100) (by decide +kernel))) rfl
theorem bv_X_27 : bt_lkV "BellTreesLaw" 27 mi_B_mend 4 0 := ⟨⟨3, bt_T0, 9, rfl, rfl, vm_B_mend⟩, bt_gin (bt_tin2 (List.mem_of_getElem? (i := 98) (by decide +kernel))) rfl, vm_B_mend_k, vm_B_mend_s⟩
theorem vm_M_mend : bt_lkM mi_M_mend 3 := ⟨bt_gin (bt_tin5 (List.mem_of_getElem? (i := 185) (by decide +kernel))) rfl, bt_gin (bt_tin1 (List.mem_of_getElem? (i := 11) (by decide +kernel))) rfl, ⟨by decide +kernel, by decide +kernel, by decide +kernel⟩, by decide +kernel⟩
theorem vm_M_mend_k : Cond.instanceMethod mi_M_mend.1 ∈ bt_gw := bt_gin (bt_tin5 (List.mem_of_getElem? (i := 183) (by decide +kernel))) rfl
theorem vm_M_mend_s : Cond.selects mi_M_mend.1.cls mi_M_mend.1 mi_M_mend.1 ∈ bt_gw := bt_gin (bt_tin5 (List.mem_of_getElem? (i := 184) (by decide +kernel))) rfl
theorem bv_X_30 : bt_lkV "BellTreesLaw" 30 mi_M_mend 4 9 := ⟨⟨3, bt_T9, 53, rfl, rfl, vm_M_mend⟩, bt_gin (bt_tin5 (List.mem_of_getElem? (i := 182) (by decide +kernel))) rfl, vm_M_mend_k, vm_M_mend_s⟩
theorem vm_B_of : bt_lkM mi_B_of 2 := ⟨bt_gin (bt_tin2 (List.mem_of_getElem? (i := 122) (by decide +kernel))) rfl, bt_gin (bt_tin1 (List.mem_of_getElem? (i := 1) (by decide +kernel))) rfl, ⟨by decide +kernel, by decide +kernel, by decide +kernel⟩, by decide +kernel⟩
theorem vm_B_of_k : Cond.instanceMethod mi_B_of.1 ∈ bt_gw := bt_gin (bt_tin2 (List.mem_of_getElem? (i := 120) (by decide +kernel))) rfl
theorem vm_B_of_s : Cond.selects mi_B_of.1.cls mi_B_of.1 mi_B_of.1 ∈ bt_gw := bt_gin (bt_tin2 (List.mem_of_getElem? (i := 121) (by decide +kernel))) rfl
theorem bv_X_31 : bt_lkV "BellTreesLaw" 31 mi_B_of 3 0 := ⟨⟨2, bt_T0, 9, rfl, rfl, vm_B_of⟩, bt_gin (bt_tin2 (List.mem_of_getElem? (i := 119) (by decide +kernel))) rfl, vm_B_of_k, vm_B_of_s⟩
theorem vm_M_of : bt_lkM mi_M_of 2 := ⟨bt_gin (bt_tin5 (List.mem_of_getElem? (i := 207) (by decide +kernel))) rfl, bt_gin (bt_tin1 (List.mem_of_getElem? (i := 11) (by decide +kernel))) rfl, ⟨by decide +kernel, by decide +kernel, by decide +kernel⟩, by decide +kernel⟩
theorem vm_M_of_k : Cond.instanceMethod mi_M_of.1 ∈ bt_gw := bt_gin (bt_tin5 (List.mem_of_getElem? (i := 205) (by decide +kernel))) rfl
theorem vm_M_of_s : Cond.selects mi_M_of.1.cls mi_M_of.1 mi_M_of.1 ∈ bt_gw := bt_gin (bt_tin5 (List.mem_of_getElem? (i := 206) (by decide +kernel))) rfl
theorem bv_X_35 : bt_lkV "BellTreesLaw" 35 mi_M_of 3 9 := ⟨⟨2, bt_T9, 53, rfl, rfl, vm_M_of⟩, bt_gin (bt_tin5 (List.mem_of_getElem? (i := 204) (by decide +kernel))) rfl, vm_M_of_k, vm_M_of_s⟩
theorem vm_B_feed : bt_lkM mi_B_feed 1 := ⟨bt_gin (bt_tin2 (List.mem_of_getElem? (i := 148) (by decide +kernel))) rfl, bt_gin (bt_tin1 (List.mem_of_getElem? (i := 1) (by decide +kernel))) rfl, ⟨by decide +kernel, by decide +kernel, by decide +kernel⟩, by decide +kernel⟩
theorem vm_B_feed_k : Cond.instanceMethod mi_B_feed.1 ∈ bt_gw := bt_gin (bt_tin2 (List.mem_of_getElem? (i := 146) (by decide +kernel))) rfl
theorem vm_B_feed_s : Cond.selects mi_B_feed.1.cls mi_B_feed.1 mi_B_feed.1 ∈ bt_gw := bt_gin (bt_tin2 (List.mem_of_getElem? (i := 147) (by decide +kernel))) rfl
theorem bv_X_36 : bt_lkV "BellTreesLaw" 36 mi_B_feed 2 0 := ⟨⟨1, bt_T0, 9, rfl, rfl, vm_B_feed⟩, bt_gin (bt_tin2 (List.mem_of_getElem? (i := 145) (by decide +kernel))) rfl, vm_B_feed_k, vm_B_feed_s⟩
theorem vm_M_feed : bt_lkM mi_M_feed 1 := ⟨bt_gin (bt_tin5 (List.mem_of_getElem? (i := 215) (by decide +kernel))) rfl, bt_gin (bt_tin1 (List.mem_of_getElem? (i := 11) (by decide +kernel))) rfl, ⟨by decide +kernel, by decide +kernel, by decide +kernel⟩, by decide +kernel⟩
theorem vm_M_feed_k : Cond.instanceMethod mi_M_feed.1 ∈ bt_gw := bt_gin (bt_tin5 (List.mem_of_getElem? (i := 213) (by decide +kernel))) rfl
theorem vm_M_feed_s : Cond.selects mi_M_feed.1.cls mi_M_feed.1 mi_M_feed.1 ∈ bt_gw := bt_gin (bt_tin5 (List.mem_of_getElem? (i := 214) (by decide +kernel))) rfl
theorem bv_X_39 : bt_lkV "BellTreesLaw" 39 mi_M_feed 2 9 := ⟨⟨1, bt_T9, 53, rfl, rfl, vm_M_feed⟩, bt_gin (bt_tin5 (List.mem_of_getElem? (i := 212) (by decide +kernel))) rfl, vm_M_feed_k, vm_M_feed_s⟩
theorem vm_B_law : bt_lkM mi_B_law 0 := ⟨bt_gin (bt_tin2 (List.mem_of_getElem? (i := 156) (by decide +kernel))) rfl, bt_gin (bt_tin1 (List.mem_of_getElem? (i := 1) (by decide +kernel))) rfl, ⟨by decide +kernel, by decide +kernel, by decide +kernel⟩, by decide +kernel⟩
theorem vm_B_law_k : Cond.instanceMethod mi_B_law.1 ∈ bt_gw := bt_gin (bt_tin2 (List.mem_of_getElem? (i := 154) (by decide +kernel))) rfl
theorem vm_B_law_s : Cond.selects mi_B_law.1.cls mi_B_law.1 mi_B_law.1 ∈ bt_gw := bt_gin (bt_tin2 (List.mem_of_getElem? (i := 155) (by decide +kernel))) rfl
theorem bv_X_40 : bt_lkV "BellTreesLaw" 40 mi_B_law 1 0 := ⟨⟨0, bt_T0, 9, rfl, rfl, vm_B_law⟩, bt_gin (bt_tin2 (List.mem_of_getElem? (i := 153) (by decide +kernel))) rfl, vm_B_law_k, vm_B_law_s⟩
theorem vm_M_law : bt_lkM mi_M_law 0 := ⟨bt_gin (bt_tin5 (List.mem_of_getElem? (i := 219) (by decide +kernel))) rfl, bt_gin (bt_tin1 (List.mem_of_getElem? (i := 11) (by decide +kernel))) rfl, ⟨by decide +kernel, by decide +kernel, by decide +kernel⟩, by decide +kernel⟩
theorem vm_M_law_k : Cond.instanceMethod mi_M_law.1 ∈ bt_gw := bt_gin (bt_tin5 (List.mem_of_getElem? (i := 217) (by decide +kernel))) rfl
theorem vm_M_law_s : Cond.selects mi_M_law.1.cls mi_M_law.1 mi_M_law.1 ∈ bt_gw := bt_gin (bt_tin5 (List.mem_of_getElem? (i := 218) (by decide +kernel))) rfl
theorem bv_X_44 : bt_lkV "BellTreesLaw" 44 mi_M_law 1 9 := ⟨⟨0, bt_T9, 53, rfl, rfl, vm_M_law⟩, bt_gin (bt_tin5 (List.mem_of_getElem? (i := 216) (by decide +kernel))) rfl, vm_M_law_k, vm_M_law_s⟩
theorem vm_B_sound : bt_lkM mi_B_sound 3 := ⟨bt_gin (bt_tin2 (List.mem_of_getElem? (i := 203) (by decide +kernel))) rfl, bt_gin (bt_tin1 (List.mem_of_getElem? (i := 1) (by decide +kernel))) rfl, ⟨by decide +kernel, by decide +kernel, by decide +kernel⟩, by decide +kernel⟩
theorem vm_B_sound_k : Cond.instanceMethod mi_B_sound.1 ∈ bt_gw := bt_gin (bt_tin2 (List.mem_of_getElem? (i := 201) (by decide +kernel))) rfl
theorem vm_B_sound_s : Cond.selects mi_B_sound.1.cls mi_B_sound.1 mi_B_sound.1 ∈ bt_gw := bt_gin (bt_tin2 (List.mem_of_getElem? (i := 202) (by decide +kernel))) rfl
theorem bv_X_45 : bt_lkV "BellTreesLaw" 45 mi_B_sound 4 0 := ⟨⟨3, bt_T0, 9, rfl, rfl, vm_B_sound⟩, bt_gin (bt_tin2 (List.mem_of_getElem? (i := 200) (by decide +kernel))) rfl, vm_B_sound_k, vm_B_sound_s⟩
theorem vm_M_sound : bt_lkM mi_M_sound 3 := ⟨bt_gin (bt_tin6 (List.mem_of_getElem? (i := 38) (by decide +kernel))) rfl, bt_gin (bt_tin1 (List.mem_of_getElem? (i := 11) (by decide +kernel))) rfl, ⟨by decide +kernel, by decide +kernel, by decide +kernel⟩, by decide +kernel⟩
theorem vm_M_sound_k : Cond.instanceMethod mi_M_sound.1 ∈ bt_gw := bt_gin (bt_tin6 (List.mem_of_getElem? (i := 36) (by decide +kernel))) rfl
theorem vm_M_sound_s : Cond.selects mi_M_sound.1.cls mi_M_sound.1 mi_M_sound.1 ∈ bt_gw := bt_gin (bt_tin6 (List.mem_of_getElem? (i := 37) (by decide +kernel))) rfl
theorem bv_X_48 : bt_lkV "BellTreesLaw" 48 mi_M_sound 4 9 := ⟨⟨3, bt_T9, 53, rfl, rfl, vm_M_sound⟩, bt_gin (bt_tin6 (List.mem_of_getElem? (i := 35) (by decide +kernel))) rfl, vm_M_sound_k, vm_M_sound_s⟩
theorem vm_B_fits : bt_lkM mi_B_fits 2 := ⟨bt_gin (bt_tin3 (List.mem_of_getElem? (i := 27) (by decide +kernel))) rfl, bt_gin (bt_tin1 (List.mem_of_getElem? (i := 1) (by decide +kernel))) rfl, ⟨by decide +kernel, by decide +kernel, by decide +kernel⟩, by decide +kernel⟩
theorem vm_B_fits_k : Cond.instanceMethod mi_B_fits.1 ∈ bt_gw := bt_gin (bt_tin3 (List.mem_of_getElem? (i := 25) (by decide +kernel))) rfl
theorem vm_B_fits_s : Cond.selects mi_B_fits.1.cls mi_B_fits.1 mi_B_fits.1 ∈ bt_gw := bt_gin (bt_tin3 (List.mem_of_getElem? (i := 26) (by decide +kernel))) rfl
theorem bv_X_49 : bt_lkV "BellTreesLaw" 49 mi_B_fits 3 0 := ⟨⟨2, bt_T0, 9, rfl, rfl, vm_B_fits⟩, bt_gin (bt_tin3 (List.mem_of_getElem? (i := 24) (by decide +kernel))) rfl, vm_B_fits_k, vm_B_fits_s⟩
theorem vm_M_fits : bt_lkM mi_M_fits 2 := ⟨bt_gin (bt_tin6 (List.mem_of_getElem? (i := 65) (by decide +kernel))) rfl, bt_gin (bt_tin1 (List.mem_of_getElem? (i := 11) (by decide +kernel))) rfl, ⟨by decide +kernel, by decide +kernel, by decide +kernel⟩, by decide +kernel⟩
theorem vm_M_fits_k : Cond.instanceMethod mi_M_fits.1 ∈ bt_gw := bt_gin (bt_tin6 (List.mem_of_getElem? (i := 63) (by decide +kernel))) rfl
theorem vm_M_fits_s : Cond.selects mi_M_fits.1.cls mi_M_fits.1 mi_M_fits.1 ∈ bt_gw := bt_gin (bt_tin6 (List.mem_of_getElem? (i := 64) (by decide +kernel))) rfl
theorem bv_X_52 : bt_lkV "BellTreesLaw" 52 mi_M_fits 3 9 := ⟨⟨2, bt_T9, 53, rfl, rfl, vm_M_fits⟩, bt_gin (bt_tin6 (List.mem_of_getElem? (i := 62) (by decide +kernel))) rfl, vm_M_fits_k, vm_M_fits_s⟩
theorem vm_B_canBe : bt_lkM mi_B_canBe 2 := ⟨bt_gin (bt_tin3 (List.mem_of_getElem? (i := 84) (by decide +kernel))) rfl, bt_gin (bt_tin1 (List.mem_of_getElem? (i := 1) (by decide +kernel))) rfl, ⟨by decide +kernel, by decide +kernel, by decide +kernel⟩, by decide +kernel⟩
theorem vm_B_canBe_k : Cond.instanceMethod mi_B_canBe.1 ∈ bt_gw := bt_gin (bt_tin3 (List.mem_of_getElem? (i := 82) (by decide +kernel))) rfl
theorem vm_B_canBe_s : Cond.selects mi_B_canBe.1.cls mi_B_canBe.1 mi_B_canBe.1 ∈ bt_gw := bt_gin (bt_tin3 (List.mem_of_getElem? (i := 83) (by decide +kernel))) rfl
theorem bv_X_53 : bt_lkV "BellTreesLaw" 53 mi_B_canBe 3 0 := ⟨⟨2, bt_T0, 9, rfl, rfl, vm_B_canBe⟩, bt_gin (bt_tin3 (List.mem_of_getElem? (i := 81) (by decide +kernel))) rfl, vm_B_canBe_k, vm_B_canBe_s⟩
theorem vm_M_canBe : bt_lkM mi_M_canBe 2 := ⟨bt_gin (bt_tin6 (List.mem_of_getElem? (i := 97) (by decide +kernel))) rfl, bt_gin (bt_tin1 (List.mem_of_getElem? (i := 11) (by decide +kernel))) rfl, ⟨by decide +kernel, by decide +kernel, by decide +kernel⟩, by decide +kernel⟩
theorem vm_M_canBe_k : Cond.instanceMethod mi_M_canBe.1 ∈ bt_gw := bt_gin (bt_tin6 (List.mem_of_getElem? (i := 95) (by decide +kernel))) rfl
theorem vm_M_canBe_s : Cond.selects mi_M_canBe.1.cls mi_M_canBe.1 mi_M_canBe.1 ∈ bt_gw := bt_gin (bt_tin6 (List.mem_of_getElem? (i := 96) (by decide +kernel))) rfl
theorem bv_X_56 : bt_lkV "BellTreesLaw" 56 mi_M_canBe 3 9 := ⟨⟨2, bt_T9, 53, rfl, rfl, vm_M_canBe⟩, bt_gin (bt_tin6 (List.mem_of_getElem? (i := 94) (by decide +kernel))) rfl, vm_M_canBe_k, vm_M_canBe_s⟩
theorem vm_B_twoAtOnce : bt_lkM mi_B_twoAtOnce 3 := ⟨bt_gin (bt_tin3 (List.mem_of_getElem? (i := 92) (by decide +kernel))) rfl, bt_gin (bt_tin1 (List.mem_of_getElem? (i := 1) (by decide +kernel))) rfl, ⟨by decide +kernel, by decide +kernel, by decide +kernel⟩, by decide +kernel⟩
theorem vm_B_twoAtOnce_k : Cond.instanceMethod mi_B_twoAtOnce.1 ∈ bt_gw := bt_gin (bt_tin3 (List.mem_of_getElem? (i := 90) (by decide +kernel))) rfl
theorem vm_B_twoAtOnce_s : Cond.selects mi_B_twoAtOnce.1.cls mi_B_twoAtOnce.1 mi_B_twoAtOnce.1 ∈ bt_gw := bt_gin (bt_tin3 (List.mem_of_getElem? (i := 91) (by decide +kernel))) rfl
theorem bv_X_57 : bt_lkV "BellTreesLaw" 57 mi_B_twoAtOnce 4 0 := ⟨⟨3, bt_T0, 9, rfl, rfl, vm_B_twoAtOnce⟩, bt_gin (bt_tin3 (List.mem_of_getElem? (i := 89) (by decide +kernel))) rfl, vm_B_twoAtOnce_k, vm_B_twoAtOnce_s⟩
theorem vm_M_twoAtOnce : bt_lkM mi_M_twoAtOnce 3 := ⟨bt_gin (bt_tin6 (List.mem_of_getElem? (i := 101) (by decide +kernel))) rfl, bt_gin (bt_tin1 (List.mem_of_getElem? (i := 11) (by decide +kernel))) rfl, ⟨by decide +kernel, by decide +kernel, by decide +kernel⟩, by decide +kernel⟩
theorem vm_M_twoAtOnce_k : Cond.instanceMethod mi_M_twoAtOnce.1 ∈ bt_gw := bt_gin (bt_tin6 (List.mem_of_getElem? (i := 99) (by decide +kernel))) rfl
theorem vm_M_twoAtOnce_s : Cond.selects mi_M_twoAtOnce.1.cls mi_M_twoAtOnce.1 mi_M_twoAtOnce.1 ∈ bt_gw := bt_gin (bt_tin6 (List.mem_of_getElem? (i := 100) (by decide +kernel))) rfl
theorem bv_X_60 : bt_lkV "BellTreesLaw" 60 mi_M_twoAtOnce 4 9 := ⟨⟨3, bt_T9, 53, rfl, rfl, vm_M_twoAtOnce⟩, bt_gin (bt_tin6 (List.mem_of_getElem? (i := 98) (by decide +kernel))) rfl, vm_M_twoAtOnce_k, vm_M_twoAtOnce_s⟩
theorem vm_B_least : bt_lkM mi_B_least 3 := ⟨bt_gin (bt_tin3 (List.mem_of_getElem? (i := 109) (by decide +kernel))) rfl, bt_gin (bt_tin1 (List.mem_of_getElem? (i := 1) (by decide +kernel))) rfl, ⟨by decide +kernel, by decide +kernel, by decide +kernel⟩, by decide +kernel⟩
theorem vm_B_least_k : Cond.instanceMethod mi_B_least.1 ∈ bt_gw := bt_gin (bt_tin3 (List.mem_of_getElem? (i := 107) (by decide +kernel))) rfl
theorem vm_B_least_s : Cond.selects mi_B_least.1.cls mi_B_least.1 mi_B_least.1 ∈ bt_gw := bt_gin (bt_tin3 (List.mem_of_getElem? (i := 108) (by decide +kernel))) rfl
theorem bv_X_61 : bt_lkV "BellTreesLaw" 61 mi_B_least 4 0 := ⟨⟨3, bt_T0, 9, rfl, rfl, vm_B_least⟩, bt_gin (bt_tin3 (List.mem_of_getElem? (i := 106) (by decide +kernel))) rfl, vm_B_least_k, vm_B_least_s⟩
theorem vm_M_least : bt_lkM mi_M_least 3 := ⟨bt_gin (bt_tin6 (List.mem_of_getElem? (i := 112) (by decide +kernel))) rfl, bt_gin (bt_tin1 (List.mem_of_getElem? (i := 11) (by decide +kernel))) rfl, ⟨by decide +kernel, by decide +kernel, by decide +kernel⟩, by decide +kernel⟩
theorem vm_M_least_k : Cond.instanceMethod mi_M_least.1 ∈ bt_gw := bt_gin (bt_tin6 (List.mem_of_getElem? (i := 110) (by decide +kernel))) rfl
theorem vm_M_least_s : Cond.selects mi_M_least.1.cls mi_M_least.1 mi_M_least.1 ∈ bt_gw := bt_gin (bt_tin6 (List.mem_of_getElem? (i := 111) (by decide +kernel))) rfl
theorem bv_X_64 : bt_lkV "BellTreesLaw" 64 mi_M_least 4 9 := ⟨⟨3, bt_T9, 53, rfl, rfl, vm_M_least⟩, bt_gin (bt_tin6 (List.mem_of_getElem? (i := 109) (by decide +kernel))) rfl, vm_M_least_k, vm_M_least_s⟩
theorem vm_B_gone : bt_lkM mi_B_gone 2 := ⟨bt_gin (bt_tin3 (List.mem_of_getElem? (i := 129) (by decide +kernel))) rfl, bt_gin (bt_tin1 (List.mem_of_getElem? (i := 1) (by decide +kernel))) rfl, ⟨by decide +kernel, by decide +kernel, by decide +kernel⟩, by decide +kernel⟩
theorem vm_B_gone_k : Cond.instanceMethod mi_B_gone.1 ∈ bt_gw := bt_gin (bt_tin3 (List.mem_of_getElem? (i := 127) (by decide +kernel))) rfl
theorem vm_B_gone_s : Cond.selects mi_B_gone.1.cls mi_B_gone.1 mi_B_gone.1 ∈ bt_gw := bt_gin (bt_tin3 (List.mem_of_getElem? (i := 128) (by decide +kernel))) rfl
theorem bv_X_65 : bt_lkV "BellTreesLaw" 65 mi_B_gone 3 0 := ⟨⟨2, bt_T0, 9, rfl, rfl, vm_B_gone⟩, bt_gin (bt_tin3 (List.mem_of_getElem? (i := 126) (by decide +kernel))) rfl, vm_B_gone_k, vm_B_gone_s⟩
theorem vm_M_gone : bt_lkM mi_M_gone 2 := ⟨bt_gin (bt_tin6 (List.mem_of_getElem? (i := 125) (by decide +kernel))) rfl, bt_gin (bt_tin1 (List.mem_of_getElem? (i := 11) (by decide +kernel))) rfl, ⟨by decide +kernel, by decide +kernel, by decide +kernel⟩, by decide +kernel⟩
theorem vm_M_gone_k : Cond.instanceMethod mi_M_gone.1 ∈ bt_gw := bt_gin (bt_tin6 (List.mem_of_getElem? (i := 123) (by decide +kernel))) rfl
theorem vm_M_gone_s : Cond.selects mi_M_gone.1.cls mi_M_gone.1 mi_M_gone.1 ∈ bt_gw := bt_gin (bt_tin6 (List.mem_of_getElem? (i := 124) (by decide +kernel))) rfl
theorem bv_X_68 : bt_lkV "BellTreesLaw" 68 mi_M_gone 3 9 := ⟨⟨2, bt_T9, 53, rfl, rfl, vm_M_gone⟩, bt_gin (bt_tin6 (List.mem_of_getElem? (i := 122) (by decide +kernel))) rfl, vm_M_gone_k, vm_M_gone_s⟩
theorem vm_B_apart : bt_lkM mi_B_apart 2 := ⟨bt_gin (bt_tin3 (List.mem_of_getElem? (i := 160) (by decide +kernel))) rfl, bt_gin (bt_tin1 (List.mem_of_getElem? (i := 1) (by decide +kernel))) rfl, ⟨by decide +kernel, by decide +kernel, by decide +kernel⟩, by decide +kernel⟩
theorem vm_B_apart_k : Cond.instanceMethod mi_B_apart.1 ∈ bt_gw := bt_gin (bt_tin3 (List.mem_of_getElem? (i := 158) (by decide +kernel))) rfl
theorem vm_B_apart_s : Cond.selects mi_B_apart.1.cls mi_B_apart.1 mi_B_apart.1 ∈ bt_gw := bt_gin (bt_tin3 (List.mem_of_getElem? (i := 159) (by decide +kernel))) rfl
theorem bv_X_69 : bt_lkV "BellTreesLaw" 69 mi_B_apart 3 0 := ⟨⟨2, bt_T0, 9, rfl, rfl, vm_B_apart⟩, bt_gin (bt_tin3 (List.mem_of_getElem? (i := 157) (by decide +kernel))) rfl, vm_B_apart_k, vm_B_apart_s⟩
theorem vm_M_apart : bt_lkM mi_M_apart 2 := ⟨bt_gin (bt_tin6 (List.mem_of_getElem? (i := 149) (by decide +kernel))) rfl, bt_gin (bt_tin1 (List.mem_of_getElem? (i := 11) (by decide +kernel))) rfl, ⟨by decide +kernel, by decide +kernel, by decide +kernel⟩, by decide +kernel⟩
theorem vm_M_apart_k : Cond.instanceMethod mi_M_apart.1 ∈ bt_gw := bt_gin (bt_tin6 (List.mem_of_getElem? (i := 147) (by decide +kernel))) rfl
theorem vm_M_apart_s : Cond.selects mi_M_apart.1.cls mi_M_apart.1 mi_M_apart.1 ∈ bt_gw := bt_gin (bt_tin6 (List.mem_of_getElem? (i := 148) (by decide +kernel))) rfl
theorem bv_X_72 : bt_lkV "BellTreesLaw" 72 mi_M_apart 3 9 := ⟨⟨2, bt_T9, 53, rfl, rfl, vm_M_apart⟩, bt_gin (bt_tin6 (List.mem_of_getElem? (i := 146) (by decide +kernel))) rfl, vm_M_apart_k, vm_M_apart_s⟩
theorem vm_B_enough : bt_lkM mi_B_enough 2 := ⟨bt_gin (bt_tin3 (List.mem_of_getElem? (i := 168) (by decide +kernel))) rfl, bt_gin (bt_tin1 (List.mem_of_getElem? (i := 1) (by decide +kernel))) rfl, ⟨by decide +kernel, by decide +kernel, by decide +kernel⟩, by decide +kernel⟩
theorem vm_B_enough_k : Cond.instanceMethod mi_B_enough.1 ∈ bt_gw := bt_gin (bt_tin3 (List.mem_of_getElem? (i := 166) (by decide +kernel))) rfl
theorem vm_B_enough_s : Cond.selects mi_B_enough.1.cls mi_B_enough.1 mi_B_enough.1 ∈ bt_gw := bt_gin (bt_tin3 (List.mem_of_getElem? (i := 167) (by decide +kernel))) rfl
theorem bv_X_73 : bt_lkV "BellTreesLaw" 73 mi_B_enough 3 0 := ⟨⟨2, bt_T0, 9, rfl, rfl, vm_B_enough⟩, bt_gin (bt_tin3 (List.mem_of_getElem? (i := 165) (by decide +kernel))) rfl, vm_B_enough_k, vm_B_enough_s⟩
theorem vm_M_enough : bt_lkM mi_M_enough 2 := ⟨bt_gin (bt_tin6 (List.mem_of_getElem? (i := 157) (by decide +kernel))) rfl, bt_gin (bt_tin1 (List.mem_of_getElem? (i := 11) (by decide +kernel))) rfl, ⟨by decide +kernel, by decide +kernel, by decide +kernel⟩, by decide +kernel⟩
theorem vm_M_enough_k : Cond.instanceMethod mi_M_enough.1 ∈ bt_gw := bt_gin (bt_tin6 (List.mem_of_getElem? (i := 155) (by decide +kernel))) rfl
theorem vm_M_enough_s : Cond.selects mi_M_enough.1.cls mi_M_enough.1 mi_M_enough.1 ∈ bt_gw := bt_gin (bt_tin6 (List.mem_of_getElem? (i := 156) (by decide +kernel))) rfl
theorem bv_X_76 : bt_lkV "BellTreesLaw" 76 mi_M_enough 3 9 := ⟨⟨2, bt_T9, 53, rfl, rfl, vm_M_enough⟩, bt_gin (bt_tin6 (List.mem_of_getElem? (i := 154) (by decide +kernel))) rfl, vm_M_enough_k, vm_M_enough_s⟩
theorem vm_B_tuned : bt_lkM mi_B_tuned 1 := ⟨bt_gin (bt_tin3 (List.mem_of_getElem? (i := 190) (by decide +kernel))) rfl, bt_gin (bt_tin1 (List.mem_of_getElem? (i := 1) (by decide +kernel))) rfl, ⟨by decide +kernel, by decide +kernel, by decide +kernel⟩, by decide +kernel⟩
theorem vm_B_tuned_k : Cond.instanceMethod mi_B_tuned.1 ∈ bt_gw := bt_gin (bt_tin3 (List.mem_of_getElem? (i := 188) (by decide +kernel))) rfl
theorem vm_B_tuned_s : Cond.selects mi_B_tuned.1.cls mi_B_tuned.1 mi_B_tuned.1 ∈ bt_gw := bt_gin (bt_tin3 (List.mem_of_getElem? (i := 189) (by decide +kernel))) rfl
theorem bv_X_77 : bt_lkV "BellTreesLaw" 77 mi_B_tuned 2 0 := ⟨⟨1, bt_T0, 9, rfl, rfl, vm_B_tuned⟩, bt_gin (bt_tin3 (List.mem_of_getElem? (i := 187) (by decide +kernel))) rfl, vm_B_tuned_k, vm_B_tuned_s⟩
theorem vm_M_tuned : bt_lkM mi_M_tuned 1 := ⟨bt_gin (bt_tin6 (List.mem_of_getElem? (i := 176) (by decide +kernel))) rfl, bt_gin (bt_tin1 (List.mem_of_getElem? (i := 11) (by decide +kernel))) rfl, ⟨by decide +kernel, by decide +kernel, by decide +kernel⟩, by decide +kernel⟩
theorem vm_M_tuned_k : Cond.instanceMethod mi_M_tuned.1 ∈ bt_gw := bt_gin (bt_tin6 (List.mem_of_getElem? (i := 174) (by decide +kernel))) rfl
theorem vm_M_tuned_s : Cond.selects mi_M_tuned.1.cls mi_M_tuned.1 mi_M_tuned.1 ∈ bt_gw := bt_gin (bt_tin6 (List.mem_of_getElem? (i := 175) (by decide +kernel))) rfl
theorem bv_X_80 : bt_lkV "BellTreesLaw" 80 mi_M_tuned 2 9 := ⟨⟨1, bt_T9, 53, rfl, rfl, vm_M_tuned⟩, bt_gin (bt_tin6 (List.mem_of_getElem? (i := 173) (by decide +kernel))) rfl, vm_M_tuned_k, vm_M_tuned_s⟩
theorem vm_B_drawn : bt_lkM mi_B_drawn 3 := ⟨bt_gin (bt_tin3 (List.mem_of_getElem? (i := 204) (by decide +kernel))) rfl, bt_gin (bt_tin1 (List.mem_of_getElem? (i := 1) (by decide +kernel))) rfl, ⟨by decide +kernel, by decide +kernel, by decide +kernel⟩, by decide +kernel⟩
theorem vm_B_drawn_k : Cond.instanceMethod mi_B_drawn.1 ∈ bt_gw := bt_gin (bt_tin3 (List.mem_of_getElem? (i := 202) (by decide +kernel))) rfl
theorem vm_B_drawn_s : Cond.selects mi_B_drawn.1.cls mi_B_drawn.1 mi_B_drawn.1 ∈ bt_gw := bt_gin (bt_tin3 (List.mem_of_getElem? (i := 203) (by decide +kernel))) rfl
theorem bv_X_81 : bt_lkV "BellTreesLaw" 81 mi_B_drawn 4 0 := ⟨⟨3, bt_T0, 9, rfl, rfl, vm_B_drawn⟩, bt_gin (bt_tin3 (List.mem_of_getElem? (i := 201) (by decide +kernel))) rfl, vm_B_drawn_k, vm_B_drawn_s⟩
theorem vm_M_drawn : bt_lkM mi_M_drawn 3 := ⟨bt_gin (bt_tin6 (List.mem_of_getElem? (i := 184) (by decide +kernel))) rfl, bt_gin (bt_tin1 (List.mem_of_getElem? (i := 11) (by decide +kernel))) rfl, ⟨by decide +kernel, by decide +kernel, by decide +kernel⟩, by decide +kernel⟩
theorem vm_M_drawn_k : Cond.instanceMethod mi_M_drawn.1 ∈ bt_gw := bt_gin (bt_tin6 (List.mem_of_getElem? (i := 182) (by decide +kernel))) rfl
theorem vm_M_drawn_s : Cond.selects mi_M_drawn.1.cls mi_M_drawn.1 mi_M_drawn.1 ∈ bt_gw := bt_gin (bt_tin6 (List.mem_of_getElem? (i := 183) (by decide +kernel))) rfl
theorem bv_X_84 : bt_lkV "BellTreesLaw" 84 mi_M_drawn 4 9 := ⟨⟨3, bt_T9, 53, rfl, rfl, vm_M_drawn⟩, bt_gin (bt_tin6 (List.mem_of_getElem? (i := 181) (by decide +kernel))) rfl, vm_M_drawn_k, vm_M_drawn_s⟩
theorem vm_B_years : bt_lkM mi_B_years 2 := ⟨bt_gin (bt_tin3 (List.mem_of_getElem? (i := 225) (by decide +kernel))) rfl, bt_gin (bt_tin1 (List.mem_of_getElem? (i := 1) (by decide +kernel))) rfl, ⟨by decide +kernel, by decide +kernel, by decide +kernel⟩, by decide +kernel⟩
theorem vm_B_years_k : Cond.instanceMethod mi_B_years.1 ∈ bt_gw := bt_gin (bt_tin3 (List.mem_of_getElem? (i := 223) (by decide +kernel))) rfl
theorem vm_B_years_s : Cond.selects mi_B_years.1.cls mi_B_years.1 mi_B_years.1 ∈ bt_gw := bt_gin (bt_tin3 (List.mem_of_getElem? (i := 224) (by decide +kernel))) rfl
theorem bv_X_85 : bt_lkV "BellTreesLaw" 85 mi_B_years 3 0 := ⟨⟨2, bt_T0, 9, rfl, rfl, vm_B_years⟩, bt_gin (bt_tin3 (List.mem_of_getElem? (i := 222) (by decide +kernel))) rfl, vm_B_years_k, vm_B_years_s⟩
theorem vm_M_years : bt_lkM mi_M_years 2 := ⟨bt_gin (bt_tin6 (List.mem_of_getElem? (i := 197) (by decide +kernel))) rfl, bt_gin (bt_tin1 (List.mem_of_getElem? (i := 11) (by decide +kernel))) rfl, ⟨by decide +kernel, by decide +kernel, by decide +kernel⟩, by decide +kernel⟩
theorem vm_M_years_k : Cond.instanceMethod mi_M_years.1 ∈ bt_gw := bt_gin (bt_tin6 (List.mem_of_getElem? (i := 195) (by decide +kernel))) rfl
theorem vm_M_years_s : Cond.selects mi_M_years.1.cls mi_M_years.1 mi_M_years.1 ∈ bt_gw := bt_gin (bt_tin6 (List.mem_of_getElem? (i := 196) (by decide +kernel))) rfl
theorem bv_X_88 : bt_lkV "BellTreesLaw" 88 mi_M_years 3 9 := ⟨⟨2, bt_T9, 53, rfl, rfl, vm_M_years⟩, bt_gin (bt_tin6 (List.mem_of_getElem? (i := 194) (by decide +kernel))) rfl, vm_M_years_k, vm_M_years_s⟩
theorem vm_B_walk : bt_lkM mi_B_walk 2 := ⟨bt_gin (bt_tin3 (List.mem_of_getElem? (i := 238) (by decide +kernel))) rfl, bt_gin (bt_tin1 (List.mem_of_getElem? (i := 1) (by decide +kernel))) rfl, ⟨by decide +kernel, by decide +kernel, by decide +kernel⟩, by decide +kernel⟩
theorem vm_B_walk_k : Cond.instanceMethod mi_B_walk.1 ∈ bt_gw := bt_gin (bt_tin3 (List.mem_of_getElem? (i := 236) (by decide +kernel))) rfl
theorem vm_B_walk_s : Cond.selects mi_B_walk.1.cls mi_B_walk.1 mi_B_walk.1 ∈ bt_gw := bt_gin (bt_tin3 (List.mem_of_getElem? (i := 237) (by decide +kernel))) rfl
theorem bv_X_89 : bt_lkV "BellTreesLaw" 89 mi_B_walk 3 0 := ⟨⟨2, bt_T0, 9, rfl, rfl, vm_B_walk⟩, bt_gin (bt_tin3 (List.mem_of_getElem? (i := 235) (by decide +kernel))) rfl, vm_B_walk_k, vm_B_walk_s⟩
theorem vm_M_walk : bt_lkM mi_M_walk 2 := ⟨bt_gin (bt_tin6 (List.mem_of_getElem? (i := 201) (by decide +kernel))) rfl, bt_gin (bt_tin1 (List.mem_of_getElem? (i := 11) (by decide +kernel))) rfl, ⟨by decide +kernel, by decide +kernel, by decide +kernel⟩, by decide +kernel⟩
theorem vm_M_walk_k : Cond.instanceMethod mi_M_walk.1 ∈ bt_gw := bt_gin (bt_tin6 (List.mem_of_getElem? (i := 199) (by decide +kernel))) rfl
theorem vm_M_walk_s : Cond.selects mi_M_walk.1.cls mi_M_walk.1 mi_M_walk.1 ∈ bt_gw := bt_gin (bt_tin6 (List.mem_of_getElem? (i := 200) (by decide +kernel))) rfl
theorem bv_X_92 : bt_lkV "BellTreesLaw" 92 mi_M_walk 3 9 := ⟨⟨2, bt_T9, 53, rfl, rfl, vm_M_walk⟩, bt_gin (bt_tin6 (List.mem_of_getElem? (i := 198) (by decide +kernel))) rfl, vm_M_walk_k, vm_M_walk_s⟩
theorem vm_B_judge : bt_lkM mi_B_judge 2 := ⟨bt_gin (bt_tin4 (List.mem_of_getElem? (i := 15) (by decide +kernel))) rfl, bt_gin (bt_tin1 (List.mem_of_getElem? (i := 1) (by decide +kernel))) rfl, ⟨by decide +kernel, by decide +kernel, by decide +kernel⟩, by decide +kernel⟩
theorem vm_B_judge_k : Cond.instanceMethod mi_B_judge.1 ∈ bt_gw := bt_gin (bt_tin4 (List.mem_of_getElem? (i := 13) (by decide +kernel))) rfl
theorem vm_B_judge_s : Cond.selects mi_B_judge.1.cls mi_B_judge.1 mi_B_judge.1 ∈ bt_gw := bt_gin (bt_tin4 (List.mem_of_getElem? (i := 14) (by decide +kernel))) rfl
theorem bv_X_93 : bt_lkV "BellTreesLaw" 93 mi_B_judge 3 0 := ⟨⟨2, bt_T0, 9, rfl, rfl, vm_B_judge⟩, bt_gin (bt_tin4 (List.mem_of_getElem? (i := 12) (by decide +kernel))) rfl, vm_B_judge_k, vm_B_judge_s⟩
theorem vm_M_judge : bt_lkM mi_M_judge 2 := ⟨bt_gin (bt_tin6 (List.mem_of_getElem? (i := 205) (by decide +kernel))) rfl, bt_gin (bt_tin1 (List.mem_of_getElem? (i := 11) (by decide +kernel))) rfl, ⟨by decide +kernel, by decide +kernel, by decide +kernel⟩, by decide +kernel⟩
theorem vm_M_judge_k : Cond.instanceMethod mi_M_judge.1 ∈ bt_gw := bt_gin (bt_tin6 (List.mem_of_getElem? (i := 203) (by decide +kernel))) rfl
theorem vm_M_judge_s : Cond.selects mi_M_judge.1.cls mi_M_judge.1 mi_M_judge.1 ∈ bt_gw := bt_gin (bt_tin6 (List.mem_of_getElem? (i := 204) (by decide +kernel))) rfl
theorem bv_X_96 : bt_lkV "BellTreesLaw" 96 mi_M_judge 3 9 := ⟨⟨2, bt_T9, 53, rfl, rfl, vm_M_judge⟩, bt_gin (bt_tin6 (List.mem_of_getElem? (i := 202) (by decide +kernel))) rfl, vm_M_judge_k, vm_M_judge_s⟩
theorem vm_B_image : bt_lkM mi_B_image 0 := ⟨bt_gin (bt_tin4 (List.mem_of_getElem? (i := 19) (by decide +kernel))) rfl, bt_gin (bt_tin1 (List.mem_of_getElem? (i := 1) (by decide +kernel))) rfl, ⟨by decide +kernel, by decide +kernel, by decide +kernel⟩, by decide +kernel⟩
theorem vm_B_image_k : Cond.instanceMethod mi_B_image.1 ∈ bt_gw := bt_gin (bt_tin4 (List.mem_of_getElem? (i := 17) (by decide +kernel))) rfl
theorem vm_B_image_s : Cond.selects mi_B_image.1.cls mi_B_image.1 mi_B_image.1 ∈ bt_gw := bt_gin (bt_tin4 (List.mem_of_getElem? (i := 18) (by decide +kernel))) rfl
theorem bv_X_97 : bt_lkV "BellTreesLaw" 97 mi_B_image 1 0 := ⟨⟨0, bt_T0, 9, rfl, rfl, vm_B_image⟩, bt_gin (bt_tin4 (List.mem_of_getElem? (i := 16) (by decide +kernel))) rfl, vm_B_image_k, vm_B_image_s⟩
theorem vm_M_image : bt_lkM mi_M_image 0 := ⟨bt_gin (bt_tin6 (List.mem_of_getElem? (i := 209) (by decide +kernel))) rfl, bt_gin (bt_tin1 (List.mem_of_getElem? (i := 11) (by decide +kernel))) rfl, ⟨by decide +kernel, by decide +kernel, by decide +kernel⟩, by decide +kernel⟩
theorem vm_M_image_k : Cond.instanceMethod mi_M_image.1 ∈ bt_gw := bt_gin (bt_tin6 (List.mem_of_getElem? (i := 207) (by decide +kernel))) rfl
theorem vm_M_image_s : Cond.selects mi_M_image.1.cls mi_M_image.1 mi_M_image.1 ∈ bt_gw := bt_gin (bt_tin6 (List.mem_of_getElem? (i := 208) (by decide +kernel))) rfl
theorem bv_X_100 : bt_lkV "BellTreesLaw" 100 mi_M_image 1 9 := ⟨⟨0, bt_T9, 53, rfl, rfl, vm_M_image⟩, bt_gin (bt_tin6 (List.mem_of_getElem? (i := 206) (by decide +kernel))) rfl, vm_M_image_k, vm_M_image_s⟩
theorem vm_B_back : bt_lkM mi_B_back 0 := ⟨bt_gin (bt_tin4 (List.mem_of_getElem? (i := 31) (by decide +kernel))) rfl, bt_gin (bt_tin1 (List.mem_of_getElem? (i := 1) (by decide +kernel))) rfl, ⟨by decide +kernel, by decide +kernel, by decide +kernel⟩, by decide +kernel⟩
theorem vm_B_back_k : Cond.instanceMethod mi_B_back.1 ∈ bt_gw := bt_gin (bt_tin4 (List.mem_of_getElem? (i := 29) (by decide +kernel))) rfl
theorem vm_B_back_s : Cond.selects mi_B_back.1.cls mi_B_back.1 mi_B_back.1 ∈ bt_gw := bt_gin (bt_tin4 (List.mem_of_getElem? (i := 30) (by decide +kernel))) rfl
theorem bv_X_101 : bt_lkV "BellTreesLaw" 101 mi_B_back 1 0 := ⟨⟨0, bt_T0, 9, rfl, rfl, vm_B_back⟩, bt_gin (bt_tin4 (List.mem_of_getElem? (i := 28) (by decide +kernel))) rfl, vm_B_back_k, vm_B_back_s⟩
theorem vm_M_back : bt_lkM mi_M_back 0 := ⟨bt_gin (bt_tin6 (List.mem_of_getElem? (i := 213) (by decide +kernel))) rfl, bt_gin (bt_tin1 (List.mem_of_getElem? (i := 11) (by decide +kernel))) rfl, ⟨by decide +kernel, by decide +kernel, by decide +kernel⟩, by decide +kernel⟩
theorem vm_M_back_k : Cond.instanceMethod mi_M_back.1 ∈ bt_gw := bt_gin (bt_tin6 (List.mem_of_getElem? (i := 211) (by decide +kernel))) rfl
theorem vm_M_back_s : Cond.selects mi_M_back.1.cls mi_M_back.1 mi_M_back.1 ∈ bt_gw := bt_gin (bt_tin6 (List.mem_of_getElem? (i := 212) (by decide +kernel))) rfl
theorem bv_X_104 : bt_lkV "BellTreesLaw" 104 mi_M_back 1 9 := ⟨⟨0, bt_T9, 53, rfl, rfl, vm_M_back⟩, bt_gin (bt_tin6 (List.mem_of_getElem? (i := 210) (by decide +kernel))) rfl, vm_M_back_k, vm_M_back_s⟩
theorem vm_B_undo : bt_lkM mi_B_undo 0 := ⟨bt_gin (bt_tin4 (List.mem_of_getElem? (i := 45) (by decide +kernel))) rfl, bt_gin (bt_tin1 (List.mem_of_getElem? (i := 1) (by decide +kernel))) rfl, ⟨by decide +kernel, by decide +kernel, by decide +kernel⟩, by decide +kernel⟩
theorem vm_B_undo_k : Cond.instanceMethod mi_B_undo.1 ∈ bt_gw := bt_gin (bt_tin4 (List.mem_of_getElem? (i := 43) (by decide +kernel))) rfl
theorem vm_B_undo_s : Cond.selects mi_B_undo.1.cls mi_B_undo.1 mi_B_undo.1 ∈ bt_gw := bt_gin (bt_tin4 (List.mem_of_getElem? (i := 44) (by decide +kernel))) rfl
theorem bv_X_105 : bt_lkV "BellTreesLaw" 105 mi_B_undo 1 0 := ⟨⟨0, bt_T0, 9, rfl, rfl, vm_B_undo⟩, bt_gin (bt_tin4 (List.mem_of_getElem? (i := 42) (by decide +kernel))) rfl, vm_B_undo_k, vm_B_undo_s⟩
theorem vm_M_undo : bt_lkM mi_M_undo 0 := ⟨bt_gin (bt_tin5 (List.mem_of_getElem? (i := 173) (by decide +kernel))) rfl, bt_gin (bt_tin1 (List.mem_of_getElem? (i := 11) (by decide +kernel))) rfl, ⟨by decide +kernel, by decide +kernel, by decide +kernel⟩, by decide +kernel⟩
theorem vm_M_undo_k : Cond.instanceMethod mi_M_undo.1 ∈ bt_gw := bt_gin (bt_tin5 (List.mem_of_getElem? (i := 171) (by decide +kernel))) rfl
theorem vm_M_undo_s : Cond.selects mi_M_undo.1.cls mi_M_undo.1 mi_M_undo.1 ∈ bt_gw := bt_gin (bt_tin5 (List.mem_of_getElem? (i := 172) (by decide +kernel))) rfl
theorem bv_X_108 : bt_lkV "BellTreesLaw" 108 mi_M_undo 1 9 := ⟨⟨0, bt_T9, 53, rfl, rfl, vm_M_undo⟩, bt_gin (bt_tin5 (List.mem_of_getElem? (i := 170) (by decide +kernel))) rfl, vm_M_undo_k, vm_M_undo_s⟩
theorem vm_B_redo : bt_lkM mi_B_redo 0 := ⟨bt_gin (bt_tin4 (List.mem_of_getElem? (i := 54) (by decide +kernel))) rfl, bt_gin (bt_tin1 (List.mem_of_getElem? (i := 1) (by decide +kernel))) rfl, ⟨by decide +kernel, by decide +kernel, by decide +kernel⟩, by decide +kernel⟩
theorem vm_B_redo_k : Cond.instanceMethod mi_B_redo.1 ∈ bt_gw := bt_gin (bt_tin4 (List.mem_of_getElem? (i := 52) (by decide +kernel))) rfl
theorem vm_B_redo_s : Cond.selects mi_B_redo.1.cls mi_B_redo.1 mi_B_redo.1 ∈ bt_gw := bt_gin (bt_tin4 (List.mem_of_getElem? (i := 53) (by decide +kernel))) rfl
theorem bv_X_109 : bt_lkV "BellTreesLaw" 109 mi_B_redo 1 0 := ⟨⟨0, bt_T0, 9, rfl, rfl, vm_B_redo⟩, bt_gin (bt_tin4 (List.mem_of_getElem? (i := 51) (by decide +kernel))) rfl, vm_B_redo_k, vm_B_redo_s⟩
theorem vm_M_redo : bt_lkM mi_M_redo 0 := ⟨bt_gin (bt_tin5 (List.mem_of_getElem? (i := 181) (by decide +kernel))) rfl, bt_gin (bt_tin1 (List.mem_of_getElem? (i := 11) (by decide +kernel))) rfl, ⟨by decide +kernel, by decide +kernel, by decide +kernel⟩, by decide +kernel⟩
theorem vm_M_redo_k : Cond.instanceMethod mi_M_redo.1 ∈ bt_gw := bt_gin (bt_tin5 (List.mem_of_getElem? (i := 179) (by decide +kernel))) rfl
theorem vm_M_redo_s : Cond.selects mi_M_redo.1.cls mi_M_redo.1 mi_M_redo.1 ∈ bt_gw := bt_gin (bt_tin5 (List.mem_of_getElem? (i := 180) (by decide +kernel))) rfl
theorem bv_X_112 : bt_lkV "BellTreesLaw" 112 mi_M_redo 1 9 := ⟨⟨0, bt_T9, 53, rfl, rfl, vm_M_redo⟩, bt_gin (bt_tin5 (List.mem_of_getElem? (i := 178) (by decide +kernel))) rfl, vm_M_redo_k, vm_M_redo_s⟩
theorem vm_B_body : bt_lkM mi_B_body 1 := ⟨bt_gin (bt_tin4 (List.mem_of_getElem? (i := 62) (by decide +kernel))) rfl, bt_gin (bt_tin1 (List.mem_of_getElem? (i := 1) (by decide +kernel))) rfl, ⟨by decide +kernel, by decide +kernel, by decide +kernel⟩, by decide +kernel⟩
theorem vm_B_body_k : Cond.instanceMethod mi_B_body.1 ∈ bt_gw := bt_gin (bt_tin4 (List.mem_of_getElem? (i := 60) (by decide +kernel))) rfl
theorem vm_B_body_s : Cond.selects mi_B_body.1.cls mi_B_body.1 mi_B_body.1 ∈ bt_gw := bt_gin (bt_tin4 (List.mem_of_getElem? (i := 61) (by decide +kernel))) rfl
theorem bv_X_113 : bt_lkV "BellTreesLaw" 113 mi_B_body 2 0 := ⟨⟨1, bt_T0, 9, rfl, rfl, vm_B_body⟩, bt_gin (bt_tin4 (List.mem_of_getElem? (i := 59) (by decide +kernel))) rfl, vm_B_body_k, vm_B_body_s⟩
theorem vm_M_body : bt_lkM mi_M_body 1 := ⟨bt_gin (bt_tin6 (List.mem_of_getElem? (i := 221) (by decide +kernel))) rfl, bt_gin (bt_tin1 (List.mem_of_getElem? (i := 11) (by decide +kernel))) rfl, ⟨by decide +kernel, by decide +kernel, by decide +kernel⟩, by decide +kernel⟩
theorem vm_M_body_k : Cond.instanceMethod mi_M_body.1 ∈ bt_gw := bt_gin (bt_tin6 (List.mem_of_getElem? (i := 219) (by decide +kernel))) rfl
theorem vm_M_body_s : Cond.selects mi_M_body.1.cls mi_M_body.1 mi_M_body.1 ∈ bt_gw := bt_gin (bt_tin6 (List.mem_of_getElem? (i := 220) (by decide +kernel))) rfl
theorem bv_X_116 : bt_lkV "BellTreesLaw" 116 mi_M_body 2 9 := ⟨⟨1, bt_T9, 53, rfl, rfl, vm_M_body⟩, bt_gin (bt_tin6 (List.mem_of_getElem? (i := 218) (by decide +kernel))) rfl, vm_M_body_k, vm_M_body_s⟩
theorem vm_B_act : bt_lkM mi_B_act 3 := ⟨bt_gin (bt_tin4 (List.mem_of_getElem? (i := 74) (by decide +kernel))) rfl, bt_gin (bt_tin1 (List.mem_of_getElem? (i := 1) (by decide +kernel))) rfl, ⟨by decide +kernel, by decide +kernel, by decide +kernel⟩, by decide +kernel⟩
theorem vm_B_act_k : Cond.instanceMethod mi_B_act.1 ∈ bt_gw := bt_gin (bt_tin4 (List.mem_of_getElem? (i := 72) (by decide +kernel))) rfl
theorem vm_B_act_s : Cond.selects mi_B_act.1.cls mi_B_act.1 mi_B_act.1 ∈ bt_gw := bt_gin (bt_tin4 (List.mem_of_getElem? (i := 73) (by decide +kernel))) rfl
theorem bv_X_117 : bt_lkV "BellTreesLaw" 117 mi_B_act 4 0 := ⟨⟨3, bt_T0, 9, rfl, rfl, vm_B_act⟩, bt_gin (bt_tin4 (List.mem_of_getElem? (i := 71) (by decide +kernel))) rfl, vm_B_act_k, vm_B_act_s⟩
theorem vm_M_act : bt_lkM mi_M_act 3 := ⟨bt_gin (bt_tin6 (List.mem_of_getElem? (i := 225) (by decide +kernel))) rfl, bt_gin (bt_tin1 (List.mem_of_getElem? (i := 11) (by decide +kernel))) rfl, ⟨by decide +kernel, by decide +kernel, by decide +kernel⟩, by decide +kernel⟩
theorem vm_M_act_k : Cond.instanceMethod mi_M_act.1 ∈ bt_gw := bt_gin (bt_tin6 (List.mem_of_getElem? (i := 223) (by decide +kernel))) rfl
theorem vm_M_act_s : Cond.selects mi_M_act.1.cls mi_M_act.1 mi_M_act.1 ∈ bt_gw := bt_gin (bt_tin6 (List.mem_of_getElem? (i := 224) (by decide +kernel))) rfl
theorem bv_X_120 : bt_lkV "BellTreesLaw" 120 mi_M_act 4 9 := ⟨⟨3, bt_T9, 53, rfl, rfl, vm_M_act⟩, bt_gin (bt_tin6 (List.mem_of_getElem? (i := 222) (by decide +kernel))) rfl, vm_M_act_k, vm_M_act_s⟩
theorem vm_B_trace : bt_lkM mi_B_trace 1 := ⟨bt_gin (bt_tin4 (List.mem_of_getElem? (i := 110) (by decide +kernel))) rfl, bt_gin (bt_tin1 (List.mem_of_getElem? (i := 1) (by decide +kernel))) rfl, ⟨by decide +kernel, by decide +kernel, by decide +kernel⟩, by decide +kernel⟩
theorem vm_B_trace_k : Cond.instanceMethod mi_B_trace.1 ∈ bt_gw := bt_gin (bt_tin4 (List.mem_of_getElem? (i := 108) (by decide +kernel))) rfl
theorem vm_B_trace_s : Cond.selects mi_B_trace.1.cls mi_B_trace.1 mi_B_trace.1 ∈ bt_gw := bt_gin (bt_tin4 (List.mem_of_getElem? (i := 109) (by decide +kernel))) rfl
theorem bv_X_121 : bt_lkV "BellTreesLaw" 121 mi_B_trace 2 0 := ⟨⟨1, bt_T0, 9, rfl, rfl, vm_B_trace⟩, bt_gin (bt_tin4 (List.mem_of_getElem? (i := 107) (by decide +kernel))) rfl, vm_B_trace_k, vm_B_trace_s⟩
theorem vm_M_trace : bt_lkM mi_M_trace 1 := ⟨bt_gin (bt_tin6 (List.mem_of_getElem? (i := 217) (by decide +kernel))) rfl, bt_gin (bt_tin1 (List.mem_of_getElem? (i := 11) (by decide +kernel))) rfl, ⟨by decide +kernel, by decide +kernel, by decide +kernel⟩, by decide +kernel⟩
theorem vm_M_trace_k : Cond.instanceMethod mi_M_trace.1 ∈ bt_gw := bt_gin (bt_tin6 (List.mem_of_getElem? (i := 215) (by decide +kernel))) rfl
theorem vm_M_trace_s : Cond.selects mi_M_trace.1.cls mi_M_trace.1 mi_M_trace.1 ∈ bt_gw := bt_gin (bt_tin6 (List.mem_of_getElem? (i := 216) (by decide +kernel))) rfl
theorem bv_X_124 : bt_lkV "BellTreesLaw" 124 mi_M_trace 2 9 := ⟨⟨1, bt_T9, 53, rfl, rfl, vm_M_trace⟩, bt_gin (bt_tin6 (List.mem_of_getElem? (i := 214) (by decide +kernel))) rfl, vm_M_trace_k, vm_M_trace_s⟩
theorem vm_B_keep : bt_lkM mi_B_keep 2 := ⟨bt_gin (bt_tin4 (List.mem_of_getElem? (i := 118) (by decide +kernel))) rfl, bt_gin (bt_tin1 (List.mem_of_getElem? (i := 1) (by decide +kernel))) rfl, ⟨by decide +kernel, by decide +kernel, by decide +kernel⟩, by decide +kernel⟩
theorem vm_B_keep_k : Cond.instanceMethod mi_B_keep.1 ∈ bt_gw := bt_gin (bt_tin4 (List.mem_of_getElem? (i := 116) (by decide +kernel))) rfl
theorem vm_B_keep_s : Cond.selects mi_B_keep.1.cls mi_B_keep.1 mi_B_keep.1 ∈ bt_gw := bt_gin (bt_tin4 (List.mem_of_getElem? (i := 117) (by decide +kernel))) rfl
theorem bv_X_125 : bt_lkV "BellTreesLaw" 125 mi_B_keep 3 0 := ⟨⟨2, bt_T0, 9, rfl, rfl, vm_B_keep⟩, bt_gin (bt_tin4 (List.mem_of_getElem? (i := 115) (by decide +kernel))) rfl, vm_B_keep_k, vm_B_keep_s⟩
theorem vm_M_keep : bt_lkM mi_M_keep 2 := ⟨bt_gin (bt_tin7 (List.mem_of_getElem? (i := 48) (by decide +kernel))) rfl, bt_gin (bt_tin1 (List.mem_of_getElem? (i := 11) (by decide +kernel))) rfl, ⟨by decide +kernel, by decide +kernel, by decide +kernel⟩, by decide +kernel⟩
theorem vm_M_keep_k : Cond.instanceMethod mi_M_keep.1 ∈ bt_gw := bt_gin (bt_tin7 (List.mem_of_getElem? (i := 46) (by decide +kernel))) rfl
theorem vm_M_keep_s : Cond.selects mi_M_keep.1.cls mi_M_keep.1 mi_M_keep.1 ∈ bt_gw := bt_gin (bt_tin7 (List.mem_of_getElem? (i := 47) (by decide +kernel))) rfl
theorem bv_X_128 : bt_lkV "BellTreesLaw" 128 mi_M_keep 3 9 := ⟨⟨2, bt_T9, 53, rfl, rfl, vm_M_keep⟩, bt_gin (bt_tin7 (List.mem_of_getElem? (i := 45) (by decide +kernel))) rfl, vm_M_keep_k, vm_M_keep_s⟩
theorem vm_B_row : bt_lkM mi_B_row 3 := ⟨bt_gin (bt_tin4 (List.mem_of_getElem? (i := 130) (by decide +kernel))) rfl, bt_gin (bt_tin1 (List.mem_of_getElem? (i := 1) (by decide +kernel))) rfl, ⟨by decide +kernel, by decide +kernel, by decide +kernel⟩, by decide +kernel⟩
theorem vm_B_row_k : Cond.instanceMethod mi_B_row.1 ∈ bt_gw := bt_gin (bt_tin4 (List.mem_of_getElem? (i := 128) (by decide +kernel))) rfl
theorem vm_B_row_s : Cond.selects mi_B_row.1.cls mi_B_row.1 mi_B_row.1 ∈ bt_gw := bt_gin (bt_tin4 (List.mem_of_getElem? (i := 129) (by decide +kernel))) rfl
theorem bv_X_129 : bt_lkV "BellTreesLaw" 129 mi_B_row 4 0 := ⟨⟨3, bt_T0, 9, rfl, rfl, vm_B_row⟩, bt_gin (bt_tin4 (List.mem_of_getElem? (i := 127) (by decide +kernel))) rfl, vm_B_row_k, vm_B_row_s⟩
theorem vm_M_row : bt_lkM mi_M_row 3 := ⟨bt_gin (bt_tin7 (List.mem_of_getElem? (i := 52) (by decide +kernel))) rfl, bt_gin (bt_tin1 (List.mem_of_getElem? (i := 11) (by decide +kernel))) rfl, ⟨by decide +kernel, by decide +kernel, by decide +kernel⟩, by decide +kernel⟩
theorem vm_M_row_k : Cond.instanceMethod mi_M_row.1 ∈ bt_gw := bt_gin (bt_tin7 (List.mem_of_getElem? (i := 50) (by decide +kernel))) rfl
theorem vm_M_row_s : Cond.selects mi_M_row.1.cls mi_M_row.1 mi_M_row.1 ∈ bt_gw := bt_gin (bt_tin7 (List.mem_of_getElem? (i := 51) (by decide +kernel))) rfl
theorem bv_X_132 : bt_lkV "BellTreesLaw" 132 mi_M_row 4 9 := ⟨⟨3, bt_T9, 53, rfl, rfl, vm_M_row⟩, bt_gin (bt_tin7 (List.mem_of_getElem? (i := 49) (by decide +kernel))) rfl, vm_M_row_k, vm_M_row_s⟩
theorem lk_X_133 : Cond.constantLong "BellTreesLaw" 133 4294967295 ∈ bt_gw := bt_gin (bt_tin7 (List.mem_of_getElem? (i := 74) (by decide +kernel))) rfl
theorem vm_B_put : bt_lkM mi_B_put 3 := ⟨bt_gin (bt_tin4 (List.mem_of_getElem? (i := 142) (by decide +kernel))) rfl, bt_gin (bt_tin1 (List.mem_of_getElem? (i := 1) (by decide +kernel))) rfl, ⟨by decide +kernel, by decide +kernel, by decide +kernel⟩, by decide +kernel⟩
theorem vm_B_put_k : Cond.instanceMethod mi_B_put.1 ∈ bt_gw := bt_gin (bt_tin4 (List.mem_of_getElem? (i := 140) (by decide +kernel))) rfl
theorem vm_B_put_s : Cond.selects mi_B_put.1.cls mi_B_put.1 mi_B_put.1 ∈ bt_gw := bt_gin (bt_tin4 (List.mem_of_getElem? (i := 141) (by decide +kernel))) rfl
theorem bv_X_135 : bt_lkV "BellTreesLaw" 135 mi_B_put 4 0 := ⟨⟨3, bt_T0, 9, rfl, rfl, vm_B_put⟩, bt_gin (bt_tin4 (List.mem_of_getElem? (i := 139) (by decide +kernel))) rfl, vm_B_put_k, vm_B_put_s⟩
theorem vm_M_put : bt_lkM mi_M_put 3 := ⟨bt_gin (bt_tin7 (List.mem_of_getElem? (i := 56) (by decide +kernel))) rfl, bt_gin (bt_tin1 (List.mem_of_getElem? (i := 11) (by decide +kernel))) rfl, ⟨by decide +kernel, by decide +kernel, by decide +kernel⟩, by decide +kernel⟩
theorem vm_M_put_k : Cond.instanceMethod mi_M_put.1 ∈ bt_gw := bt_gin (bt_tin7 (List.mem_of_getElem? (i := 54) (by decide +kernel))) rfl
theorem vm_M_put_s : Cond.selects mi_M_put.1.cls mi_M_put.1 mi_M_put.1 ∈ bt_gw := bt_gin (bt_tin7 (List.mem_of_getElem? (i := 55) (by decide +kernel))) rfl
theorem bv_X_139 : bt_lkV "BellTreesLaw" 139 mi_M_put 4 9 := ⟨⟨3, bt_T9, 53, rfl, rfl, vm_M_put⟩, bt_gin (bt_tin7 (List.mem_of_getElem? (i := 53) (by decide +kernel))) rfl, vm_M_put_k, vm_M_put_s⟩
theorem vm_B_element : bt_lkM mi_B_element 2 := ⟨bt_gin (bt_tin4 (List.mem_of_getElem? (i := 162) (by decide +kernel))) rfl, bt_gin (bt_tin1 (List.mem_of_getElem? (i := 1) (by decide +kernel))) rfl, ⟨by decide +kernel, by decide +kernel, by decide +kernel⟩, by decide +kernel⟩
theorem vm_B_element_k : Cond.instanceMethod mi_B_element.1 ∈ bt_gw := bt_gin (bt_tin4 (List.mem_of_getElem? (i := 160) (by decide +kernel))) rfl
theorem vm_B_element_s : Cond.selects mi_B_element.1.cls mi_B_element.1 mi_B_element.1 ∈ bt_gw := bt_gin (bt_tin4 (List.mem_of_getElem? (i := 161) (by decide +kernel))) rfl
theorem bv_X_140 : bt_lkV "BellTreesLaw" 140 mi_B_element 3 0 := ⟨⟨2, bt_T0, 9, rfl, rfl, vm_B_element⟩, bt_gin (bt_tin4 (List.mem_of_getElem? (i := 159) (by decide +kernel))) rfl, vm_B_element_k, vm_B_element_s⟩
theorem vm_M_element : bt_lkM mi_M_element 2 := ⟨bt_gin (bt_tin7 (List.mem_of_getElem? (i := 64) (by decide +kernel))) rfl, bt_gin (bt_tin1 (List.mem_of_getElem? (i := 11) (by decide +kernel))) rfl, ⟨by decide +kernel, by decide +kernel, by decide +kernel⟩, by decide +kernel⟩
theorem vm_M_element_k : Cond.instanceMethod mi_M_element.1 ∈ bt_gw := bt_gin (bt_tin7 (List.mem_of_getElem? (i := 62) (by decide +kernel))) rfl
theorem vm_M_element_s : Cond.selects mi_M_element.1.cls mi_M_element.1 mi_M_element.1 ∈ bt_gw := bt_gin (bt_tin7 (List.mem_of_getElem? (i := 63) (by decide +kernel))) rfl
theorem bv_X_144 : bt_lkV "BellTreesLaw" 144 mi_M_element 3 9 := ⟨⟨2, bt_T9, 53, rfl, rfl, vm_M_element⟩, bt_gin (bt_tin7 (List.mem_of_getElem? (i := 61) (by decide +kernel))) rfl, vm_M_element_k, vm_M_element_s⟩
theorem vm_B_shift : bt_lkM mi_B_shift 5 := ⟨bt_gin (bt_tin4 (List.mem_of_getElem? (i := 168) (by decide +kernel))) rfl, bt_gin (bt_tin1 (List.mem_of_getElem? (i := 1) (by decide +kernel))) rfl, ⟨by decide +kernel, by decide +kernel, by decide +kernel⟩, by decide +kernel⟩
theorem vm_B_shift_k : Cond.instanceMethod mi_B_shift.1 ∈ bt_gw := bt_gin (bt_tin4 (List.mem_of_getElem? (i := 166) (by decide +kernel))) rfl
theorem vm_B_shift_s : Cond.selects mi_B_shift.1.cls mi_B_shift.1 mi_B_shift.1 ∈ bt_gw := bt_gin (bt_tin4 (List.mem_of_getElem? (i := 167) (by decide +kernel))) rfl
theorem bv_X_145 : bt_lkV "BellTreesLaw" 145 mi_B_shift 6 0 := ⟨⟨5, bt_T0, 9, rfl, rfl, vm_B_shift⟩, bt_gin (bt_tin4 (List.mem_of_getElem? (i := 165) (by decide +kernel))) rfl, vm_B_shift_k, vm_B_shift_s⟩
theorem vm_M_shift : bt_lkM mi_M_shift 5 := ⟨bt_gin (bt_tin7 (List.mem_of_getElem? (i := 69) (by decide +kernel))) rfl, bt_gin (bt_tin1 (List.mem_of_getElem? (i := 11) (by decide +kernel))) rfl, ⟨by decide +kernel, by decide +kernel, by decide +kernel⟩, by decide +kernel⟩
theorem vm_M_shift_k : Cond.instanceMethod mi_M_shift.1 ∈ bt_gw := bt_gin (bt_tin7 (List.mem_of_getElem? (i := 67) (by decide +kernel))) rfl
theorem vm_M_shift_s : Cond.selects mi_M_shift.1.cls mi_M_shift.1 mi_M_shift.1 ∈ bt_gw := bt_gin (bt_tin7 (List.mem_of_getElem? (i := 68) (by decide +kernel))) rfl
theorem bv_X_149 : bt_lkV "BellTreesLaw" 149 mi_M_shift 6 9 := ⟨⟨5, bt_T9, 53, rfl, rfl, vm_M_shift⟩, bt_gin (bt_tin7 (List.mem_of_getElem? (i := 66) (by decide +kernel))) rfl, vm_M_shift_k, vm_M_shift_s⟩
theorem vm_B_taken : bt_lkM mi_B_taken 2 := ⟨bt_gin (bt_tin4 (List.mem_of_getElem? (i := 181) (by decide +kernel))) rfl, bt_gin (bt_tin1 (List.mem_of_getElem? (i := 1) (by decide +kernel))) rfl, ⟨by decide +kernel, by decide +kernel, by decide +kernel⟩, by decide +kernel⟩
theorem vm_B_taken_k : Cond.instanceMethod mi_B_taken.1 ∈ bt_gw := bt_gin (bt_tin4 (List.mem_of_getElem? (i := 179) (by decide +kernel))) rfl
theorem vm_B_taken_s : Cond.selects mi_B_taken.1.cls mi_B_taken.1 mi_B_taken.1 ∈ bt_gw := bt_gin (bt_tin4 (List.mem_of_getElem? (i := 180) (by decide +kernel))) rfl
theorem bv_X_150 : bt_lkV "BellTreesLaw" 150 mi_B_taken 3 0 := ⟨⟨2, bt_T0, 9, rfl, rfl, vm_B_taken⟩, bt_gin (bt_tin4 (List.mem_of_getElem? (i := 178) (by decide +kernel))) rfl, vm_B_taken_k, vm_B_taken_s⟩
theorem vm_M_taken : bt_lkM mi_M_taken 2 := ⟨bt_gin (bt_tin7 (List.mem_of_getElem? (i := 73) (by decide +kernel))) rfl, bt_gin (bt_tin1 (List.mem_of_getElem? (i := 11) (by decide +kernel))) rfl, ⟨by decide +kernel, by decide +kernel, by decide +kernel⟩, by decide +kernel⟩
theorem vm_M_taken_k : Cond.instanceMethod mi_M_taken.1 ∈ bt_gw := bt_gin (bt_tin7 (List.mem_of_getElem? (i := 71) (by decide +kernel))) rfl
theorem vm_M_taken_s : Cond.selects mi_M_taken.1.cls mi_M_taken.1 mi_M_taken.1 ∈ bt_gw := bt_gin (bt_tin7 (List.mem_of_getElem? (i := 72) (by decide +kernel))) rfl
theorem bv_X_153 : bt_lkV "BellTreesLaw" 153 mi_M_taken 3 9 := ⟨⟨2, bt_T9, 53, rfl, rfl, vm_M_taken⟩, bt_gin (bt_tin7 (List.mem_of_getElem? (i := 70) (by decide +kernel))) rfl, vm_M_taken_k, vm_M_taken_s⟩
theorem vm_B_count : bt_lkM mi_B_count 1 := ⟨bt_gin (bt_tin4 (List.mem_of_getElem? (i := 195) (by decide +kernel))) rfl, bt_gin (bt_tin1 (List.mem_of_getElem? (i := 1) (by decide +kernel))) rfl, ⟨by decide +kernel, by decide +kernel, by decide +kernel⟩, by decide +kernel⟩
theorem vm_B_count_k : Cond.instanceMethod mi_B_count.1 ∈ bt_gw := bt_gin (bt_tin4 (List.mem_of_getElem? (i := 193) (by decide +kernel))) rfl
theorem vm_B_count_s : Cond.selects mi_B_count.1.cls mi_B_count.1 mi_B_count.1 ∈ bt_gw := bt_gin (bt_tin4 (List.mem_of_getElem? (i := 194) (by decide +kernel))) rfl
theorem bv_X_154 : bt_lkV "BellTreesLaw" 154 mi_B_count 2 0 := ⟨⟨1, bt_T0, 9, rfl, rfl, vm_B_count⟩, bt_gin (bt_tin4 (List.mem_of_getElem? (i := 192) (by decide +kernel))) rfl, vm_B_count_k, vm_B_count_s⟩
theorem vm_M_count : bt_lkM mi_M_count 1 := ⟨bt_gin (bt_tin7 (List.mem_of_getElem? (i := 44) (by decide +kernel))) rfl, bt_gin (bt_tin1 (List.mem_of_getElem? (i := 11) (by decide +kernel))) rfl, ⟨by decide +kernel, by decide +kernel, by decide +kernel⟩, by decide +kernel⟩
theorem vm_M_count_k : Cond.instanceMethod mi_M_count.1 ∈ bt_gw := bt_gin (bt_tin7 (List.mem_of_getElem? (i := 42) (by decide +kernel))) rfl
theorem vm_M_count_s : Cond.selects mi_M_count.1.cls mi_M_count.1 mi_M_count.1 ∈ bt_gw := bt_gin (bt_tin7 (List.mem_of_getElem? (i := 43) (by decide +kernel))) rfl
theorem bv_X_157 : bt_lkV "BellTreesLaw" 157 mi_M_count 2 9 := ⟨⟨1, bt_T9, 53, rfl, rfl, vm_M_count⟩, bt_gin (bt_tin7 (List.mem_of_getElem? (i := 41) (by decide +kernel))) rfl, vm_M_count_k, vm_M_count_s⟩
end
section
def ct_JA_fillI : List bt_E := [e1 (.iconst 0) 1 0, e0 (.istore_n 2) 1, e0 (.aload_n 0) 1, e0 .arraylength 1, e0 (.istore_n 3) 1, e0 (.iload_n 2) 1, e0 (.iload_n 3) 1, eb (.if_icmp .ge 13) 20, e0 (.aload_n 0) 1, e0 (.iload_n 2) 1, e0 (.iload_n 1) 1, e0 .iastore 1, e1 (.iinc 2 1) 3 1, eb (.goto (-12)) 5, e0 .return_ 1]
theorem dt_JA_fillI : bt_dec mi_JA_fillI.2.1 mi_JA_fillI.2.2.1 0 ct_JA_fillI = true := by decide +kernel
theorem kt_JA_fillI : bt_T mi_JA_fillI ct_JA_fillI := ⟨dt_JA_fillI, ⟨trivial, ⟨trivial, ⟨trivial, ⟨trivial, ⟨trivial, ⟨trivial, ⟨trivial, ⟨trivial, ⟨trivial, ⟨trivial, ⟨trivial, ⟨trivial, ⟨trivial, ⟨trivial, ⟨trivial, trivial⟩⟩⟩⟩⟩⟩⟩⟩⟩⟩⟩⟩⟩⟩⟩⟩
def ct_JA_fillL : List bt_E := [e1 (.iconst 0) 1 0, e0 (.istore_n 3) 1, e0 (.aload_n 0) 1, e0 .arraylength 1, e0 (.istore 4) 2, e0 (.iload_n 3) 1, e0 (.iload 4) 2, eb (.if_icmp .ge 13) 22, e0 (.aload_n 0) 1, e0 (.iload_n 3) 1, e0 (.lload_n 1) 1, e0 .lastore 1, e1 (.iinc 3 1) 3 1, eb (.goto (-13)) 6, e0 .return_ 1]
theorem dt_JA_fillL : bt_dec mi_JA_fillL.2.1 mi_JA_fillL.2.2.1 0 ct_JA_fillL = true := by decide +kernel
theorem kt_JA_fillL : bt_T mi_JA_fillL ct_JA_fillL := ⟨dt_JA_fillL, ⟨trivial, ⟨trivial, ⟨trivial, ⟨trivial, ⟨trivial, ⟨trivial, ⟨trivial, ⟨trivial, ⟨trivial, ⟨trivial, ⟨trivial, ⟨trivial, ⟨trivial, ⟨trivial, ⟨trivial, trivial⟩⟩⟩⟩⟩⟩⟩⟩⟩⟩⟩⟩⟩⟩⟩⟩
def ct_JM_max : List bt_E := [e0 (.iload_n 0) 1, e0 (.iload_n 1) 1, eb (.if_icmp .lt 7) 9, e0 (.iload_n 0) 1, eb (.goto 4) 10, e0 (.iload_n 1) 1, e0 .ireturn 1]
theorem dt_JM_max : bt_dec mi_JM_max.2.1 mi_JM_max.2.2.1 0 ct_JM_max = true := by decide +kernel
theorem kt_JM_max : bt_T mi_JM_max ct_JM_max := ⟨dt_JM_max, ⟨trivial, ⟨trivial, ⟨trivial, ⟨trivial, ⟨trivial, ⟨trivial, ⟨trivial, trivial⟩⟩⟩⟩⟩⟩⟩⟩
def ct_JM_min : List bt_E := [e0 (.iload_n 0) 1, e0 (.iload_n 1) 1, eb (.if_icmp .gt 7) 9, e0 (.iload_n 0) 1, eb (.goto 4) 10, e0 (.iload_n 1) 1, e0 .ireturn 1]
theorem dt_JM_min : bt_dec mi_JM_min.2.1 mi_JM_min.2.2.1 0 ct_JM_min = true := by decide +kernel
theorem kt_JM_min : bt_T mi_JM_min ct_JM_min := ⟨dt_JM_min, ⟨trivial, ⟨trivial, ⟨trivial, ⟨trivial, ⟨trivial, ⟨trivial, ⟨trivial, trivial⟩⟩⟩⟩⟩⟩⟩⟩
def ct_JI_bitCount : List bt_E := [e0 (.iload_n 0) 1, e0 (.iload_n 0) 1, e1 (.iconst 1) 1 1, e0 .iushr 1, e1 (.ldc_w 265) 3 1431655765, e0 .iand 1, e0 .isub 1, e0 (.istore_n 0) 1, e0 (.iload_n 0) 1, e1 (.ldc_w 266) 3 858993459, e0 .iand 1, e0 (.iload_n 0) 1, e1 (.iconst 2) 1 2, e0 .iushr 1, e1 (.ldc_w 266) 3 858993459, e0 .iand 1, e0 .iadd 1, e0 (.istore_n 0) 1, e0 (.iload_n 0) 1, e0 (.iload_n 0) 1, e1 (.iconst 4) 1 4, e0 .iushr 1, e0 .iadd 1, e1 (.ldc_w 267) 3 252645135, e0 .iand 1, e0 (.istore_n 0) 1, e0 (.iload_n 0) 1, e0 (.iload_n 0) 1, e1 (.bipush 8) 2 8, e0 .iushr 1, e0 .iadd 1, e0 (.istore_n 0) 1, e0 (.iload_n 0) 1, e0 (.iload_n 0) 1, e1 (.bipush 16) 2 16, e0 .iushr 1, e0 .iadd 1, e0 (.istore_n 0) 1, e0 (.iload_n 0) 1, e1 (.bipush 63) 2 63, e0 .iand 1, e0 .ireturn 1]
theorem dt_JI_bitCount : bt_dec mi_JI_bitCount.2.1 mi_JI_bitCount.2.2.1 0 ct_JI_bitCount = true := by decide +kernel
theorem kt_JI_bitCount : bt_T mi_JI_bitCount ct_JI_bitCount := ⟨dt_JI_bitCount, ⟨trivial, ⟨trivial, ⟨trivial, ⟨trivial, ⟨lk_JI_265, ⟨trivial, ⟨trivial, ⟨trivial, ⟨trivial, ⟨lk_JI_266, ⟨trivial, ⟨trivial, ⟨trivial, ⟨trivial, ⟨lk_JI_266, ⟨trivial, ⟨trivial, ⟨trivial, ⟨trivial, ⟨trivial, ⟨trivial, ⟨trivial, ⟨trivial, ⟨lk_JI_267, ⟨trivial, ⟨trivial, ⟨trivial, ⟨trivial, ⟨trivial, ⟨trivial, ⟨trivial, ⟨trivial, ⟨trivial, ⟨trivial, ⟨trivial, ⟨trivial, ⟨trivial, ⟨trivial, ⟨trivial, ⟨trivial, ⟨trivial, ⟨trivial, trivial⟩⟩⟩⟩⟩⟩⟩⟩⟩⟩⟩⟩⟩⟩⟩⟩⟩⟩⟩⟩⟩⟩⟩⟩⟩⟩⟩⟩⟩⟩⟩⟩⟩⟩⟩⟩⟩⟩⟩⟩⟩⟩⟩
def ct_B_tree : List bt_E := [e0 (.iload_n 1) 1, eb (.ifCond .lt 10) 11, e0 (.iload_n 1) 1, e1 (.sipush 999) 3 999, eb (.if_icmp .le 5) 13, e1 (.iconst (-1)) 1 (-1), e0 .ireturn 1, e0 (.aload_n 0) 1, ef (.getfield 10) 0 0, e0 (.iload_n 1) 1, e1 (.bipush 100) 2 100, e0 .idiv 1, e0 (.iload_n 1) 1, e1 (.bipush 10) 2 10, e0 .idiv 1, e1 (.bipush 10) 2 10, e0 .irem 1, e0 (.iload_n 1) 1, e1 (.bipush 10) 2 10, e0 .irem 1, em (.invokevirtual 72) 4 1 mi_Fo_plant, e0 .ireturn 1]
theorem dt_B_tree : bt_dec mi_B_tree.2.1 mi_B_tree.2.2.1 0 ct_B_tree = true := by decide +kernel
theorem kt_B_tree : bt_T mi_B_tree ct_B_tree := ⟨dt_B_tree, ⟨trivial, ⟨trivial, ⟨trivial, ⟨trivial, ⟨trivial, ⟨trivial, ⟨trivial, ⟨trivial, ⟨lg_B_10, ⟨trivial, ⟨trivial, ⟨trivial, ⟨trivial, ⟨trivial, ⟨trivial, ⟨trivial, ⟨trivial, ⟨trivial, ⟨trivial, ⟨trivial, ⟨bv_B_72, ⟨trivial, trivial⟩⟩⟩⟩⟩⟩⟩⟩⟩⟩⟩⟩⟩⟩⟩⟩⟩⟩⟩⟩⟩⟩⟩
def ct_B_trees : List bt_E := [e0 (.aload_n 0) 1, e0 (.iload_n 1) 1, em (.invokevirtual 76) 2 0 mi_B_shelfAt, e0 (.astore 4) 2, e0 (.aload 4) 2, eb (.ifnull 14) 23, e0 (.iload_n 3) 1, e1 (.iconst 1) 1 1, eb (.if_icmp .lt 9) 23, e0 (.iload_n 3) 1, e1 (.bipush 8) 2 8, eb (.if_icmp .le 5) 25, e1 (.iconst (-1)) 1 (-1), e0 .ireturn 1, e0 (.aload 4) 2, em (.invokevirtual 80) 1 8 mi_Sh_isEmpty, eb (.ifCond .eq 5) 35, e1 (.iconst 0) 1 0, e0 .ireturn 1, e0 (.aload 4) 2, em (.invokevirtual 84) 1 8 mi_Sh_isBytes, eb (.ifCond .ne 6) 46, e1 (.bipush (-12)) 2 (-12), e0 .ireturn 1, e1 (.iconst 0) 1 0, e0 (.istore 5) 2, e0 (.iload 5) 2, e0 (.iload_n 3) 1, eb (.if_icmp .ge 21) 73, e0 (.aload_n 0) 1, e0 (.aload 4) 2, e0 (.iload_n 2) 1, e0 (.iload 5) 2, em (.invokevirtual 87) 4 0 mi_B_plantFrom, eb (.ifCond .eq 9) 73, e1 (.iinc 5 1) 3 1, eb (.goto (-21)) 49, e0 (.iload 5) 2, e0 .ireturn 1]
theorem dt_B_trees : bt_dec mi_B_trees.2.1 mi_B_trees.2.2.1 0 ct_B_trees = true := by decide +kernel
theorem kt_B_trees : bt_T mi_B_trees ct_B_trees := ⟨dt_B_trees, ⟨trivial, ⟨trivial, ⟨bv_B_76, ⟨trivial, ⟨trivial, ⟨trivial, ⟨trivial, ⟨trivial, ⟨trivial, ⟨trivial, ⟨trivial, ⟨trivial, ⟨trivial, ⟨trivial, ⟨trivial, ⟨bv_B_80, ⟨trivial, ⟨trivial, ⟨trivial, ⟨trivial, ⟨bv_B_84, ⟨trivial, ⟨trivial, ⟨trivial, ⟨trivial, ⟨trivial, ⟨trivial, ⟨trivial, ⟨trivial, ⟨trivial, ⟨trivial, ⟨trivial, ⟨trivial, ⟨bv_B_87, ⟨trivial, ⟨trivial, ⟨trivial, ⟨trivial, ⟨trivial, trivial⟩⟩⟩⟩⟩⟩⟩⟩⟩⟩⟩⟩⟩⟩⟩⟩⟩⟩⟩⟩⟩⟩⟩⟩⟩⟩⟩⟩⟩⟩⟩⟩⟩⟩⟩⟩⟩⟩⟩⟩
def ct_B_path : List bt_E := [e0 (.iload_n 1) 1, eb (.ifCond .ge 5) 6, e1 (.iconst (-1)) 1 (-1), e0 .ireturn 1, e0 (.aload_n 0) 1, ef (.getfield 10) 0 0, e0 (.iload_n 1) 1, e1 (.bipush 10) 2 10, e0 .idiv 1, e0 (.iload_n 1) 1, e1 (.bipush 10) 2 10, e0 .irem 1, em (.invokevirtual 91) 3 1 mi_Fo_join, e0 .ireturn 1]
theorem dt_B_path : bt_dec mi_B_path.2.1 mi_B_path.2.2.1 0 ct_B_path = true := by decide +kernel
theorem kt_B_path : bt_T mi_B_path ct_B_path := ⟨dt_B_path, ⟨trivial, ⟨trivial, ⟨trivial, ⟨trivial, ⟨trivial, ⟨lg_B_10, ⟨trivial, ⟨trivial, ⟨trivial, ⟨trivial, ⟨trivial, ⟨trivial, ⟨bv_B_91, ⟨trivial, trivial⟩⟩⟩⟩⟩⟩⟩⟩⟩⟩⟩⟩⟩⟩⟩
def ct_B_mend : List bt_E := [e0 (.aload_n 0) 1, ef (.getfield 10) 0 0, e0 (.iload_n 2) 1, e0 (.iload_n 1) 1, em (.invokevirtual 95) 3 1 mi_Fo_isSlot, eb (.ifCond .eq 15) 24, e0 (.aload_n 0) 1, ef (.getfield 10) 0 0, e0 (.iload_n 2) 1, e0 (.iload_n 3) 1, em (.invokevirtual 99) 3 1 mi_Fo_mayBe, eb (.ifCond .ne 5) 26, e1 (.iconst (-1)) 1 (-1), e0 .ireturn 1, e0 (.aload_n 0) 1, ef (.getfield 10) 0 0, e0 (.iload_n 2) 1, e0 (.iload_n 1) 1, em (.invokevirtual 102) 3 1 mi_Fo_get, e0 (.istore 4) 2, e0 (.iload 4) 2, e0 (.iload_n 3) 1, eb (.if_icmp .eq 25) 65, e0 (.aload_n 0) 1, ef (.getfield 10) 0 0, e0 (.iload_n 2) 1, e0 (.iload_n 1) 1, e0 (.iload_n 3) 1, em (.invokevirtual 105) 4 1 mi_Fo_set, e0 (.aload_n 0) 1, ef (.getfield 47) 0 5, e0 (.iload_n 2) 1, e0 (.iload_n 1) 1, e0 (.iload 4) 2, e0 (.iload_n 3) 1, em (.invokevirtual 109) 5 5 mi_Ch_add, e0 (.iload 4) 2, e0 .ireturn 1]
theorem dt_B_mend : bt_dec mi_B_mend.2.1 mi_B_mend.2.2.1 0 ct_B_mend = true := by decide +kernel
theorem kt_B_mend : bt_T mi_B_mend ct_B_mend := ⟨dt_B_mend, ⟨trivial, ⟨lg_B_10, ⟨trivial, ⟨trivial, ⟨bv_B_95, ⟨trivial, ⟨trivial, ⟨lg_B_10, ⟨trivial, ⟨trivial, ⟨bv_B_99, ⟨trivial, ⟨trivial, ⟨trivial, ⟨trivial, ⟨lg_B_10, ⟨trivial, ⟨trivial, ⟨bv_B_102, ⟨trivial, ⟨trivial, ⟨trivial, ⟨trivial, ⟨trivial, ⟨lg_B_10, ⟨trivial, ⟨trivial, ⟨trivial, ⟨bv_B_105, ⟨trivial, ⟨lg_B_47, ⟨trivial, ⟨trivial, ⟨trivial, ⟨trivial, ⟨bv_B_109, ⟨trivial, ⟨trivial, trivial⟩⟩⟩⟩⟩⟩⟩⟩⟩⟩⟩⟩⟩⟩⟩⟩⟩⟩⟩⟩⟩⟩⟩⟩⟩⟩⟩⟩⟩⟩⟩⟩⟩⟩⟩⟩⟩⟩⟩
def ct_B_of : List bt_E := [e0 (.iload_n 2) 1, e1 (.bipush 10) 2 10, eb (.if_icmp .ne 27) 30, e0 (.aload_n 0) 1, ef (.getfield 10) 0 0, e0 (.iload_n 1) 1, em (.invokevirtual 113) 2 1 mi_Fo_has, eb (.ifCond .eq 14) 28, e0 (.aload_n 0) 1, ef (.getfield 10) 0 0, e0 (.iload_n 1) 1, em (.invokevirtual 117) 2 1 mi_Fo_farOf, eb (.goto 4) 29, e1 (.iconst (-1)) 1 (-1), e0 .ireturn 1, e0 (.iload_n 2) 1, e1 (.bipush 11) 2 11, eb (.if_icmp .ne 27) 60, e0 (.aload_n 0) 1, ef (.getfield 10) 0 0, e0 (.iload_n 1) 1, em (.invokevirtual 113) 2 1 mi_Fo_has, eb (.ifCond .eq 14) 58, e0 (.aload_n 0) 1, ef (.getfield 10) 0 0, e0 (.iload_n 1) 1, em (.invokevirtual 121) 2 1 mi_Fo_heardOf, eb (.goto 4) 59, e1 (.iconst (-1)) 1 (-1), e0 .ireturn 1, e0 (.iload_n 2) 1, e1 (.bipush 12) 2 12, eb (.if_icmp .ne 19) 82, e0 (.iload_n 1) 1, eb (.ifCond .ne 13) 80, e0 (.aload_n 0) 1, ef (.getfield 10) 0 0, em (.invokevirtual 124) 1 1 mi_Fo_walked, eb (.goto 4) 81, e1 (.iconst (-1)) 1 (-1), e0 .ireturn 1, e0 (.aload_n 0) 1, ef (.getfield 10) 0 0, e0 (.iload_n 2) 1, e0 (.iload_n 1) 1, em (.invokevirtual 95) 3 1 mi_Fo_isSlot, eb (.ifCond .eq 15) 106, e0 (.aload_n 0) 1, ef (.getfield 10) 0 0, e0 (.iload_n 2) 1, e0 (.iload_n 1) 1, em (.invokevirtual 102) 3 1 mi_Fo_get, eb (.goto 4) 107, e1 (.iconst (-1)) 1 (-1), e0 .ireturn 1]
theorem dt_B_of : bt_dec mi_B_of.2.1 mi_B_of.2.2.1 0 ct_B_of = true := by decide +kernel
theorem kt_B_of : bt_T mi_B_of ct_B_of := ⟨dt_B_of, ⟨trivial, ⟨trivial, ⟨trivial, ⟨trivial, ⟨lg_B_10, ⟨trivial, ⟨bv_B_113, ⟨trivial, ⟨trivial, ⟨lg_B_10, ⟨trivial, ⟨bv_B_117, ⟨trivial, ⟨trivial, ⟨trivial, ⟨trivial, ⟨trivial, ⟨trivial, ⟨trivial, ⟨lg_B_10, ⟨trivial, ⟨bv_B_113, ⟨trivial, ⟨trivial, ⟨lg_B_10, ⟨trivial, ⟨bv_B_121, ⟨trivial, ⟨trivial, ⟨trivial, ⟨trivial, ⟨trivial, ⟨trivial, ⟨trivial, ⟨trivial, ⟨trivial, ⟨lg_B_10, ⟨bv_B_124, ⟨trivial, ⟨trivial, ⟨trivial, ⟨trivial, ⟨lg_B_10, ⟨trivial, ⟨trivial, ⟨bv_B_95, ⟨trivial, ⟨trivial, ⟨lg_B_10, ⟨trivial, ⟨trivial, ⟨bv_B_102, ⟨trivial, ⟨trivial, ⟨trivial, trivial⟩⟩⟩⟩⟩⟩⟩⟩⟩⟩⟩⟩⟩⟩⟩⟩⟩⟩⟩⟩⟩⟩⟩⟩⟩⟩⟩⟩⟩⟩⟩⟩⟩⟩⟩⟩⟩⟩⟩⟩⟩⟩⟩⟩⟩⟩⟩⟩⟩⟩⟩⟩⟩⟩⟩⟩
def ct_B_feed : List bt_E := [e0 (.iload_n 1) 1, eb (.ifCond .lt 10) 11, e0 (.iload_n 1) 1, e1 (.sipush 255) 3 255, eb (.if_icmp .le 5) 13, e1 (.iconst (-1)) 1 (-1), e0 .ireturn 1, e0 (.aload_n 0) 1, ef (.getfield 19) 0 1, e0 (.iload_n 1) 1, em (.invokevirtual 128) 2 2 mi_La_take, e0 .ireturn 1]
theorem dt_B_feed : bt_dec mi_B_feed.2.1 mi_B_feed.2.2.1 0 ct_B_feed = true := by decide +kernel
theorem kt_B_feed : bt_T mi_B_feed ct_B_feed := ⟨dt_B_feed, ⟨trivial, ⟨trivial, ⟨trivial, ⟨trivial, ⟨trivial, ⟨trivial, ⟨trivial, ⟨trivial, ⟨lg_B_19, ⟨trivial, ⟨bv_B_128, ⟨trivial, trivial⟩⟩⟩⟩⟩⟩⟩⟩⟩⟩⟩⟩⟩
def ct_B_law : List bt_E := [e0 (.aload_n 0) 1, ef (.getfield 19) 0 1, em (.invokevirtual 131) 1 2 mi_La_read, e0 .ireturn 1]
theorem dt_B_law : bt_dec mi_B_law.2.1 mi_B_law.2.2.1 0 ct_B_law = true := by decide +kernel
theorem kt_B_law : bt_T mi_B_law ct_B_law := ⟨dt_B_law, ⟨trivial, ⟨lg_B_19, ⟨bv_B_131, ⟨trivial, trivial⟩⟩⟩⟩⟩
def ct_B_sound : List bt_E := [e0 (.iload_n 1) 1, em (.invokestatic 134) 1 100 mi_B_isSort, eb (.ifCond .eq 21) 25, e0 (.aload_n 0) 1, ef (.getfield 10) 0 0, e0 (.iload_n 2) 1, em (.invokevirtual 113) 2 1 mi_Fo_has, eb (.ifCond .eq 10) 25, e0 (.iload_n 3) 1, em (.invokestatic 137) 1 100 mi_B_isMinute, eb (.ifCond .ne 6) 28, e1 (.ldc 140) 2 (-2000000000), e0 .ireturn 1, e0 (.aload_n 0) 1, ef (.getfield 28) 0 2, e0 (.iload_n 1) 1, em (.invokevirtual 141) 2 3 mi_So_fill, e0 (.aload_n 0) 1, ef (.getfield 28) 0 2, e0 (.iload_n 2) 1, e0 (.iload_n 3) 1, em (.invokevirtual 145) 3 3 mi_So_at, e0 .ireturn 1]
theorem dt_B_sound : bt_dec mi_B_sound.2.1 mi_B_sound.2.2.1 0 ct_B_sound = true := by decide +kernel
theorem kt_B_sound : bt_T mi_B_sound ct_B_sound := ⟨dt_B_sound, ⟨trivial, ⟨⟨fun _ => bs_B_134, (fun h => by cases h)⟩, ⟨trivial, ⟨trivial, ⟨lg_B_10, ⟨trivial, ⟨bv_B_113, ⟨trivial, ⟨trivial, ⟨⟨fun _ => bs_B_137, (fun h => by cases h)⟩, ⟨trivial, ⟨lk_B_140, ⟨trivial, ⟨trivial, ⟨lg_B_28, ⟨trivial, ⟨bv_B_141, ⟨trivial, ⟨lg_B_28, ⟨trivial, ⟨trivial, ⟨bv_B_145, ⟨trivial, trivial⟩⟩⟩⟩⟩⟩⟩⟩⟩⟩⟩⟩⟩⟩⟩⟩⟩⟩⟩⟩⟩⟩⟩⟩
def ct_B_fits : List bt_E := [e0 (.aload_n 0) 1, e0 (.iload_n 1) 1, em (.invokevirtual 76) 2 0 mi_B_shelfAt, e0 (.astore_n 3) 1, e0 (.iload_n 2) 1, e1 (.bipush 100) 2 100, e0 .irem 1, e1 (.bipush 99) 2 99, eb (.if_icmp .ne 7) 19, e1 (.iconst 1) 1 1, eb (.goto 4) 20, e1 (.iconst 0) 1 0, e0 (.istore 4) 2, e0 (.aload_n 0) 1, e0 (.aload_n 3) 1, e0 (.iload_n 2) 1, e0 (.iload 4) 2, em (.invokevirtual 148) 4 0 mi_B_bookRefusal, e0 (.istore 5) 2, e0 (.iload 5) 2, eb (.ifCond .ne 7) 41, e0 (.aload_n 3) 1, eb (.ifnonnull 6) 44, e0 (.iload 5) 2, e0 .ireturn 1, e0 (.aload_n 0) 1, ef (.getfield 28) 0 2, e0 (.iload_n 2) 1, e1 (.bipush 100) 2 100, e0 .idiv 1, em (.invokevirtual 141) 2 3 mi_So_fill, e0 (.aload_n 0) 1, ef (.getfield 40) 0 4, e0 (.aload_n 0) 1, ef (.getfield 28) 0 2, e0 (.aload_n 3) 1, em (.invokevirtual 152) 3 4 mi_Wa_countFitting, e0 (.istore 6) 2, e0 (.iload 4) 2, eb (.ifCond .eq 8) 79, e0 (.iload 6) 2, eb (.goto 14) 90, e0 (.aload_n 0) 1, ef (.getfield 40) 0 4, e0 (.iload_n 2) 1, e1 (.bipush 100) 2 100, e0 .irem 1, em (.invokevirtual 156) 2 4 mi_Wa_firstAt, e0 .ireturn 1]
theorem dt_B_fits : bt_dec mi_B_fits.2.1 mi_B_fits.2.2.1 0 ct_B_fits = true := by decide +kernel
theorem kt_B_fits : bt_T mi_B_fits ct_B_fits := ⟨dt_B_fits, ⟨trivial, ⟨trivial, ⟨bv_B_76, ⟨trivial, ⟨trivial, ⟨trivial, ⟨trivial, ⟨trivial, ⟨trivial, ⟨trivial, ⟨trivial, ⟨trivial, ⟨trivial, ⟨trivial, ⟨trivial, ⟨trivial, ⟨trivial, ⟨bv_B_148, ⟨trivial, ⟨trivial, ⟨trivial, ⟨trivial, ⟨trivial, ⟨trivial, ⟨trivial, ⟨trivial, ⟨lg_B_28, ⟨trivial, ⟨trivial, ⟨trivial, ⟨bv_B_141, ⟨trivial, ⟨lg_B_40, ⟨trivial, ⟨lg_B_28, ⟨trivial, ⟨bv_B_152, ⟨trivial, ⟨trivial, ⟨trivial, ⟨trivial, ⟨trivial, ⟨trivial, ⟨lg_B_40, ⟨trivial, ⟨trivial, ⟨trivial, ⟨bv_B_156, ⟨trivial, trivial⟩⟩⟩⟩⟩⟩⟩⟩⟩⟩⟩⟩⟩⟩⟩⟩⟩⟩⟩⟩⟩⟩⟩⟩⟩⟩⟩⟩⟩⟩⟩⟩⟩⟩⟩⟩⟩⟩⟩⟩⟩⟩⟩⟩⟩⟩⟩⟩⟩⟩
def ct_B_canBe : List bt_E := [e0 (.aload_n 0) 1, e0 (.iload_n 1) 1, em (.invokevirtual 76) 2 0 mi_B_shelfAt, e0 (.astore_n 3) 1, e0 (.aload_n 0) 1, e0 (.aload_n 3) 1, e0 (.iload_n 2) 1, e1 (.iconst 0) 1 0, em (.invokevirtual 148) 4 0 mi_B_bookRefusal, e0 (.istore 4) 2, e0 (.iload 4) 2, eb (.ifCond .ne 7) 24, e0 (.aload_n 3) 1, eb (.ifnonnull 6) 27, e0 (.iload 4) 2, e0 .ireturn 1, e0 (.aload_n 0) 1, ef (.getfield 28) 0 2, e0 (.iload_n 2) 1, e1 (.bipush 100) 2 100, e0 .idiv 1, em (.invokevirtual 141) 2 3 mi_So_fill, e0 (.aload_n 0) 1, ef (.getfield 40) 0 4, e0 (.aload_n 0) 1, ef (.getfield 28) 0 2, e0 (.aload_n 3) 1, em (.invokevirtual 152) 3 4 mi_Wa_countFitting, e0 .pop 1, e0 (.aload_n 0) 1, ef (.getfield 40) 0 4, e0 (.iload_n 2) 1, e1 (.bipush 100) 2 100, e0 .irem 1, em (.invokevirtual 159) 2 4 mi_Wa_possibleAt, e0 (.istore 5) 2, e0 (.iload 5) 2, eb (.ifCond .ne 8) 74, e1 (.bipush (-2)) 2 (-2), eb (.goto 5) 76, e0 (.iload 5) 2, e0 .ireturn 1]
theorem dt_B_canBe : bt_dec mi_B_canBe.2.1 mi_B_canBe.2.2.1 0 ct_B_canBe = true := by decide +kernel
theorem kt_B_canBe : bt_T mi_B_canBe ct_B_canBe := ⟨dt_B_canBe, ⟨trivial, ⟨trivial, ⟨bv_B_76, ⟨trivial, ⟨trivial, ⟨trivial, ⟨trivial, ⟨trivial, ⟨bv_B_148, ⟨trivial, ⟨trivial, ⟨trivial, ⟨trivial, ⟨trivial, ⟨trivial, ⟨trivial, ⟨trivial, ⟨lg_B_28, ⟨trivial, ⟨trivial, ⟨trivial, ⟨bv_B_141, ⟨trivial, ⟨lg_B_40, ⟨trivial, ⟨lg_B_28, ⟨trivial, ⟨bv_B_152, ⟨trivial, ⟨trivial, ⟨lg_B_40, ⟨trivial, ⟨trivial, ⟨trivial, ⟨bv_B_159, ⟨trivial, ⟨trivial, ⟨trivial, ⟨trivial, ⟨trivial, ⟨trivial, ⟨trivial, trivial⟩⟩⟩⟩⟩⟩⟩⟩⟩⟩⟩⟩⟩⟩⟩⟩⟩⟩⟩⟩⟩⟩⟩⟩⟩⟩⟩⟩⟩⟩⟩⟩⟩⟩⟩⟩⟩⟩⟩⟩⟩⟩⟩
def ct_B_twoAtOnce : List bt_E := [e0 (.aload_n 0) 1, e0 (.iload_n 1) 1, em (.invokevirtual 76) 2 0 mi_B_shelfAt, e0 (.astore 4) 2, e0 (.aload 4) 2, eb (.ifnull 20) 29, e0 (.iload_n 2) 1, e1 (.iconst 4) 1 4, em (.invokestatic 162) 2 100 mi_B_isPair, eb (.ifCond .eq 12) 29, e0 (.iload_n 3) 1, eb (.ifCond .lt 8) 29, e0 (.iload_n 3) 1, e1 (.iconst 1) 1 1, eb (.if_icmp .le 5) 31, e1 (.iconst (-1)) 1 (-1), e0 .ireturn 1, e0 (.aload_n 0) 1, e1 (.iconst 1) 1 1, e0 (.iload_n 1) 1, e0 .ishl 1, em (.invokevirtual 165) 2 0 mi_B_rowsRefusal, e0 (.istore 5) 2, e0 (.iload 5) 2, eb (.ifCond .eq 6) 48, e0 (.iload 5) 2, e0 .ireturn 1, e0 (.aload_n 0) 1, ef (.getfield 28) 0 2, e0 (.iload_n 2) 1, e1 (.bipush 10) 2 10, e0 .idiv 1, em (.invokevirtual 141) 2 3 mi_So_fill, e0 (.aload_n 0) 1, ef (.getfield 32) 0 3, e0 (.iload_n 2) 1, e1 (.bipush 10) 2 10, e0 .irem 1, em (.invokevirtual 141) 2 3 mi_So_fill, e1 (.bipush (-2)) 2 (-2), e0 (.istore 6) 2, e1 (.iconst 0) 1 0, e0 (.istore 7) 2, e1 (.iconst 0) 1 0, e0 (.istore 8) 2, e0 (.iload 8) 2, e0 (.aload 4) 2, em (.invokevirtual 168) 1 8 mi_Sh_minutes, eb (.if_icmp .ge 64) 151, e0 (.aload_n 0) 1, ef (.getfield 28) 0 2, e0 (.aload 4) 2, e0 (.iload 8) 2, em (.invokevirtual 171) 2 8 mi_Sh_at, e0 (.iload 8) 2, em (.invokevirtual 173) 3 3 mi_So_anywhere, eb (.ifCond .ne 39) 145, e0 (.aload_n 0) 1, ef (.getfield 32) 0 3, e0 (.aload 4) 2, e0 (.iload 8) 2, em (.invokevirtual 171) 2 8 mi_Sh_at, e0 (.iload 8) 2, em (.invokevirtual 173) 3 3 mi_So_anywhere, eb (.ifCond .eq 20) 145, e0 (.iload 7) 2, eb (.ifCond .ne 8) 138, e0 (.iload 8) 2, eb (.goto 5) 140, e0 (.iload 6) 2, e0 (.istore 6) 2, e1 (.iinc 7 1) 3 1, e1 (.iinc 8 1) 3 1, eb (.goto (-68)) 80, e0 (.iload_n 3) 1, eb (.ifCond .ne 8) 160, e0 (.iload 7) 2, eb (.goto 5) 162, e0 (.iload 6) 2, e0 .ireturn 1]
theorem dt_B_twoAtOnce : bt_dec mi_B_twoAtOnce.2.1 mi_B_twoAtOnce.2.2.1 0 ct_B_twoAtOnce = true := by decide +kernel
theorem kt_B_twoAtOnce : bt_T mi_B_twoAtOnce ct_B_twoAtOnce := ⟨dt_B_twoAtOnce, ⟨trivial, ⟨trivial, ⟨bv_B_76, ⟨trivial, ⟨trivial, ⟨trivial, ⟨trivial, ⟨trivial, ⟨⟨fun _ => bs_B_162, (fun h => by cases h)⟩, ⟨trivial, ⟨trivial, ⟨trivial, ⟨trivial, ⟨trivial, ⟨trivial, ⟨trivial, ⟨trivial, ⟨trivial, ⟨trivial, ⟨trivial, ⟨trivial, ⟨bv_B_165, ⟨trivial, ⟨trivial, ⟨trivial, ⟨trivial, ⟨trivial, ⟨trivial, ⟨lg_B_28, ⟨trivial, ⟨trivial, ⟨trivial, ⟨bv_B_141, ⟨trivial, ⟨lg_B_32, ⟨trivial, ⟨trivial, ⟨trivial, ⟨bv_B_141, ⟨trivial, ⟨trivial, ⟨trivial, ⟨trivial, ⟨trivial, ⟨trivial, ⟨trivial, ⟨trivial, ⟨bv_B_168, ⟨trivial, ⟨trivial, ⟨lg_B_28, ⟨trivial, ⟨trivial, ⟨bv_B_171, ⟨trivial, ⟨bv_B_173, ⟨trivial, ⟨trivial, ⟨lg_B_32, ⟨trivial, ⟨trivial, ⟨bv_B_171, ⟨trivial, ⟨bv_B_173, ⟨trivial, ⟨trivial, ⟨trivial, ⟨trivial, ⟨trivial, ⟨trivial, ⟨trivial, ⟨trivial, ⟨trivial, ⟨trivial, ⟨trivial, ⟨trivial, ⟨trivial, ⟨trivial, ⟨trivial, ⟨trivial, trivial⟩⟩⟩⟩⟩⟩⟩⟩⟩⟩⟩⟩⟩⟩⟩⟩⟩⟩⟩⟩⟩⟩⟩⟩⟩⟩⟩⟩⟩⟩⟩⟩⟩⟩⟩⟩⟩⟩⟩⟩⟩⟩⟩⟩⟩⟩⟩⟩⟩⟩⟩⟩⟩⟩⟩⟩⟩⟩⟩⟩⟩⟩⟩⟩⟩⟩⟩⟩⟩⟩⟩⟩⟩⟩⟩⟩⟩⟩⟩⟩⟩
def ct_B_least : List bt_E := [e0 (.iload_n 1) 1, e1 (.bipush 10) 2 10, e0 .idiv 1, e1 (.bipush 10) 2 10, e0 .irem 1, e0 (.istore 4) 2, e0 (.iload_n 1) 1, e1 (.bipush 10) 2 10, e0 .irem 1, e0 (.istore 5) 2, e0 (.iload_n 1) 1, eb (.ifCond .lt 37) 53, e0 (.iload_n 1) 1, e1 (.bipush 100) 2 100, e0 .idiv 1, em (.invokestatic 134) 1 100 mi_B_isSort, eb (.ifCond .eq 27) 53, e0 (.aload_n 0) 1, ef (.getfield 10) 0 0, e0 (.iload 4) 2, em (.invokevirtual 113) 2 1 mi_Fo_has, eb (.ifCond .eq 15) 53, e0 (.aload_n 0) 1, ef (.getfield 10) 0 0, e0 (.iload 5) 2, em (.invokevirtual 113) 2 1 mi_Fo_has, eb (.ifCond .ne 5) 55, e1 (.iconst (-1)) 1 (-1), e0 .ireturn 1, e0 (.iload_n 2) 1, e1 (.bipush 100) 2 100, e0 .idiv 1, e0 (.istore 6) 2, e0 (.iload_n 2) 1, e1 (.bipush 100) 2 100, e0 .irem 1, e0 (.istore 7) 2, e0 (.iload_n 2) 1, eb (.ifCond .lt 26) 94, e0 (.iload 6) 2, em (.invokestatic 137) 1 100 mi_B_isMinute, eb (.ifCond .eq 18) 94, e0 (.iload 7) 2, em (.invokestatic 137) 1 100 mi_B_isMinute, eb (.ifCond .eq 10) 94, e0 (.iload 7) 2, e0 (.iload 6) 2, eb (.if_icmp .ge 5) 96, e1 (.iconst (-1)) 1 (-1), e0 .ireturn 1, e0 (.iload_n 3) 1, e1 (.iconst (-1)) 1 (-1), eb (.if_icmp .eq 17) 115, e0 (.iload_n 3) 1, e0 (.iload 6) 2, eb (.if_icmp .lt 9) 113, e0 (.iload_n 3) 1, e0 (.iload 7) 2, eb (.if_icmp .le 5) 115, e1 (.iconst (-1)) 1 (-1), e0 .ireturn 1, e0 (.aload_n 0) 1, ef (.getfield 28) 0 2, e0 (.iload_n 1) 1, e1 (.bipush 100) 2 100, e0 .idiv 1, em (.invokevirtual 141) 2 3 mi_So_fill, e0 (.aload_n 0) 1, ef (.getfield 40) 0 4, e0 (.aload_n 0) 1, ef (.getfield 28) 0 2, e0 (.iload 5) 2, e0 (.iload 6) 2, e0 (.iload 7) 2, em (.invokevirtual 176) 5 4 mi_Wa_measure, e0 (.aload_n 0) 1, ef (.getfield 40) 0 4, e0 (.iload 4) 2, e0 (.iload 6) 2, em (.invokevirtual 180) 3 4 mi_Wa_fewestFrom, e0 (.istore 8) 2, e0 (.iload 8) 2, e1 (.bipush (-2)) 2 (-2), eb (.if_icmp .eq 8) 168, e0 (.iload_n 3) 1, e1 (.iconst (-1)) 1 (-1), eb (.if_icmp .ne 6) 171, e0 (.iload 8) 2, e0 .ireturn 1, e0 (.aload_n 0) 1, ef (.getfield 40) 0 4, e0 (.iload 4) 2, e0 (.iload 6) 2, e0 (.iload_n 3) 1, em (.invokevirtual 183) 4 4 mi_Wa_quietAt, e0 .ireturn 1]
theorem dt_B_least : bt_dec mi_B_least.2.1 mi_B_least.2.2.1 0 ct_B_least = true := by decide +kernel
theorem kt_B_least : bt_T mi_B_least ct_B_least := ⟨dt_B_least, ⟨trivial, ⟨trivial, ⟨trivial, ⟨trivial, ⟨trivial, ⟨trivial, ⟨trivial, ⟨trivial, ⟨trivial, ⟨trivial, ⟨trivial, ⟨trivial, ⟨trivial, ⟨trivial, ⟨trivial, ⟨⟨fun _ => bs_B_134, (fun h => by cases h)⟩, ⟨trivial, ⟨trivial, ⟨lg_B_10, ⟨trivial, ⟨bv_B_113, ⟨trivial, ⟨trivial, ⟨lg_B_10, ⟨trivial, ⟨bv_B_113, ⟨trivial, ⟨trivial, ⟨trivial, ⟨trivial, ⟨trivial, ⟨trivial, ⟨trivial, ⟨trivial, ⟨trivial, ⟨trivial, ⟨trivial, ⟨trivial, ⟨trivial, ⟨trivial, ⟨⟨fun _ => bs_B_137, (fun h => by cases h)⟩, ⟨trivial, ⟨trivial, ⟨⟨fun _ => bs_B_137, (fun h => by cases h)⟩, ⟨trivial, ⟨trivial, ⟨trivial, ⟨trivial, ⟨trivial, ⟨trivial, ⟨trivial, ⟨trivial, ⟨trivial, ⟨trivial, ⟨trivial, ⟨trivial, ⟨trivial, ⟨trivial, ⟨trivial, ⟨trivial, ⟨trivial, ⟨trivial, ⟨lg_B_28, ⟨trivial, ⟨trivial, ⟨trivial, ⟨bv_B_141, ⟨trivial, ⟨lg_B_40, ⟨trivial, ⟨lg_B_28, ⟨trivial, ⟨trivial, ⟨trivial, ⟨bv_B_176, ⟨trivial, ⟨lg_B_40, ⟨trivial, ⟨trivial, ⟨bv_B_180, ⟨trivial, ⟨trivial, ⟨trivial, ⟨trivial, ⟨trivial, ⟨trivial, ⟨trivial, ⟨trivial, ⟨trivial, ⟨trivial, ⟨lg_B_40, ⟨trivial, ⟨trivial, ⟨trivial, ⟨bv_B_183, ⟨trivial, trivial⟩⟩⟩⟩⟩⟩⟩⟩⟩⟩⟩⟩⟩⟩⟩⟩⟩⟩⟩⟩⟩⟩⟩⟩⟩⟩⟩⟩⟩⟩⟩⟩⟩⟩⟩⟩⟩⟩⟩⟩⟩⟩⟩⟩⟩⟩⟩⟩⟩⟩⟩⟩⟩⟩⟩⟩⟩⟩⟩⟩⟩⟩⟩⟩⟩⟩⟩⟩⟩⟩⟩⟩⟩⟩⟩⟩⟩⟩⟩⟩⟩⟩⟩⟩⟩⟩⟩⟩⟩⟩⟩⟩⟩⟩⟩⟩⟩
def ct_B_gone : List bt_E := [e0 (.aload_n 0) 1, e0 (.iload_n 1) 1, e0 (.iload_n 2) 1, em (.invokevirtual 186) 3 0 mi_B_walkAndBookRefusal, e0 (.istore_n 3) 1, e0 (.iload_n 3) 1, eb (.ifCond .eq 5) 13, e0 (.iload_n 3) 1, e0 .ireturn 1, e0 (.aload_n 0) 1, ef (.getfield 28) 0 2, e0 (.iload_n 1) 1, em (.invokevirtual 141) 2 3 mi_So_fill, e0 (.aload_n 0) 1, e0 (.aload_n 0) 1, e0 (.iload_n 2) 1, e1 (.bipush 10) 2 10, e0 .idiv 1, em (.invokevirtual 76) 2 0 mi_B_shelfAt, e0 (.aload_n 0) 1, e0 (.iload_n 2) 1, e1 (.bipush 10) 2 10, e0 .irem 1, em (.invokevirtual 76) 2 0 mi_B_shelfAt, em (.invokevirtual 189) 3 0 mi_B_bellsGone, e0 .ireturn 1]
theorem dt_B_gone : bt_dec mi_B_gone.2.1 mi_B_gone.2.2.1 0 ct_B_gone = true := by decide +kernel
theorem kt_B_gone : bt_T mi_B_gone ct_B_gone := ⟨dt_B_gone, ⟨trivial, ⟨trivial, ⟨trivial, ⟨bv_B_186, ⟨trivial, ⟨trivial, ⟨trivial, ⟨trivial, ⟨trivial, ⟨trivial, ⟨lg_B_28, ⟨trivial, ⟨bv_B_141, ⟨trivial, ⟨trivial, ⟨trivial, ⟨trivial, ⟨trivial, ⟨bv_B_76, ⟨trivial, ⟨trivial, ⟨trivial, ⟨trivial, ⟨bv_B_76, ⟨bv_B_189, ⟨trivial, trivial⟩⟩⟩⟩⟩⟩⟩⟩⟩⟩⟩⟩⟩⟩⟩⟩⟩⟩⟩⟩⟩⟩⟩⟩⟩⟩⟩
def ct_B_apart : List bt_E := [e0 (.iload_n 1) 1, e1 (.iconst 4) 1 4, em (.invokestatic 162) 2 100 mi_B_isPair, eb (.ifCond .eq 12) 17, e0 (.iload_n 2) 1, e1 (.bipush 6) 2 6, em (.invokestatic 162) 2 100 mi_B_isPair, eb (.ifCond .ne 5) 19, e1 (.iconst (-1)) 1 (-1), e0 .ireturn 1, e1 (.iconst 1) 1 1, e0 (.iload_n 2) 1, e1 (.bipush 10) 2 10, e0 .idiv 1, e0 .ishl 1, e1 (.iconst 1) 1 1, e0 (.iload_n 2) 1, e1 (.bipush 10) 2 10, e0 .irem 1, e0 .ishl 1, e0 .ior 1, e0 (.istore_n 3) 1, e0 (.aload_n 0) 1, e0 (.iload_n 3) 1, em (.invokevirtual 193) 2 0 mi_B_walksRefusal, e0 (.istore 4) 2, e0 (.iload 4) 2, eb (.ifCond .eq 6) 48, e0 (.iload 4) 2, e0 .ireturn 1, e0 (.aload_n 0) 1, ef (.getfield 28) 0 2, e0 (.iload_n 1) 1, e1 (.bipush 10) 2 10, e0 .idiv 1, em (.invokevirtual 141) 2 3 mi_So_fill, e0 (.aload_n 0) 1, ef (.getfield 32) 0 3, e0 (.iload_n 1) 1, e1 (.bipush 10) 2 10, e0 .irem 1, em (.invokevirtual 141) 2 3 mi_So_fill, e0 (.aload_n 0) 1, e0 (.aload_n 0) 1, e0 (.iload_n 2) 1, e1 (.bipush 10) 2 10, e0 .idiv 1, em (.invokevirtual 76) 2 0 mi_B_shelfAt, e0 (.aload_n 0) 1, e0 (.iload_n 2) 1, e1 (.bipush 10) 2 10, e0 .irem 1, em (.invokevirtual 76) 2 0 mi_B_shelfAt, e0 (.aload_n 0) 1, ef (.getfield 32) 0 3, e1 (.sipush 255) 3 255, em (.invokevirtual 196) 5 0 mi_B_firstUnlike, e0 .ireturn 1]
theorem dt_B_apart : bt_dec mi_B_apart.2.1 mi_B_apart.2.2.1 0 ct_B_apart = true := by decide +kernel
theorem kt_B_apart : bt_T mi_B_apart ct_B_apart := ⟨dt_B_apart, ⟨trivial, ⟨trivial, ⟨⟨fun _ => bs_B_162, (fun h => by cases h)⟩, ⟨trivial, ⟨trivial, ⟨trivial, ⟨⟨fun _ => bs_B_162, (fun h => by cases h)⟩, ⟨trivial, ⟨trivial, ⟨trivial, ⟨trivial, ⟨trivial, ⟨trivial, ⟨trivial, ⟨trivial, ⟨trivial, ⟨trivial, ⟨trivial, ⟨trivial, ⟨trivial, ⟨trivial, ⟨trivial, ⟨trivial, ⟨trivial, ⟨bv_B_193, ⟨trivial, ⟨trivial, ⟨trivial, ⟨trivial, ⟨trivial, ⟨trivial, ⟨lg_B_28, ⟨trivial, ⟨trivial, ⟨trivial, ⟨bv_B_141, ⟨trivial, ⟨lg_B_32, ⟨trivial, ⟨trivial, ⟨trivial, ⟨bv_B_141, ⟨trivial, ⟨trivial, ⟨trivial, ⟨trivial, ⟨trivial, ⟨bv_B_76, ⟨trivial, ⟨trivial, ⟨trivial, ⟨trivial, ⟨bv_B_76, ⟨trivial, ⟨lg_B_32, ⟨trivial, ⟨bv_B_196, ⟨trivial, trivial⟩⟩⟩⟩⟩⟩⟩⟩⟩⟩⟩⟩⟩⟩⟩⟩⟩⟩⟩⟩⟩⟩⟩⟩⟩⟩⟩⟩⟩⟩⟩⟩⟩⟩⟩⟩⟩⟩⟩⟩⟩⟩⟩⟩⟩⟩⟩⟩⟩⟩⟩⟩⟩⟩⟩⟩⟩⟩⟩
def ct_B_enough : List bt_E := [e0 (.iload_n 1) 1, em (.invokestatic 134) 1 100 mi_B_isSort, eb (.ifCond .eq 13) 17, e0 (.iload_n 2) 1, e1 (.iconst 1) 1 1, eb (.if_icmp .lt 8) 17, e0 (.iload_n 2) 1, e1 (.iconst 4) 1 4, eb (.if_icmp .le 5) 19, e1 (.iconst (-1)) 1 (-1), e0 .ireturn 1, e0 (.aload_n 0) 1, e1 (.iconst 1) 1 1, e0 (.iload_n 2) 1, e0 .ishl 1, e1 (.iconst 1) 1 1, e0 .isub 1, em (.invokevirtual 193) 2 0 mi_B_walksRefusal, e0 (.istore_n 3) 1, e0 (.iload_n 3) 1, eb (.ifCond .eq 5) 35, e0 (.iload_n 3) 1, e0 .ireturn 1, e0 (.aload_n 0) 1, ef (.getfield 28) 0 2, e0 (.iload_n 1) 1, em (.invokevirtual 141) 2 3 mi_So_fill, e0 (.aload_n 0) 1, ef (.getfield 10) 0 0, em (.invokevirtual 200) 1 1 mi_Fo_bellsThere, e0 (.istore 4) 2, e1 (.bipush (-2)) 2 (-2), e0 (.istore 5) 2, e1 (.bipush 9) 2 9, e0 (.istore 6) 2, e1 (.iconst 1) 1 1, e0 (.istore 7) 2, e0 (.iload 7) 2, e0 (.iload 4) 2, eb (.if_icmp .gt 51) 118, e0 (.iload 7) 2, em (.invokestatic 203) 1 100 mi_JI_bitCount, e0 (.istore 8) 2, e0 (.iload 7) 2, e0 (.iload 4) 2, e1 (.iconst (-1)) 1 (-1), e0 .ixor 1, e0 .iand 1, eb (.ifCond .ne 28) 112, e0 (.iload 8) 2, e0 (.iload 6) 2, eb (.if_icmp .ge 21) 112, e0 (.aload_n 0) 1, e0 (.iload_n 2) 1, e0 (.iload 7) 2, em (.invokevirtual 208) 3 0 mi_B_areTold, eb (.ifCond .eq 11) 112, e0 (.iload 7) 2, e0 (.istore 5) 2, e0 (.iload 8) 2, e0 (.istore 6) 2, e1 (.iinc 7 1) 3 1, eb (.goto (-52)) 63, e0 (.iload 5) 2, e0 .ireturn 1]
theorem dt_B_enough : bt_dec mi_B_enough.2.1 mi_B_enough.2.2.1 0 ct_B_enough = true := by decide +kernel
theorem kt_B_enough : bt_T mi_B_enough ct_B_enough := ⟨dt_B_enough, ⟨trivial, ⟨⟨fun _ => bs_B_134, (fun h => by cases h)⟩, ⟨trivial, ⟨trivial, ⟨trivial, ⟨trivial, ⟨trivial, ⟨trivial, ⟨trivial, ⟨trivial, ⟨trivial, ⟨trivial, ⟨trivial, ⟨trivial, ⟨trivial, ⟨trivial, ⟨trivial, ⟨bv_B_193, ⟨trivial, ⟨trivial, ⟨trivial, ⟨trivial, ⟨trivial, ⟨trivial, ⟨lg_B_28, ⟨trivial, ⟨bv_B_141, ⟨trivial, ⟨lg_B_10, ⟨bv_B_200, ⟨trivial, ⟨trivial, ⟨trivial, ⟨trivial, ⟨trivial, ⟨trivial, ⟨trivial, ⟨trivial, ⟨trivial, ⟨trivial, ⟨trivial, ⟨⟨fun _ => bs_B_203, (fun h => by cases h)⟩, ⟨trivial, ⟨trivial, ⟨trivial, ⟨trivial, ⟨trivial, ⟨trivial, ⟨trivial, ⟨trivial, ⟨trivial, ⟨trivial, ⟨trivial, ⟨trivial, ⟨trivial, ⟨bv_B_208, ⟨trivial, ⟨trivial, ⟨trivial, ⟨trivial, ⟨trivial, ⟨trivial, ⟨trivial, ⟨trivial, ⟨trivial, trivial⟩⟩⟩⟩⟩⟩⟩⟩⟩⟩⟩⟩⟩⟩⟩⟩⟩⟩⟩⟩⟩⟩⟩⟩⟩⟩⟩⟩⟩⟩⟩⟩⟩⟩⟩⟩⟩⟩⟩⟩⟩⟩⟩⟩⟩⟩⟩⟩⟩⟩⟩⟩⟩⟩⟩⟩⟩⟩⟩⟩⟩⟩⟩⟩⟩⟩
def ct_B_tuned : List bt_E := [e0 (.iload_n 1) 1, eb (.ifCond .lt 8) 9, e0 (.iload_n 1) 1, e1 (.iconst 1) 1 1, eb (.if_icmp .le 5) 11, e1 (.iconst (-1)) 1 (-1), e0 .ireturn 1, e0 (.aload_n 0) 1, ef (.getfield 10) 0 0, em (.invokevirtual 211) 1 1 mi_Fo_fewestToTune, e0 (.istore_n 2) 1, e0 (.iload_n 1) 1, eb (.ifCond .ne 10) 30, e0 (.iload_n 2) 1, em (.invokestatic 203) 1 100 mi_JI_bitCount, eb (.goto 4) 31, e0 (.iload_n 2) 1, e0 .ireturn 1]
theorem dt_B_tuned : bt_dec mi_B_tuned.2.1 mi_B_tuned.2.2.1 0 ct_B_tuned = true := by decide +kernel
theorem kt_B_tuned : bt_T mi_B_tuned ct_B_tuned := ⟨dt_B_tuned, ⟨trivial, ⟨trivial, ⟨trivial, ⟨trivial, ⟨trivial, ⟨trivial, ⟨trivial, ⟨trivial, ⟨lg_B_10, ⟨bv_B_211, ⟨trivial, ⟨trivial, ⟨trivial, ⟨trivial, ⟨⟨fun _ => bs_B_203, (fun h => by cases h)⟩, ⟨trivial, ⟨trivial, ⟨trivial, trivial⟩⟩⟩⟩⟩⟩⟩⟩⟩⟩⟩⟩⟩⟩⟩⟩⟩⟩⟩
def ct_B_drawn : List bt_E := [e0 (.iload_n 2) 1, e1 (.bipush 100) 2 100, e0 .irem 1, e0 (.istore 4) 2, e0 (.iload_n 2) 1, eb (.ifCond .lt 26) 33, e0 (.iload_n 2) 1, e1 (.bipush 100) 2 100, e0 .idiv 1, em (.invokestatic 134) 1 100 mi_B_isSort, eb (.ifCond .eq 16) 33, e0 (.iload 4) 2, e1 (.iconst 1) 1 1, eb (.if_icmp .lt 10) 33, e0 (.iload 4) 2, e1 (.bipush 30) 2 30, eb (.if_icmp .le 5) 35, e1 (.iconst (-1)) 1 (-1), e0 .ireturn 1, e0 (.iload_n 3) 1, e1 (.bipush (-2)) 2 (-2), eb (.if_icmp .lt 18) 56, e0 (.iload_n 3) 1, eb (.ifCond .lt 16) 58, e0 (.aload_n 0) 1, ef (.getfield 10) 0 0, e0 (.iload_n 3) 1, em (.invokevirtual 113) 2 1 mi_Fo_has, eb (.ifCond .ne 5) 58, e1 (.iconst (-1)) 1 (-1), e0 .ireturn 1, e0 (.aload_n 0) 1, ef (.getfield 10) 0 0, em (.invokevirtual 214) 1 1 mi_Fo_size, eb (.ifCond .ne 6) 71, e1 (.bipush (-5)) 2 (-5), e0 .ireturn 1, e0 (.aload_n 0) 1, ef (.getfield 28) 0 2, e0 (.iload_n 2) 1, e1 (.bipush 100) 2 100, e0 .idiv 1, em (.invokevirtual 141) 2 3 mi_So_fill, e0 (.aload_n 0) 1, e0 (.iload_n 1) 1, e0 (.iload 4) 2, e0 (.iload_n 3) 1, em (.invokevirtual 217) 4 0 mi_B_drawWalkers, e0 .ireturn 1]
theorem dt_B_drawn : bt_dec mi_B_drawn.2.1 mi_B_drawn.2.2.1 0 ct_B_drawn = true := by decide +kernel
theorem kt_B_drawn : bt_T mi_B_drawn ct_B_drawn := ⟨dt_B_drawn, ⟨trivial, ⟨trivial, ⟨trivial, ⟨trivial, ⟨trivial, ⟨trivial, ⟨trivial, ⟨trivial, ⟨trivial, ⟨⟨fun _ => bs_B_134, (fun h => by cases h)⟩, ⟨trivial, ⟨trivial, ⟨trivial, ⟨trivial, ⟨trivial, ⟨trivial, ⟨trivial, ⟨trivial, ⟨trivial, ⟨trivial, ⟨trivial, ⟨trivial, ⟨trivial, ⟨trivial, ⟨trivial, ⟨lg_B_10, ⟨trivial, ⟨bv_B_113, ⟨trivial, ⟨trivial, ⟨trivial, ⟨trivial, ⟨lg_B_10, ⟨bv_B_214, ⟨trivial, ⟨trivial, ⟨trivial, ⟨trivial, ⟨lg_B_28, ⟨trivial, ⟨trivial, ⟨trivial, ⟨bv_B_141, ⟨trivial, ⟨trivial, ⟨trivial, ⟨trivial, ⟨bv_B_217, ⟨trivial, trivial⟩⟩⟩⟩⟩⟩⟩⟩⟩⟩⟩⟩⟩⟩⟩⟩⟩⟩⟩⟩⟩⟩⟩⟩⟩⟩⟩⟩⟩⟩⟩⟩⟩⟩⟩⟩⟩⟩⟩⟩⟩⟩⟩⟩⟩⟩⟩⟩⟩⟩
def ct_B_years : List bt_E := [e0 (.iload_n 2) 1, e1 (.iconst 1) 1 1, eb (.if_icmp .lt 9) 11, e0 (.iload_n 2) 1, e1 (.bipush 30) 2 30, eb (.if_icmp .le 5) 13, e1 (.iconst (-1)) 1 (-1), e0 .ireturn 1, e0 (.aload_n 0) 1, ef (.getfield 10) 0 0, e0 (.iload_n 1) 1, e0 (.iload_n 2) 1, em (.invokevirtual 220) 3 1 mi_Fo_grow, e0 .ireturn 1]
theorem dt_B_years : bt_dec mi_B_years.2.1 mi_B_years.2.2.1 0 ct_B_years = true := by decide +kernel
theorem kt_B_years : bt_T mi_B_years ct_B_years := ⟨dt_B_years, ⟨trivial, ⟨trivial, ⟨trivial, ⟨trivial, ⟨trivial, ⟨trivial, ⟨trivial, ⟨trivial, ⟨trivial, ⟨lg_B_10, ⟨trivial, ⟨trivial, ⟨bv_B_220, ⟨trivial, trivial⟩⟩⟩⟩⟩⟩⟩⟩⟩⟩⟩⟩⟩⟩⟩
def ct_B_walk : List bt_E := [e0 (.aload_n 0) 1, e0 (.iload_n 2) 1, em (.invokevirtual 76) 2 0 mi_B_shelfAt, e0 (.astore_n 3) 1, e0 (.iload_n 1) 1, em (.invokestatic 134) 1 100 mi_B_isSort, eb (.ifCond .eq 7) 17, e0 (.aload_n 3) 1, eb (.ifnonnull 5) 19, e1 (.iconst (-1)) 1 (-1), e0 .ireturn 1, e0 (.aload_n 0) 1, e1 (.iconst 1) 1 1, e0 (.iload_n 2) 1, e0 .ishl 1, em (.invokevirtual 193) 2 0 mi_B_walksRefusal, e0 (.istore 4) 2, e0 (.iload 4) 2, eb (.ifCond .eq 6) 36, e0 (.iload 4) 2, e0 .ireturn 1, e0 (.aload_n 0) 1, ef (.getfield 28) 0 2, e0 (.iload_n 1) 1, em (.invokevirtual 141) 2 3 mi_So_fill, e1 (.iconst 0) 1 0, e0 (.istore 5) 2, e1 (.iconst 0) 1 0, e0 (.istore 6) 2, e0 (.iload 6) 2, e0 (.aload_n 3) 1, em (.invokevirtual 168) 1 8 mi_Sh_minutes, eb (.if_icmp .ge 44) 100, e0 (.aload_n 0) 1, ef (.getfield 28) 0 2, e0 (.aload_n 3) 1, e0 (.iload 6) 2, em (.invokevirtual 171) 2 8 mi_Sh_at, e0 (.iload 6) 2, em (.invokevirtual 145) 3 3 mi_So_at, e1 (.iconst (-1)) 1 (-1), eb (.if_icmp .eq 19) 94, e0 (.aload_n 0) 1, ef (.getfield 10) 0 0, e0 (.aload_n 3) 1, e0 (.iload 6) 2, em (.invokevirtual 171) 2 8 mi_Sh_at, em (.invokevirtual 223) 2 1 mi_Fo_addHeard, e1 (.iinc 5 1) 3 1, e1 (.iinc 6 1) 3 1, eb (.goto (-47)) 50, e0 (.aload_n 0) 1, ef (.getfield 10) 0 0, em (.invokevirtual 226) 1 1 mi_Fo_addWalk, e0 (.iload 5) 2, e0 .ireturn 1]
theorem dt_B_walk : bt_dec mi_B_walk.2.1 mi_B_walk.2.2.1 0 ct_B_walk = true := by decide +kernel
theorem kt_B_walk : bt_T mi_B_walk ct_B_walk := ⟨dt_B_walk, ⟨trivial, ⟨trivial, ⟨bv_B_76, ⟨trivial, ⟨trivial, ⟨⟨fun _ => bs_B_134, (fun h => by cases h)⟩, ⟨trivial, ⟨trivial, ⟨trivial, ⟨trivial, ⟨trivial, ⟨trivial, ⟨trivial, ⟨trivial, ⟨trivial, ⟨bv_B_193, ⟨trivial, ⟨trivial, ⟨trivial, ⟨trivial, ⟨trivial, ⟨trivial, ⟨lg_B_28, ⟨trivial, ⟨bv_B_141, ⟨trivial, ⟨trivial, ⟨trivial, ⟨trivial, ⟨trivial, ⟨trivial, ⟨bv_B_168, ⟨trivial, ⟨trivial, ⟨lg_B_28, ⟨trivial, ⟨trivial, ⟨bv_B_171, ⟨trivial, ⟨bv_B_145, ⟨trivial, ⟨trivial, ⟨trivial, ⟨lg_B_10, ⟨trivial, ⟨trivial, ⟨bv_B_171, ⟨bv_B_223, ⟨trivial, ⟨trivial, ⟨trivial, ⟨trivial, ⟨lg_B_10, ⟨bv_B_226, ⟨trivial, ⟨trivial, trivial⟩⟩⟩⟩⟩⟩⟩⟩⟩⟩⟩⟩⟩⟩⟩⟩⟩⟩⟩⟩⟩⟩⟩⟩⟩⟩⟩⟩⟩⟩⟩⟩⟩⟩⟩⟩⟩⟩⟩⟩⟩⟩⟩⟩⟩⟩⟩⟩⟩⟩⟩⟩⟩⟩⟩⟩⟩
def ct_B_judge : List bt_E := [e0 (.aload_n 0) 1, e0 (.iload_n 1) 1, e0 (.iload_n 2) 1, em (.invokevirtual 186) 3 0 mi_B_walkAndBookRefusal, e0 (.istore_n 3) 1, e0 (.iload_n 3) 1, eb (.ifCond .eq 5) 13, e0 (.iload_n 3) 1, e0 .ireturn 1, e0 (.aload_n 0) 1, ef (.getfield 28) 0 2, e0 (.iload_n 1) 1, em (.invokevirtual 141) 2 3 mi_So_fill, e0 (.aload_n 0) 1, e0 (.aload_n 0) 1, e0 (.iload_n 2) 1, e1 (.bipush 10) 2 10, e0 .idiv 1, em (.invokevirtual 76) 2 0 mi_B_shelfAt, e0 (.aload_n 0) 1, e0 (.iload_n 2) 1, e1 (.bipush 10) 2 10, e0 .irem 1, em (.invokevirtual 76) 2 0 mi_B_shelfAt, e1 (.sipush 255) 3 255, em (.invokevirtual 229) 4 0 mi_B_firstNotSo, e0 .ireturn 1]
theorem dt_B_judge : bt_dec mi_B_judge.2.1 mi_B_judge.2.2.1 0 ct_B_judge = true := by decide +kernel
theorem kt_B_judge : bt_T mi_B_judge ct_B_judge := ⟨dt_B_judge, ⟨trivial, ⟨trivial, ⟨trivial, ⟨bv_B_186, ⟨trivial, ⟨trivial, ⟨trivial, ⟨trivial, ⟨trivial, ⟨trivial, ⟨lg_B_28, ⟨trivial, ⟨bv_B_141, ⟨trivial, ⟨trivial, ⟨trivial, ⟨trivial, ⟨trivial, ⟨bv_B_76, ⟨trivial, ⟨trivial, ⟨trivial, ⟨trivial, ⟨bv_B_76, ⟨trivial, ⟨bv_B_229, ⟨trivial, trivial⟩⟩⟩⟩⟩⟩⟩⟩⟩⟩⟩⟩⟩⟩⟩⟩⟩⟩⟩⟩⟩⟩⟩⟩⟩⟩⟩⟩
def ct_B_image : List bt_E := [e0 (.aload_n 0) 1, ef (.getfield 54) 0 6, e0 (.aload_n 0) 1, ef (.getfield 10) 0 0, em (.invokevirtual 233) 2 6 mi_Im_draw, e0 .ireturn 1]
theorem dt_B_image : bt_dec mi_B_image.2.1 mi_B_image.2.2.1 0 ct_B_image = true := by decide +kernel
theorem kt_B_image : bt_T mi_B_image ct_B_image := ⟨dt_B_image, ⟨trivial, ⟨lg_B_54, ⟨trivial, ⟨lg_B_10, ⟨bv_B_233, ⟨trivial, trivial⟩⟩⟩⟩⟩⟩⟩
def ct_B_back : List bt_E := [e0 (.aload_n 0) 1, ef (.getfield 54) 0 6, e0 (.aload_n 0) 1, ef (.getfield 10) 0 0, em (.invokevirtual 237) 2 6 mi_Im_lay, e0 .ireturn 1]
theorem dt_B_back : bt_dec mi_B_back.2.1 mi_B_back.2.2.1 0 ct_B_back = true := by decide +kernel
theorem kt_B_back : bt_T mi_B_back ct_B_back := ⟨dt_B_back, ⟨trivial, ⟨lg_B_54, ⟨trivial, ⟨lg_B_10, ⟨bv_B_237, ⟨trivial, trivial⟩⟩⟩⟩⟩⟩⟩
def ct_B_undo : List bt_E := [e0 (.aload_n 0) 1, ef (.getfield 47) 0 5, e0 (.aload_n 0) 1, ef (.getfield 10) 0 0, em (.invokevirtual 240) 2 5 mi_Ch_revert, e0 .ireturn 1]
theorem dt_B_undo : bt_dec mi_B_undo.2.1 mi_B_undo.2.2.1 0 ct_B_undo = true := by decide +kernel
theorem kt_B_undo : bt_T mi_B_undo ct_B_undo := ⟨dt_B_undo, ⟨trivial, ⟨lg_B_47, ⟨trivial, ⟨lg_B_10, ⟨bv_B_240, ⟨trivial, trivial⟩⟩⟩⟩⟩⟩⟩
def ct_B_redo : List bt_E := [e0 (.aload_n 0) 1, ef (.getfield 47) 0 5, e0 (.aload_n 0) 1, ef (.getfield 10) 0 0, em (.invokevirtual 243) 2 5 mi_Ch_repeat, e0 .ireturn 1]
theorem dt_B_redo : bt_dec mi_B_redo.2.1 mi_B_redo.2.2.1 0 ct_B_redo = true := by decide +kernel
theorem kt_B_redo : bt_T mi_B_redo ct_B_redo := ⟨dt_B_redo, ⟨trivial, ⟨lg_B_47, ⟨trivial, ⟨lg_B_10, ⟨bv_B_243, ⟨trivial, trivial⟩⟩⟩⟩⟩⟩⟩
def ct_B_body : List bt_E := [e0 (.aload_n 0) 1, ef (.getfield 61) 0 7, e0 (.iload_n 1) 1, em (.invokevirtual 246) 2 7 mi_Bo_add, e0 .ireturn 1]
theorem dt_B_body : bt_dec mi_B_body.2.1 mi_B_body.2.2.1 0 ct_B_body = true := by decide +kernel
theorem kt_B_body : bt_T mi_B_body ct_B_body := ⟨dt_B_body, ⟨trivial, ⟨lg_B_61, ⟨trivial, ⟨bv_B_246, ⟨trivial, trivial⟩⟩⟩⟩⟩⟩
def ct_B_act : List bt_E := [e0 (.aload_n 0) 1, ef (.getfield 61) 0 7, e0 (.iload_n 1) 1, e0 (.iload_n 2) 1, e0 (.iload_n 3) 1, em (.invokevirtual 248) 4 7 mi_Bo_perform, e0 .ireturn 1]
theorem dt_B_act : bt_dec mi_B_act.2.1 mi_B_act.2.2.1 0 ct_B_act = true := by decide +kernel
theorem kt_B_act : bt_T mi_B_act ct_B_act := ⟨dt_B_act, ⟨trivial, ⟨lg_B_61, ⟨trivial, ⟨trivial, ⟨trivial, ⟨bv_B_248, ⟨trivial, trivial⟩⟩⟩⟩⟩⟩⟩⟩
def ct_B_trace : List bt_E := [e0 (.aload_n 0) 1, ef (.getfield 61) 0 7, e0 (.iload_n 1) 1, em (.invokevirtual 251) 2 7 mi_Bo_traced, e0 .ireturn 1]
theorem dt_B_trace : bt_dec mi_B_trace.2.1 mi_B_trace.2.2.1 0 ct_B_trace = true := by decide +kernel
theorem kt_B_trace : bt_T mi_B_trace ct_B_trace := ⟨dt_B_trace, ⟨trivial, ⟨lg_B_61, ⟨trivial, ⟨bv_B_251, ⟨trivial, trivial⟩⟩⟩⟩⟩⟩
def ct_B_keep : List bt_E := [e0 (.aload_n 0) 1, e0 (.iload_n 1) 1, em (.invokevirtual 76) 2 0 mi_B_shelfAt, e0 (.astore_n 3) 1, e0 (.aload_n 3) 1, eb (.ifnull 19) 26, e0 (.iload_n 2) 1, e1 (.iconst (-1)) 1 (-1), eb (.if_icmp .lt 14) 26, e0 (.iload_n 2) 1, e0 (.aload_n 0) 1, ef (.getfield 61) 0 7, em (.invokevirtual 254) 1 7 mi_Bo_size, eb (.if_icmp .lt 5) 28, e1 (.iconst (-1)) 1 (-1), e0 .ireturn 1, e0 (.aload_n 3) 1, e0 (.iload_n 2) 1, em (.invokevirtual 255) 2 8 mi_Sh_holdBody, e1 (.iconst 1) 1 1, e0 .ireturn 1]
theorem dt_B_keep : bt_dec mi_B_keep.2.1 mi_B_keep.2.2.1 0 ct_B_keep = true := by decide +kernel
theorem kt_B_keep : bt_T mi_B_keep ct_B_keep := ⟨dt_B_keep, ⟨trivial, ⟨trivial, ⟨bv_B_76, ⟨trivial, ⟨trivial, ⟨trivial, ⟨trivial, ⟨trivial, ⟨trivial, ⟨trivial, ⟨trivial, ⟨lg_B_61, ⟨bv_B_254, ⟨trivial, ⟨trivial, ⟨trivial, ⟨trivial, ⟨trivial, ⟨bv_B_255, ⟨trivial, ⟨trivial, trivial⟩⟩⟩⟩⟩⟩⟩⟩⟩⟩⟩⟩⟩⟩⟩⟩⟩⟩⟩⟩⟩⟩
def ct_B_row : List bt_E := [e0 (.aload_n 0) 1, e0 (.iload_n 1) 1, em (.invokevirtual 76) 2 0 mi_B_shelfAt, e0 (.astore 4) 2, e0 (.aload 4) 2, eb (.ifnull 18) 27, e0 (.iload_n 2) 1, eb (.ifCond .lt 14) 27, e0 (.iload_n 2) 1, e1 (.iconst 5) 1 5, eb (.if_icmp .ge 9) 27, e0 (.iload_n 3) 1, e1 (.bipush 60) 2 60, eb (.if_icmp .le 5) 29, e1 (.iconst (-1)) 1 (-1), e0 .ireturn 1, e0 (.iload_n 3) 1, eb (.ifCond .ge 6) 36, e1 (.bipush (-14)) 2 (-14), e0 .ireturn 1, e0 (.aload 4) 2, e0 (.iload_n 2) 1, e0 (.iload_n 3) 1, em (.invokevirtual 258) 3 8 mi_Sh_holdRow, e1 (.iconst 1) 1 1, e0 .ireturn 1]
theorem dt_B_row : bt_dec mi_B_row.2.1 mi_B_row.2.2.1 0 ct_B_row = true := by decide +kernel
theorem kt_B_row : bt_T mi_B_row ct_B_row := ⟨dt_B_row, ⟨trivial, ⟨trivial, ⟨bv_B_76, ⟨trivial, ⟨trivial, ⟨trivial, ⟨trivial, ⟨trivial, ⟨trivial, ⟨trivial, ⟨trivial, ⟨trivial, ⟨trivial, ⟨trivial, ⟨trivial, ⟨trivial, ⟨trivial, ⟨trivial, ⟨trivial, ⟨trivial, ⟨trivial, ⟨trivial, ⟨trivial, ⟨bv_B_258, ⟨trivial, ⟨trivial, trivial⟩⟩⟩⟩⟩⟩⟩⟩⟩⟩⟩⟩⟩⟩⟩⟩⟩⟩⟩⟩⟩⟩⟩⟩⟩⟩⟩
def ct_B_put : List bt_E := [e0 (.aload_n 0) 1, e0 (.iload_n 1) 1, em (.invokevirtual 76) 2 0 mi_B_shelfAt, e0 (.astore 5) 2, e0 (.aload_n 0) 1, e0 (.aload 5) 2, e0 (.iload_n 2) 1, em (.invokevirtual 262) 3 0 mi_B_placeRefusal, e0 (.istore 6) 2, e0 (.iload 6) 2, eb (.ifCond .ne 8) 26, e0 (.aload 5) 2, eb (.ifnonnull 6) 29, e0 (.iload 6) 2, e0 .ireturn 1, e0 (.aload 5) 2, e0 (.iload_n 2) 1, e0 (.lload_n 3) 1, em (.invokevirtual 266) 3 8 mi_Sh_write, e1 (.iconst 1) 1 1, e0 .ireturn 1]
theorem dt_B_put : bt_dec mi_B_put.2.1 mi_B_put.2.2.1 0 ct_B_put = true := by decide +kernel
theorem kt_B_put : bt_T mi_B_put ct_B_put := ⟨dt_B_put, ⟨trivial, ⟨trivial, ⟨bv_B_76, ⟨trivial, ⟨trivial, ⟨trivial, ⟨trivial, ⟨bv_B_262, ⟨trivial, ⟨trivial, ⟨trivial, ⟨trivial, ⟨trivial, ⟨trivial, ⟨trivial, ⟨trivial, ⟨trivial, ⟨trivial, ⟨bv_B_266, ⟨trivial, ⟨trivial, trivial⟩⟩⟩⟩⟩⟩⟩⟩⟩⟩⟩⟩⟩⟩⟩⟩⟩⟩⟩⟩⟩⟩
def ct_B_element : List bt_E := [e0 (.aload_n 0) 1, e0 (.iload_n 1) 1, em (.invokevirtual 76) 2 0 mi_B_shelfAt, e0 (.astore_n 3) 1, e0 (.aload_n 0) 1, e0 (.aload_n 3) 1, e0 (.iload_n 2) 1, em (.invokevirtual 262) 3 0 mi_B_placeRefusal, eb (.ifCond .ne 7) 19, e0 (.aload_n 3) 1, eb (.ifnonnull 7) 23, e2 (.ldc2_w 272) 3 (-9223372036854775808), e0 .lreturn 1, e0 (.aload_n 3) 1, e0 (.iload_n 2) 1, em (.invokevirtual 274) 2 8 mi_Sh_read, e0 .lreturn 1]
theorem dt_B_element : bt_dec mi_B_element.2.1 mi_B_element.2.2.1 0 ct_B_element = true := by decide +kernel
theorem kt_B_element : bt_T mi_B_element ct_B_element := ⟨dt_B_element, ⟨trivial, ⟨trivial, ⟨bv_B_76, ⟨trivial, ⟨trivial, ⟨trivial, ⟨trivial, ⟨bv_B_262, ⟨trivial, ⟨trivial, ⟨trivial, ⟨lk_B_272, ⟨trivial, ⟨trivial, ⟨trivial, ⟨bv_B_274, ⟨trivial, trivial⟩⟩⟩⟩⟩⟩⟩⟩⟩⟩⟩⟩⟩⟩⟩⟩⟩⟩
def ct_B_shift : List bt_E := [e0 (.aload_n 0) 1, e0 (.iload_n 1) 1, em (.invokevirtual 76) 2 0 mi_B_shelfAt, e0 (.astore 6) 2, e0 (.aload_n 0) 1, e0 (.iload_n 3) 1, em (.invokevirtual 76) 2 0 mi_B_shelfAt, e0 (.astore 7) 2, e0 (.aload 6) 2, eb (.ifnull 8) 24, e0 (.aload 7) 2, eb (.ifnonnull 5) 26, e1 (.iconst (-1)) 1 (-1), e0 .ireturn 1, e0 (.aload 6) 2, em (.invokevirtual 80) 1 8 mi_Sh_isEmpty, eb (.ifCond .ne 11) 42, e0 (.aload 7) 2, em (.invokevirtual 80) 1 8 mi_Sh_isEmpty, eb (.ifCond .eq 6) 45, e1 (.bipush (-11)) 2 (-11), e0 .ireturn 1, e0 (.aload 6) 2, em (.invokevirtual 277) 1 8 mi_Sh_isRow, eb (.ifCond .eq 21) 71, e0 (.aload 7) 2, em (.invokevirtual 277) 1 8 mi_Sh_isRow, eb (.ifCond .eq 13) 71, e0 (.aload 6) 2, e0 (.aload 7) 2, em (.invokevirtual 280) 2 8 mi_Sh_isOfSortOf, eb (.ifCond .ne 6) 74, e1 (.bipush (-12)) 2 (-12), e0 .ireturn 1, e0 (.aload 6) 2, e0 (.iload_n 2) 1, e0 (.iload 5) 2, em (.invokevirtual 284) 3 8 mi_Sh_hasPlaces, eb (.ifCond .eq 15) 97, e0 (.aload 7) 2, e0 (.iload 4) 2, e0 (.iload 5) 2, em (.invokevirtual 284) 3 8 mi_Sh_hasPlaces, eb (.ifCond .ne 6) 100, e1 (.bipush (-13)) 2 (-13), e0 .ireturn 1, e0 (.aload 6) 2, e0 (.iload_n 2) 1, e0 (.aload 7) 2, e0 (.iload 4) 2, e0 (.iload 5) 2, em (.invokevirtual 287) 5 8 mi_Sh_copy, e0 (.iload 5) 2, e0 .ireturn 1]
theorem dt_B_shift : bt_dec mi_B_shift.2.1 mi_B_shift.2.2.1 0 ct_B_shift = true := by decide +kernel
theorem kt_B_shift : bt_T mi_B_shift ct_B_shift := ⟨dt_B_shift, ⟨trivial, ⟨trivial, ⟨bv_B_76, ⟨trivial, ⟨trivial, ⟨trivial, ⟨bv_B_76, ⟨trivial, ⟨trivial, ⟨trivial, ⟨trivial, ⟨trivial, ⟨trivial, ⟨trivial, ⟨trivial, ⟨bv_B_80, ⟨trivial, ⟨trivial, ⟨bv_B_80, ⟨trivial, ⟨trivial, ⟨trivial, ⟨trivial, ⟨bv_B_277, ⟨trivial, ⟨trivial, ⟨bv_B_277, ⟨trivial, ⟨trivial, ⟨trivial, ⟨bv_B_280, ⟨trivial, ⟨trivial, ⟨trivial, ⟨trivial, ⟨trivial, ⟨trivial, ⟨bv_B_284, ⟨trivial, ⟨trivial, ⟨trivial, ⟨trivial, ⟨bv_B_284, ⟨trivial, ⟨trivial, ⟨trivial, ⟨trivial, ⟨trivial, ⟨trivial, ⟨trivial, ⟨trivial, ⟨bv_B_287, ⟨trivial, ⟨trivial, trivial⟩⟩⟩⟩⟩⟩⟩⟩⟩⟩⟩⟩⟩⟩⟩⟩⟩⟩⟩⟩⟩⟩⟩⟩⟩⟩⟩⟩⟩⟩⟩⟩⟩⟩⟩⟩⟩⟩⟩⟩⟩⟩⟩⟩⟩⟩⟩⟩⟩⟩⟩⟩⟩⟩⟩
def ct_B_taken : List bt_E := [e0 (.aload_n 0) 1, e0 (.iload_n 1) 1, em (.invokevirtual 76) 2 0 mi_B_shelfAt, e0 (.astore_n 3) 1, e0 (.aload_n 3) 1, eb (.ifnull 14) 21, e0 (.aload_n 0) 1, ef (.getfield 61) 0 7, e0 (.iload_n 2) 1, em (.invokevirtual 291) 2 7 mi_Bo_isKind, eb (.ifCond .ne 5) 23, e1 (.iconst (-1)) 1 (-1), e0 .ireturn 1, e0 (.aload_n 3) 1, em (.invokevirtual 80) 1 8 mi_Sh_isEmpty, eb (.ifCond .eq 6) 33, e1 (.bipush (-11)) 2 (-11), e0 .ireturn 1, e0 (.aload_n 3) 1, em (.invokevirtual 277) 1 8 mi_Sh_isRow, eb (.ifCond .eq 7) 44, e1 (.iconst (-1)) 1 (-1), eb (.goto 14) 55, e0 (.aload_n 0) 1, ef (.getfield 61) 0 7, e0 (.aload_n 3) 1, em (.invokevirtual 294) 1 8 mi_Sh_bodyHeld, em (.invokevirtual 297) 2 7 mi_Bo_kindOf, e0 (.istore 4) 2, e0 (.aload_n 0) 1, ef (.getfield 61) 0 7, e0 (.iload 4) 2, e0 (.iload_n 2) 1, em (.invokevirtual 300) 3 7 mi_Bo_isUnder, eb (.ifCond .eq 8) 75, e0 (.iload 4) 2, eb (.goto 5) 77, e1 (.bipush (-12)) 2 (-12), e0 .ireturn 1]
theorem dt_B_taken : bt_dec mi_B_taken.2.1 mi_B_taken.2.2.1 0 ct_B_taken = true := by decide +kernel
theorem kt_B_taken : bt_T mi_B_taken ct_B_taken := ⟨dt_B_taken, ⟨trivial, ⟨trivial, ⟨bv_B_76, ⟨trivial, ⟨trivial, ⟨trivial, ⟨trivial, ⟨lg_B_61, ⟨trivial, ⟨bv_B_291, ⟨trivial, ⟨trivial, ⟨trivial, ⟨trivial, ⟨bv_B_80, ⟨trivial, ⟨trivial, ⟨trivial, ⟨trivial, ⟨bv_B_277, ⟨trivial, ⟨trivial, ⟨trivial, ⟨trivial, ⟨lg_B_61, ⟨trivial, ⟨bv_B_294, ⟨bv_B_297, ⟨trivial, ⟨trivial, ⟨lg_B_61, ⟨trivial, ⟨trivial, ⟨bv_B_300, ⟨trivial, ⟨trivial, ⟨trivial, ⟨trivial, ⟨trivial, trivial⟩⟩⟩⟩⟩⟩⟩⟩⟩⟩⟩⟩⟩⟩⟩⟩⟩⟩⟩⟩⟩⟩⟩⟩⟩⟩⟩⟩⟩⟩⟩⟩⟩⟩⟩⟩⟩⟩⟩⟩
def ct_B_count : List bt_E := [e0 (.iload_n 1) 1, ew (.tableswitch 87 0 5 #[39, 47, 55, 63, 71, 79]) 39 88 [(0, 40), (1, 48), (2, 56), (3, 64), (4, 72), (5, 80)], e0 (.aload_n 0) 1, ef (.getfield 10) 0 0, em (.invokevirtual 214) 1 1 mi_Fo_size, e0 .ireturn 1, e0 (.aload_n 0) 1, ef (.getfield 10) 0 0, em (.invokevirtual 303) 1 1 mi_Fo_joined, e0 .ireturn 1, e0 (.aload_n 0) 1, ef (.getfield 19) 0 1, em (.invokevirtual 306) 1 2 mi_La_bytes, e0 .ireturn 1, e0 (.aload_n 0) 1, ef (.getfield 47) 0 5, em (.invokevirtual 309) 1 5 mi_Ch_revertible, e0 .ireturn 1, e0 (.aload_n 0) 1, ef (.getfield 61) 0 7, em (.invokevirtual 254) 1 7 mi_Bo_size, e0 .ireturn 1, e0 (.aload_n 0) 1, ef (.getfield 61) 0 7, em (.invokevirtual 312) 1 7 mi_Bo_latestRuns, e0 .ireturn 1, e1 (.iconst (-1)) 1 (-1), e0 .ireturn 1]
theorem dt_B_count : bt_dec mi_B_count.2.1 mi_B_count.2.2.1 0 ct_B_count = true := by decide +kernel
theorem kt_B_count : bt_T mi_B_count ct_B_count := ⟨dt_B_count, ⟨trivial, ⟨trivial, ⟨trivial, ⟨lg_B_10, ⟨bv_B_214, ⟨trivial, ⟨trivial, ⟨lg_B_10, ⟨bv_B_303, ⟨trivial, ⟨trivial, ⟨lg_B_19, ⟨bv_B_306, ⟨trivial, ⟨trivial, ⟨lg_B_47, ⟨bv_B_309, ⟨trivial, ⟨trivial, ⟨lg_B_61, ⟨bv_B_254, ⟨trivial, ⟨trivial, ⟨lg_B_61, ⟨bv_B_312, ⟨trivial, ⟨trivial, ⟨trivial, trivial⟩⟩⟩⟩⟩⟩⟩⟩⟩⟩⟩⟩⟩⟩⟩⟩⟩⟩⟩⟩⟩⟩⟩⟩⟩⟩⟩⟩⟩
def ct_B_isSort : List bt_E := [e0 (.iload_n 0) 1, eb (.ifCond .lt 12) 13, e0 (.iload_n 0) 1, e1 (.iconst 4) 1 4, eb (.if_icmp .ge 7) 13, e1 (.iconst 1) 1 1, eb (.goto 4) 14, e1 (.iconst 0) 1 0, e0 .ireturn 1]
theorem dt_B_isSort : bt_dec mi_B_isSort.2.1 mi_B_isSort.2.2.1 0 ct_B_isSort = true := by decide +kernel
theorem kt_B_isSort : bt_T mi_B_isSort ct_B_isSort := ⟨dt_B_isSort, ⟨trivial, ⟨trivial, ⟨trivial, ⟨trivial, ⟨trivial, ⟨trivial, ⟨trivial, ⟨trivial, ⟨trivial, trivial⟩⟩⟩⟩⟩⟩⟩⟩⟩⟩
def ct_B_isMinute : List bt_E := [e0 (.iload_n 0) 1, eb (.ifCond .lt 13) 14, e0 (.iload_n 0) 1, e1 (.bipush 24) 2 24, eb (.if_icmp .ge 7) 14, e1 (.iconst 1) 1 1, eb (.goto 4) 15, e1 (.iconst 0) 1 0, e0 .ireturn 1]
theorem dt_B_isMinute : bt_dec mi_B_isMinute.2.1 mi_B_isMinute.2.2.1 0 ct_B_isMinute = true := by decide +kernel
theorem kt_B_isMinute : bt_T mi_B_isMinute ct_B_isMinute := ⟨dt_B_isMinute, ⟨trivial, ⟨trivial, ⟨trivial, ⟨trivial, ⟨trivial, ⟨trivial, ⟨trivial, ⟨trivial, ⟨trivial, trivial⟩⟩⟩⟩⟩⟩⟩⟩⟩⟩
def ct_B_isPair : List bt_E := [e0 (.iload_n 0) 1, eb (.ifCond .lt 23) 24, e0 (.iload_n 0) 1, e1 (.bipush 10) 2 10, e0 .idiv 1, e0 (.iload_n 1) 1, eb (.if_icmp .ge 15) 24, e0 (.iload_n 0) 1, e1 (.bipush 10) 2 10, e0 .irem 1, e0 (.iload_n 1) 1, eb (.if_icmp .ge 7) 24, e1 (.iconst 1) 1 1, eb (.goto 4) 25, e1 (.iconst 0) 1 0, e0 .ireturn 1]
theorem dt_B_isPair : bt_dec mi_B_isPair.2.1 mi_B_isPair.2.2.1 0 ct_B_isPair = true := by decide +kernel
theorem kt_B_isPair : bt_T mi_B_isPair ct_B_isPair := ⟨dt_B_isPair, ⟨trivial, ⟨trivial, ⟨trivial, ⟨trivial, ⟨trivial, ⟨trivial, ⟨trivial, ⟨trivial, ⟨trivial, ⟨trivial, ⟨trivial, ⟨trivial, ⟨trivial, ⟨trivial, ⟨trivial, ⟨trivial, trivial⟩⟩⟩⟩⟩⟩⟩⟩⟩⟩⟩⟩⟩⟩⟩⟩⟩
def ct_B_nextDraw : List bt_E := [e0 (.iload_n 0) 1, e1 (.ldc_w 315) 3 1103515245, e0 .imul 1, e1 (.sipush 12345) 3 12345, e0 .iadd 1, e0 .ireturn 1]
theorem dt_B_nextDraw : bt_dec mi_B_nextDraw.2.1 mi_B_nextDraw.2.2.1 0 ct_B_nextDraw = true := by decide +kernel
theorem kt_B_nextDraw : bt_T mi_B_nextDraw ct_B_nextDraw := ⟨dt_B_nextDraw, ⟨trivial, ⟨lk_B_315, ⟨trivial, ⟨trivial, ⟨trivial, ⟨trivial, trivial⟩⟩⟩⟩⟩⟩⟩
def ct_B_shelfAt : List bt_E := [e0 (.iload_n 1) 1, eb (.ifCond .lt 21) 22, e0 (.iload_n 1) 1, e0 (.aload_n 0) 1, ef (.getfield 67) 0 8, e0 .arraylength 1, eb (.if_icmp .ge 12) 22, e0 (.aload_n 0) 1, ef (.getfield 67) 0 8, e0 (.iload_n 1) 1, e0 .aaload 1, eb (.goto 4) 23, e0 .aconst_null 1, e0 .areturn 1]
theorem dt_B_shelfAt : bt_dec mi_B_shelfAt.2.1 mi_B_shelfAt.2.2.1 0 ct_B_shelfAt = true := by decide +kernel
theorem kt_B_shelfAt : bt_T mi_B_shelfAt ct_B_shelfAt := ⟨dt_B_shelfAt, ⟨trivial, ⟨trivial, ⟨trivial, ⟨trivial, ⟨lg_B_67, ⟨trivial, ⟨trivial, ⟨trivial, ⟨lg_B_67, ⟨trivial, ⟨trivial, ⟨trivial, ⟨trivial, ⟨trivial, trivial⟩⟩⟩⟩⟩⟩⟩⟩⟩⟩⟩⟩⟩⟩⟩
def ct_B_plantFrom : List bt_E := [e0 (.aload_n 1) 1, e0 (.iload_n 2) 1, e1 (.iconst 3) 1 3, em (.invokevirtual 284) 3 8 mi_Sh_hasPlaces, eb (.ifCond .ne 5) 11, e1 (.iconst 0) 1 0, e0 .ireturn 1, e0 (.iload_n 2) 1, e1 (.iconst 3) 1 3, e0 (.iload_n 3) 1, e0 .imul 1, e0 .iadd 1, e0 (.istore 4) 2, e0 (.aload_n 1) 1, e0 (.iload 4) 2, e1 (.iconst 3) 1 3, em (.invokevirtual 284) 3 8 mi_Sh_hasPlaces, eb (.ifCond .ne 5) 30, e1 (.iconst 0) 1 0, e0 .ireturn 1, e0 (.aload_n 1) 1, e0 (.iload 4) 2, em (.invokevirtual 171) 2 8 mi_Sh_at, e0 (.istore 5) 2, e0 (.aload_n 1) 1, e0 (.iload 4) 2, e1 (.iconst 1) 1 1, e0 .iadd 1, em (.invokevirtual 171) 2 8 mi_Sh_at, e0 (.istore 6) 2, e0 (.aload_n 1) 1, e0 (.iload 4) 2, e1 (.iconst 2) 1 2, e0 .iadd 1, em (.invokevirtual 171) 2 8 mi_Sh_at, e0 (.istore 7) 2, e0 (.aload_n 0) 1, ef (.getfield 10) 0 0, e1 (.iconst 0) 1 0, e0 (.iload 5) 2, em (.invokevirtual 99) 3 1 mi_Fo_mayBe, eb (.ifCond .eq 29) 97, e0 (.aload_n 0) 1, ef (.getfield 10) 0 0, e1 (.iconst 1) 1 1, e0 (.iload 6) 2, em (.invokevirtual 99) 3 1 mi_Fo_mayBe, eb (.ifCond .eq 16) 97, e0 (.aload_n 0) 1, ef (.getfield 10) 0 0, e1 (.iconst 2) 1 2, e0 (.iload 7) 2, em (.invokevirtual 99) 3 1 mi_Fo_mayBe, eb (.ifCond .ne 5) 99, e1 (.iconst 0) 1 0, e0 .ireturn 1, e0 (.aload_n 0) 1, ef (.getfield 10) 0 0, e0 (.iload 5) 2, e0 (.iload 6) 2, e0 (.iload 7) 2, em (.invokevirtual 72) 4 1 mi_Fo_plant, eb (.ifCond .lt 7) 119, e1 (.iconst 1) 1 1, eb (.goto 4) 120, e1 (.iconst 0) 1 0, e0 .ireturn 1]
theorem dt_B_plantFrom : bt_dec mi_B_plantFrom.2.1 mi_B_plantFrom.2.2.1 0 ct_B_plantFrom = true := by decide +kernel
theorem kt_B_plantFrom : bt_T mi_B_plantFrom ct_B_plantFrom := ⟨dt_B_plantFrom, ⟨trivial, ⟨trivial, ⟨trivial, ⟨bv_B_284, ⟨trivial, ⟨trivial, ⟨trivial, ⟨trivial, ⟨trivial, ⟨trivial, ⟨trivial, ⟨trivial, ⟨trivial, ⟨trivial, ⟨trivial, ⟨trivial, ⟨bv_B_284, ⟨trivial, ⟨trivial, ⟨trivial, ⟨trivial, ⟨trivial, ⟨bv_B_171, ⟨trivial, ⟨trivial, ⟨trivial, ⟨trivial, ⟨trivial, ⟨bv_B_171, ⟨trivial, ⟨trivial, ⟨trivial, ⟨trivial, ⟨trivial, ⟨bv_B_171, ⟨trivial, ⟨trivial, ⟨lg_B_10, ⟨trivial, ⟨trivial, ⟨bv_B_99, ⟨trivial, ⟨trivial, ⟨lg_B_10, ⟨trivial, ⟨trivial, ⟨bv_B_99, ⟨trivial, ⟨trivial, ⟨lg_B_10, ⟨trivial, ⟨trivial, ⟨bv_B_99, ⟨trivial, ⟨trivial, ⟨trivial, ⟨trivial, ⟨lg_B_10, ⟨trivial, ⟨trivial, ⟨trivial, ⟨bv_B_72, ⟨trivial, ⟨trivial, ⟨trivial, ⟨trivial, ⟨trivial, trivial⟩⟩⟩⟩⟩⟩⟩⟩⟩⟩⟩⟩⟩⟩⟩⟩⟩⟩⟩⟩⟩⟩⟩⟩⟩⟩⟩⟩⟩⟩⟩⟩⟩⟩⟩⟩⟩⟩⟩⟩⟩⟩⟩⟩⟩⟩⟩⟩⟩⟩⟩⟩⟩⟩⟩⟩⟩⟩⟩⟩⟩⟩⟩⟩⟩⟩⟩⟩
def ct_B_bookRefusal : List bt_E := [e0 (.iload_n 2) 1, e1 (.bipush 100) 2 100, e0 .irem 1, e0 (.istore 4) 2, e0 (.aload_n 1) 1, eb (.ifnull 29) 36, e0 (.iload_n 2) 1, eb (.ifCond .lt 25) 36, e0 (.iload_n 2) 1, e1 (.bipush 100) 2 100, e0 .idiv 1, em (.invokestatic 134) 1 100 mi_B_isSort, eb (.ifCond .eq 15) 36, e0 (.iload_n 3) 1, eb (.ifCond .ne 13) 38, e0 (.iload 4) 2, em (.invokestatic 137) 1 100 mi_B_isMinute, eb (.ifCond .ne 5) 38, e1 (.iconst (-1)) 1 (-1), e0 .ireturn 1, e0 (.aload_n 1) 1, em (.invokevirtual 80) 1 8 mi_Sh_isEmpty, eb (.ifCond .eq 6) 48, e1 (.bipush (-11)) 2 (-11), e0 .ireturn 1, e0 (.aload_n 1) 1, em (.invokevirtual 84) 1 8 mi_Sh_isBytes, eb (.ifCond .ne 6) 58, e1 (.bipush (-12)) 2 (-12), e0 .ireturn 1, e0 (.iload_n 3) 1, eb (.ifCond .ne 12) 71, e0 (.iload 4) 2, e0 (.aload_n 1) 1, em (.invokevirtual 168) 1 8 mi_Sh_minutes, eb (.if_icmp .ge 7) 75, e1 (.iconst 0) 1 0, eb (.goto 4) 76, e1 (.iconst (-1)) 1 (-1), e0 .ireturn 1]
theorem dt_B_bookRefusal : bt_dec mi_B_bookRefusal.2.1 mi_B_bookRefusal.2.2.1 0 ct_B_bookRefusal = true := by decide +kernel
theorem kt_B_bookRefusal : bt_T mi_B_bookRefusal ct_B_bookRefusal := ⟨dt_B_bookRefusal, ⟨trivial, ⟨trivial, ⟨trivial, ⟨trivial, ⟨trivial, ⟨trivial, ⟨trivial, ⟨trivial, ⟨trivial, ⟨trivial, ⟨trivial, ⟨⟨fun _ => bs_B_134, (fun h => by cases h)⟩, ⟨trivial, ⟨trivial, ⟨trivial, ⟨trivial, ⟨⟨fun _ => bs_B_137, (fun h => by cases h)⟩, ⟨trivial, ⟨trivial, ⟨trivial, ⟨trivial, ⟨bv_B_80, ⟨trivial, ⟨trivial, ⟨trivial, ⟨trivial, ⟨bv_B_84, ⟨trivial, ⟨trivial, ⟨trivial, ⟨trivial, ⟨trivial, ⟨trivial, ⟨trivial, ⟨bv_B_168, ⟨trivial, ⟨trivial, ⟨trivial, ⟨trivial, ⟨trivial, trivial⟩⟩⟩⟩⟩⟩⟩⟩⟩⟩⟩⟩⟩⟩⟩⟩⟩⟩⟩⟩⟩⟩⟩⟩⟩⟩⟩⟩⟩⟩⟩⟩⟩⟩⟩⟩⟩⟩⟩⟩⟩
def ct_B_rowsRefusal : List bt_E := [e1 (.iconst 0) 1 0, e0 (.istore_n 2) 1, e1 (.iconst 0) 1 0, e0 (.istore_n 3) 1, e0 (.iload_n 3) 1, e1 (.bipush 6) 2 6, eb (.if_icmp .ge 54) 61, e0 (.aload_n 0) 1, e0 (.iload_n 3) 1, em (.invokevirtual 76) 2 0 mi_B_shelfAt, e0 (.astore 4) 2, e0 (.aload 4) 2, eb (.ifnull 36) 55, e0 (.iload_n 1) 1, e0 (.iload_n 3) 1, e0 .ishr 1, e1 (.iconst 1) 1 1, e0 .iand 1, eb (.ifCond .ne 6) 33, eb (.goto 25) 55, e0 (.aload 4) 2, em (.invokevirtual 80) 1 8 mi_Sh_isEmpty, eb (.ifCond .eq 6) 44, e1 (.bipush (-11)) 2 (-11), e0 .ireturn 1, e0 (.aload 4) 2, em (.invokevirtual 84) 1 8 mi_Sh_isBytes, eb (.ifCond .ne 6) 55, e1 (.bipush (-12)) 2 (-12), e0 (.istore_n 2) 1, e1 (.iinc 3 1) 3 1, eb (.goto (-54)) 4, e0 (.iload_n 2) 1, e0 .ireturn 1]
theorem dt_B_rowsRefusal : bt_dec mi_B_rowsRefusal.2.1 mi_B_rowsRefusal.2.2.1 0 ct_B_rowsRefusal = true := by decide +kernel
theorem kt_B_rowsRefusal : bt_T mi_B_rowsRefusal ct_B_rowsRefusal := ⟨dt_B_rowsRefusal, ⟨trivial, ⟨trivial, ⟨trivial, ⟨trivial, ⟨trivial, ⟨trivial, ⟨trivial, ⟨trivial, ⟨trivial, ⟨bv_B_76, ⟨trivial, ⟨trivial, ⟨trivial, ⟨trivial, ⟨trivial, ⟨trivial, ⟨trivial, ⟨trivial, ⟨trivial, ⟨trivial, ⟨trivial, ⟨bv_B_80, ⟨trivial, ⟨trivial, ⟨trivial, ⟨trivial, ⟨bv_B_84, ⟨trivial, ⟨trivial, ⟨trivial, ⟨trivial, ⟨trivial, ⟨trivial, ⟨trivial, trivial⟩⟩⟩⟩⟩⟩⟩⟩⟩⟩⟩⟩⟩⟩⟩⟩⟩⟩⟩⟩⟩⟩⟩⟩⟩⟩⟩⟩⟩⟩⟩⟩⟩⟩⟩
def ct_B_walksRefusal : List bt_E := [e0 (.aload_n 0) 1, e0 (.iload_n 1) 1, em (.invokevirtual 165) 2 0 mi_B_rowsRefusal, e0 (.istore_n 2) 1, e1 (.iconst 0) 1 0, e0 (.istore_n 3) 1, e0 (.iload_n 3) 1, e1 (.bipush 6) 2 6, eb (.if_icmp .ge 36) 47, e0 (.iload_n 2) 1, eb (.ifCond .ne 32) 47, e0 (.iload_n 1) 1, e0 (.iload_n 3) 1, e0 .ishr 1, e1 (.iconst 1) 1 1, e0 .iand 1, eb (.ifCond .eq 18) 41, e0 (.aload_n 0) 1, e0 (.aload_n 0) 1, e0 (.iload_n 3) 1, em (.invokevirtual 76) 2 0 mi_B_shelfAt, em (.invokevirtual 316) 2 0 mi_B_isWalk, eb (.ifCond .ne 6) 41, e1 (.bipush (-5)) 2 (-5), e0 (.istore_n 2) 1, e1 (.iinc 3 1) 3 1, eb (.goto (-36)) 8, e0 (.iload_n 2) 1, e0 .ireturn 1]
theorem dt_B_walksRefusal : bt_dec mi_B_walksRefusal.2.1 mi_B_walksRefusal.2.2.1 0 ct_B_walksRefusal = true := by decide +kernel
theorem kt_B_walksRefusal : bt_T mi_B_walksRefusal ct_B_walksRefusal := ⟨dt_B_walksRefusal, ⟨trivial, ⟨trivial, ⟨bv_B_165, ⟨trivial, ⟨trivial, ⟨trivial, ⟨trivial, ⟨trivial, ⟨trivial, ⟨trivial, ⟨trivial, ⟨trivial, ⟨trivial, ⟨trivial, ⟨trivial, ⟨trivial, ⟨trivial, ⟨trivial, ⟨trivial, ⟨trivial, ⟨bv_B_76, ⟨bv_B_316, ⟨trivial, ⟨trivial, ⟨trivial, ⟨trivial, ⟨trivial, ⟨trivial, ⟨trivial, trivial⟩⟩⟩⟩⟩⟩⟩⟩⟩⟩⟩⟩⟩⟩⟩⟩⟩⟩⟩⟩⟩⟩⟩⟩⟩⟩⟩⟩⟩⟩
def ct_B_walkAndBookRefusal : List bt_E := [e0 (.iload_n 1) 1, em (.invokestatic 134) 1 100 mi_B_isSort, eb (.ifCond .eq 12) 16, e0 (.iload_n 2) 1, e1 (.bipush 6) 2 6, em (.invokestatic 162) 2 100 mi_B_isPair, eb (.ifCond .ne 5) 18, e1 (.iconst (-1)) 1 (-1), e0 .ireturn 1, e0 (.aload_n 0) 1, e1 (.iconst 1) 1 1, e0 (.iload_n 2) 1, e1 (.bipush 10) 2 10, e0 .idiv 1, e0 .ishl 1, e1 (.iconst 1) 1 1, e0 (.iload_n 2) 1, e1 (.bipush 10) 2 10, e0 .irem 1, e0 .ishl 1, e0 .ior 1, em (.invokevirtual 165) 2 0 mi_B_rowsRefusal, e0 (.istore_n 3) 1, e0 (.iload_n 3) 1, eb (.ifCond .eq 7) 44, e0 (.iload_n 3) 1, eb (.goto 13) 54, e0 (.aload_n 0) 1, e1 (.iconst 1) 1 1, e0 (.iload_n 2) 1, e1 (.bipush 10) 2 10, e0 .idiv 1, e0 .ishl 1, em (.invokevirtual 193) 2 0 mi_B_walksRefusal, e0 .ireturn 1]
theorem dt_B_walkAndBookRefusal : bt_dec mi_B_walkAndBookRefusal.2.1 mi_B_walkAndBookRefusal.2.2.1 0 ct_B_walkAndBookRefusal = true := by decide +kernel
theorem kt_B_walkAndBookRefusal : bt_T mi_B_walkAndBookRefusal ct_B_walkAndBookRefusal := ⟨dt_B_walkAndBookRefusal, ⟨trivial, ⟨⟨fun _ => bs_B_134, (fun h => by cases h)⟩, ⟨trivial, ⟨trivial, ⟨trivial, ⟨⟨fun _ => bs_B_162, (fun h => by cases h)⟩, ⟨trivial, ⟨trivial, ⟨trivial, ⟨trivial, ⟨trivial, ⟨trivial, ⟨trivial, ⟨trivial, ⟨trivial, ⟨trivial, ⟨trivial, ⟨trivial, ⟨trivial, ⟨trivial, ⟨trivial, ⟨bv_B_165, ⟨trivial, ⟨trivial, ⟨trivial, ⟨trivial, ⟨trivial, ⟨trivial, ⟨trivial, ⟨trivial, ⟨trivial, ⟨trivial, ⟨trivial, ⟨bv_B_193, ⟨trivial, trivial⟩⟩⟩⟩⟩⟩⟩⟩⟩⟩⟩⟩⟩⟩⟩⟩⟩⟩⟩⟩⟩⟩⟩⟩⟩⟩⟩⟩⟩⟩⟩⟩⟩⟩⟩⟩
def ct_B_placeRefusal : List bt_E := [e0 (.aload_n 1) 1, eb (.ifnonnull 5) 6, e1 (.iconst (-1)) 1 (-1), e0 .ireturn 1, e0 (.aload_n 1) 1, em (.invokevirtual 80) 1 8 mi_Sh_isEmpty, eb (.ifCond .eq 6) 16, e1 (.bipush (-11)) 2 (-11), e0 .ireturn 1, e0 (.aload_n 1) 1, em (.invokevirtual 277) 1 8 mi_Sh_isRow, eb (.ifCond .ne 6) 26, e1 (.bipush (-12)) 2 (-12), e0 .ireturn 1, e0 (.aload_n 1) 1, e0 (.iload_n 2) 1, e1 (.iconst 1) 1 1, em (.invokevirtual 284) 3 8 mi_Sh_hasPlaces, eb (.ifCond .eq 7) 39, e1 (.iconst 0) 1 0, eb (.goto 5) 41, e1 (.bipush (-13)) 2 (-13), e0 .ireturn 1]
theorem dt_B_placeRefusal : bt_dec mi_B_placeRefusal.2.1 mi_B_placeRefusal.2.2.1 0 ct_B_placeRefusal = true := by decide +kernel
theorem kt_B_placeRefusal : bt_T mi_B_placeRefusal ct_B_placeRefusal := ⟨dt_B_placeRefusal, ⟨trivial, ⟨trivial, ⟨trivial, ⟨trivial, ⟨trivial, ⟨bv_B_80, ⟨trivial, ⟨trivial, ⟨trivial, ⟨trivial, ⟨bv_B_277, ⟨trivial, ⟨trivial, ⟨trivial, ⟨trivial, ⟨trivial, ⟨trivial, ⟨bv_B_284, ⟨trivial, ⟨trivial, ⟨trivial, ⟨trivial, ⟨trivial, trivial⟩⟩⟩⟩⟩⟩⟩⟩⟩⟩⟩⟩⟩⟩⟩⟩⟩⟩⟩⟩⟩⟩⟩⟩
def ct_B_isWalk : List bt_E := [e0 (.aload_n 1) 1, eb (.ifnonnull 5) 6, e1 (.iconst 0) 1 0, e0 .ireturn 1, e0 (.aload_n 0) 1, ef (.getfield 10) 0 0, em (.invokevirtual 319) 1 1 mi_Fo_all, e0 (.istore_n 2) 1, e1 (.iconst 0) 1 0, e0 (.istore_n 3) 1, e0 (.iload_n 3) 1, e0 (.aload_n 1) 1, em (.invokevirtual 168) 1 8 mi_Sh_minutes, eb (.if_icmp .ge 49) 70, e0 (.aload_n 1) 1, e0 (.iload_n 3) 1, em (.invokevirtual 171) 2 8 mi_Sh_at, e0 (.istore 4) 2, e0 (.aload_n 0) 1, ef (.getfield 10) 0 0, e0 (.iload 4) 2, em (.invokevirtual 113) 2 1 mi_Fo_has, eb (.ifCond .eq 12) 52, e0 (.iload_n 2) 1, e0 (.iload 4) 2, e0 .ishr 1, e1 (.iconst 1) 1 1, e0 .iand 1, eb (.ifCond .ne 5) 54, e1 (.iconst 0) 1 0, e0 .ireturn 1, e0 (.aload_n 0) 1, ef (.getfield 10) 0 0, e0 (.iload 4) 2, em (.invokevirtual 322) 2 1 mi_Fo_around, e0 (.istore_n 2) 1, e1 (.iinc 3 1) 3 1, eb (.goto (-51)) 16, e1 (.iconst 1) 1 1, e0 .ireturn 1]
theorem dt_B_isWalk : bt_dec mi_B_isWalk.2.1 mi_B_isWalk.2.2.1 0 ct_B_isWalk = true := by decide +kernel
theorem kt_B_isWalk : bt_T mi_B_isWalk ct_B_isWalk := ⟨dt_B_isWalk, ⟨trivial, ⟨trivial, ⟨trivial, ⟨trivial, ⟨trivial, ⟨lg_B_10, ⟨bv_B_319, ⟨trivial, ⟨trivial, ⟨trivial, ⟨trivial, ⟨trivial, ⟨bv_B_168, ⟨trivial, ⟨trivial, ⟨trivial, ⟨bv_B_171, ⟨trivial, ⟨trivial, ⟨lg_B_10, ⟨trivial, ⟨bv_B_113, ⟨trivial, ⟨trivial, ⟨trivial, ⟨trivial, ⟨trivial, ⟨trivial, ⟨trivial, ⟨trivial, ⟨trivial, ⟨trivial, ⟨lg_B_10, ⟨trivial, ⟨bv_B_322, ⟨trivial, ⟨trivial, ⟨trivial, ⟨trivial, ⟨trivial, trivial⟩⟩⟩⟩⟩⟩⟩⟩⟩⟩⟩⟩⟩⟩⟩⟩⟩⟩⟩⟩⟩⟩⟩⟩⟩⟩⟩⟩⟩⟩⟩⟩⟩⟩⟩⟩⟩⟩⟩⟩⟩
def ct_B_bellsGone : List bt_E := [e0 (.aload_n 1) 1, eb (.ifnull 7) 8, e0 (.aload_n 2) 1, eb (.ifnonnull 6) 11, e1 (.bipush (-2)) 2 (-2), e0 .ireturn 1, e0 (.aload_n 1) 1, em (.invokevirtual 168) 1 8 mi_Sh_minutes, e0 (.aload_n 2) 1, em (.invokevirtual 168) 1 8 mi_Sh_minutes, em (.invokestatic 325) 2 100 mi_JM_min, e0 (.istore_n 3) 1, e1 (.iconst 0) 1 0, e0 (.istore 4) 2, e1 (.iconst 0) 1 0, e0 (.istore 5) 2, e0 (.iload 5) 2, e0 (.iload_n 3) 1, eb (.if_icmp .ge 46) 78, e0 (.aload_n 0) 1, ef (.getfield 28) 0 2, e0 (.aload_n 1) 1, e0 (.iload 5) 2, em (.invokevirtual 171) 2 8 mi_Sh_at, e0 (.iload 5) 2, em (.invokevirtual 145) 3 3 mi_So_at, e0 (.aload_n 2) 1, e0 (.iload 5) 2, em (.invokevirtual 171) 2 8 mi_Sh_at, eb (.if_icmp .eq 16) 72, e0 (.iload 4) 2, e1 (.iconst 1) 1 1, e0 (.aload_n 1) 1, e0 (.iload 5) 2, em (.invokevirtual 171) 2 8 mi_Sh_at, e0 .ishl 1, e0 .ior 1, e0 (.istore 4) 2, e1 (.iinc 5 1) 3 1, eb (.goto (-46)) 29, e0 (.aload_n 0) 1, e0 (.aload_n 1) 1, e0 (.aload_n 2) 1, e1 (.sipush 255) 3 255, e0 (.iload 4) 2, e1 (.iconst (-1)) 1 (-1), e0 .ixor 1, e0 .iand 1, em (.invokevirtual 229) 4 0 mi_B_firstNotSo, e1 (.bipush (-2)) 2 (-2), eb (.if_icmp .ne 8) 102, e0 (.iload 4) 2, eb (.goto 5) 104, e1 (.bipush (-2)) 2 (-2), e0 .ireturn 1]
theorem dt_B_bellsGone : bt_dec mi_B_bellsGone.2.1 mi_B_bellsGone.2.2.1 0 ct_B_bellsGone = true := by decide +kernel
theorem kt_B_bellsGone : bt_T mi_B_bellsGone ct_B_bellsGone := ⟨dt_B_bellsGone, ⟨trivial, ⟨trivial, ⟨trivial, ⟨trivial, ⟨trivial, ⟨trivial, ⟨trivial, ⟨bv_B_168, ⟨trivial, ⟨bv_B_168, ⟨⟨fun _ => bs_B_325, (fun h => by cases h)⟩, ⟨trivial, ⟨trivial, ⟨trivial, ⟨trivial, ⟨trivial, ⟨trivial, ⟨trivial, ⟨trivial, ⟨trivial, ⟨lg_B_28, ⟨trivial, ⟨trivial, ⟨bv_B_171, ⟨trivial, ⟨bv_B_145, ⟨trivial, ⟨trivial, ⟨bv_B_171, ⟨trivial, ⟨trivial, ⟨trivial, ⟨trivial, ⟨trivial, ⟨bv_B_171, ⟨trivial, ⟨trivial, ⟨trivial, ⟨trivial, ⟨trivial, ⟨trivial, ⟨trivial, ⟨trivial, ⟨trivial, ⟨trivial, ⟨trivial, ⟨trivial, ⟨trivial, ⟨bv_B_229, ⟨trivial, ⟨trivial, ⟨trivial, ⟨trivial, ⟨trivial, ⟨trivial, trivial⟩⟩⟩⟩⟩⟩⟩⟩⟩⟩⟩⟩⟩⟩⟩⟩⟩⟩⟩⟩⟩⟩⟩⟩⟩⟩⟩⟩⟩⟩⟩⟩⟩⟩⟩⟩⟩⟩⟩⟩⟩⟩⟩⟩⟩⟩⟩⟩⟩⟩⟩⟩⟩⟩⟩⟩
def ct_B_firstNotSo : List bt_E := [e0 (.aload_n 1) 1, eb (.ifnull 7) 8, e0 (.aload_n 2) 1, eb (.ifnonnull 6) 11, e1 (.bipush (-2)) 2 (-2), e0 .ireturn 1, e0 (.aload_n 1) 1, em (.invokevirtual 168) 1 8 mi_Sh_minutes, e0 (.aload_n 2) 1, em (.invokevirtual 168) 1 8 mi_Sh_minutes, em (.invokestatic 325) 2 100 mi_JM_min, e0 (.istore 4) 2, e1 (.iconst 0) 1 0, e0 (.istore 5) 2, e0 (.iload 5) 2, e0 (.iload 4) 2, eb (.if_icmp .ge 37) 68, e0 (.aload_n 0) 1, ef (.getfield 28) 0 2, e0 (.iload_n 3) 1, e0 (.aload_n 1) 1, e0 (.iload 5) 2, em (.invokevirtual 171) 2 8 mi_Sh_at, e0 (.iload 5) 2, em (.invokevirtual 330) 4 3 mi_So_among, e0 (.aload_n 2) 1, e0 (.iload 5) 2, em (.invokevirtual 171) 2 8 mi_Sh_at, eb (.if_icmp .eq 6) 62, e0 (.iload 5) 2, e0 .ireturn 1, e1 (.iinc 5 1) 3 1, eb (.goto (-38)) 27, e1 (.bipush (-2)) 2 (-2), e0 .ireturn 1]
theorem dt_B_firstNotSo : bt_dec mi_B_firstNotSo.2.1 mi_B_firstNotSo.2.2.1 0 ct_B_firstNotSo = true := by decide +kernel
theorem kt_B_firstNotSo : bt_T mi_B_firstNotSo ct_B_firstNotSo := ⟨dt_B_firstNotSo, ⟨trivial, ⟨trivial, ⟨trivial, ⟨trivial, ⟨trivial, ⟨trivial, ⟨trivial, ⟨bv_B_168, ⟨trivial, ⟨bv_B_168, ⟨⟨fun _ => bs_B_325, (fun h => by cases h)⟩, ⟨trivial, ⟨trivial, ⟨trivial, ⟨trivial, ⟨trivial, ⟨trivial, ⟨trivial, ⟨lg_B_28, ⟨trivial, ⟨trivial, ⟨trivial, ⟨bv_B_171, ⟨trivial, ⟨bv_B_330, ⟨trivial, ⟨trivial, ⟨bv_B_171, ⟨trivial, ⟨trivial, ⟨trivial, ⟨trivial, ⟨trivial, ⟨trivial, ⟨trivial, trivial⟩⟩⟩⟩⟩⟩⟩⟩⟩⟩⟩⟩⟩⟩⟩⟩⟩⟩⟩⟩⟩⟩⟩⟩⟩⟩⟩⟩⟩⟩⟩⟩⟩⟩⟩⟩
def ct_B_firstUnlike : List bt_E := [e0 (.aload_n 1) 1, eb (.ifnull 11) 12, e0 (.aload_n 2) 1, eb (.ifnull 7) 12, e0 (.aload_n 3) 1, eb (.ifnonnull 6) 15, e1 (.bipush (-2)) 2 (-2), e0 .ireturn 1, e0 (.aload_n 1) 1, em (.invokevirtual 168) 1 8 mi_Sh_minutes, e0 (.aload_n 2) 1, em (.invokevirtual 168) 1 8 mi_Sh_minutes, em (.invokestatic 325) 2 100 mi_JM_min, e0 (.istore 5) 2, e1 (.iconst 0) 1 0, e0 (.istore 6) 2, e0 (.iload 6) 2, e0 (.iload 5) 2, eb (.if_icmp .ge 46) 81, e0 (.aload_n 0) 1, ef (.getfield 28) 0 2, e0 (.iload 4) 2, e0 (.aload_n 1) 1, e0 (.iload 6) 2, em (.invokevirtual 171) 2 8 mi_Sh_at, e0 (.iload 6) 2, em (.invokevirtual 330) 4 3 mi_So_among, e0 (.aload_n 3) 1, e0 (.iload 4) 2, e0 (.aload_n 2) 1, e0 (.iload 6) 2, em (.invokevirtual 171) 2 8 mi_Sh_at, e0 (.iload 6) 2, em (.invokevirtual 330) 4 3 mi_So_among, eb (.if_icmp .eq 6) 75, e0 (.iload 6) 2, e0 .ireturn 1, e1 (.iinc 6 1) 3 1, eb (.goto (-47)) 31, e1 (.bipush (-2)) 2 (-2), e0 .ireturn 1]
theorem dt_B_firstUnlike : bt_dec mi_B_firstUnlike.2.1 mi_B_firstUnlike.2.2.1 0 ct_B_firstUnlike = true := by decide +kernel
theorem kt_B_firstUnlike : bt_T mi_B_firstUnlike ct_B_firstUnlike := ⟨dt_B_firstUnlike, ⟨trivial, ⟨trivial, ⟨trivial, ⟨trivial, ⟨trivial, ⟨trivial, ⟨trivial, ⟨trivial, ⟨trivial, ⟨bv_B_168, ⟨trivial, ⟨bv_B_168, ⟨⟨fun _ => bs_B_325, (fun h => by cases h)⟩, ⟨trivial, ⟨trivial, ⟨trivial, ⟨trivial, ⟨trivial, ⟨trivial, ⟨trivial, ⟨lg_B_28, ⟨trivial, ⟨trivial, ⟨trivial, ⟨bv_B_171, ⟨trivial, ⟨bv_B_330, ⟨trivial, ⟨trivial, ⟨trivial, ⟨trivial, ⟨bv_B_171, ⟨trivial, ⟨bv_B_330, ⟨trivial, ⟨trivial, ⟨trivial, ⟨trivial, ⟨trivial, ⟨trivial, ⟨trivial, trivial⟩⟩⟩⟩⟩⟩⟩⟩⟩⟩⟩⟩⟩⟩⟩⟩⟩⟩⟩⟩⟩⟩⟩⟩⟩⟩⟩⟩⟩⟩⟩⟩⟩⟩⟩⟩⟩⟩⟩⟩⟩⟩
def ct_B_areTold : List bt_E := [e1 (.iconst 0) 1 0, e0 (.istore_n 3) 1, e0 (.iload_n 3) 1, e0 (.iload_n 1) 1, eb (.if_icmp .ge 24) 28, e0 (.aload_n 0) 1, e0 (.aload_n 0) 1, e0 (.iload_n 3) 1, em (.invokevirtual 76) 2 0 mi_B_shelfAt, e0 (.iload_n 2) 1, em (.invokevirtual 333) 3 0 mi_B_hasSound, eb (.ifCond .ne 5) 22, e1 (.iconst 0) 1 0, e0 .ireturn 1, e1 (.iinc 3 1) 3 1, eb (.goto (-23)) 2, e1 (.iconst 0) 1 0, e0 (.istore_n 3) 1, e0 (.iload_n 3) 1, e0 (.iload_n 1) 1, eb (.if_icmp .ge 51) 83, e1 (.iconst 0) 1 0, e0 (.istore 4) 2, e0 (.iload 4) 2, e0 (.iload_n 3) 1, eb (.if_icmp .ge 36) 77, e0 (.aload_n 0) 1, e0 (.aload_n 0) 1, e0 (.iload_n 3) 1, em (.invokevirtual 76) 2 0 mi_B_shelfAt, e0 (.aload_n 0) 1, e0 (.iload 4) 2, em (.invokevirtual 76) 2 0 mi_B_shelfAt, e0 (.aload_n 0) 1, ef (.getfield 28) 0 2, e0 (.iload_n 2) 1, em (.invokevirtual 196) 5 0 mi_B_firstUnlike, e1 (.bipush (-2)) 2 (-2), eb (.if_icmp .ne 5) 71, e1 (.iconst 0) 1 0, e0 .ireturn 1, e1 (.iinc 4 1) 3 1, eb (.goto (-36)) 38, e1 (.iinc 3 1) 3 1, eb (.goto (-50)) 30, e1 (.iconst 1) 1 1, e0 .ireturn 1]
theorem dt_B_areTold : bt_dec mi_B_areTold.2.1 mi_B_areTold.2.2.1 0 ct_B_areTold = true := by decide +kernel
theorem kt_B_areTold : bt_T mi_B_areTold ct_B_areTold := ⟨dt_B_areTold, ⟨trivial, ⟨trivial, ⟨trivial, ⟨trivial, ⟨trivial, ⟨trivial, ⟨trivial, ⟨trivial, ⟨bv_B_76, ⟨trivial, ⟨bv_B_333, ⟨trivial, ⟨trivial, ⟨trivial, ⟨trivial, ⟨trivial, ⟨trivial, ⟨trivial, ⟨trivial, ⟨trivial, ⟨trivial, ⟨trivial, ⟨trivial, ⟨trivial, ⟨trivial, ⟨trivial, ⟨trivial, ⟨trivial, ⟨trivial, ⟨bv_B_76, ⟨trivial, ⟨trivial, ⟨bv_B_76, ⟨trivial, ⟨lg_B_28, ⟨trivial, ⟨bv_B_196, ⟨trivial, ⟨trivial, ⟨trivial, ⟨trivial, ⟨trivial, ⟨trivial, ⟨trivial, ⟨trivial, ⟨trivial, ⟨trivial, trivial⟩⟩⟩⟩⟩⟩⟩⟩⟩⟩⟩⟩⟩⟩⟩⟩⟩⟩⟩⟩⟩⟩⟩⟩⟩⟩⟩⟩⟩⟩⟩⟩⟩⟩⟩⟩⟩⟩⟩⟩⟩⟩⟩⟩⟩⟩⟩⟩
def ct_B_hasSound : List bt_E := [e0 (.aload_n 1) 1, eb (.ifnonnull 5) 6, e1 (.iconst 0) 1 0, e0 .ireturn 1, e1 (.iconst 0) 1 0, e0 (.istore_n 3) 1, e0 (.iload_n 3) 1, e0 (.aload_n 1) 1, em (.invokevirtual 168) 1 8 mi_Sh_minutes, eb (.if_icmp .ge 29) 42, e0 (.aload_n 0) 1, ef (.getfield 28) 0 2, e0 (.iload_n 2) 1, e0 (.aload_n 1) 1, e0 (.iload_n 3) 1, em (.invokevirtual 171) 2 8 mi_Sh_at, e0 (.iload_n 3) 1, em (.invokevirtual 330) 4 3 mi_So_among, e1 (.iconst (-1)) 1 (-1), eb (.if_icmp .eq 5) 36, e1 (.iconst 1) 1 1, e0 .ireturn 1, e1 (.iinc 3 1) 3 1, eb (.goto (-31)) 8, e1 (.iconst 0) 1 0, e0 .ireturn 1]
theorem dt_B_hasSound : bt_dec mi_B_hasSound.2.1 mi_B_hasSound.2.2.1 0 ct_B_hasSound = true := by decide +kernel
theorem kt_B_hasSound : bt_T mi_B_hasSound ct_B_hasSound := ⟨dt_B_hasSound, ⟨trivial, ⟨trivial, ⟨trivial, ⟨trivial, ⟨trivial, ⟨trivial, ⟨trivial, ⟨trivial, ⟨bv_B_168, ⟨trivial, ⟨trivial, ⟨lg_B_28, ⟨trivial, ⟨trivial, ⟨trivial, ⟨bv_B_171, ⟨trivial, ⟨bv_B_330, ⟨trivial, ⟨trivial, ⟨trivial, ⟨trivial, ⟨trivial, ⟨trivial, ⟨trivial, ⟨trivial, trivial⟩⟩⟩⟩⟩⟩⟩⟩⟩⟩⟩⟩⟩⟩⟩⟩⟩⟩⟩⟩⟩⟩⟩⟩⟩⟩⟩
def ct_B_drawWalkers : List bt_E := [e0 (.iload_n 1) 1, e0 (.istore 4) 2, e1 (.iconst 0) 1 0, e0 (.istore 5) 2, e1 (.iconst 0) 1 0, e0 (.istore 6) 2, e1 (.iconst 0) 1 0, e0 (.istore 7) 2, e1 (.iconst 0) 1 0, e0 (.istore 8) 2, e0 (.iload 8) 2, e0 (.iload_n 2) 1, eb (.if_icmp .ge 130) 148, e1 (.iconst 0) 1 0, e0 (.istore 9) 2, e1 (.iconst 0) 1 0, e0 (.istore 10) 2, e1 (.iconst 0) 1 0, e0 (.istore 11) 2, e0 (.iload 11) 2, e1 (.bipush 24) 2 24, eb (.if_icmp .ge 86) 120, e0 (.iload 4) 2, em (.invokestatic 337) 1 100 mi_B_nextDraw, e0 (.istore 4) 2, e0 (.iload 11) 2, eb (.ifCond .ne 18) 64, e0 (.aload_n 0) 1, ef (.getfield 10) 0 0, e0 (.iload 4) 2, e1 (.bipush 8) 2 8, e0 .iushr 1, em (.invokevirtual 340) 2 1 mi_Fo_treeDrawn, eb (.goto 17) 78, e0 (.aload_n 0) 1, ef (.getfield 10) 0 0, e0 (.iload 10) 2, e0 (.iload 4) 2, e1 (.bipush 8) 2 8, e0 .iushr 1, em (.invokevirtual 343) 3 1 mi_Fo_stepDrawn, e0 (.istore 10) 2, e0 (.aload_n 0) 1, ef (.getfield 28) 0 2, e0 (.iload 10) 2, e0 (.iload 11) 2, em (.invokevirtual 145) 3 3 mi_So_at, e1 (.iconst (-1)) 1 (-1), eb (.if_icmp .eq 22) 114, e1 (.iinc 9 1) 3 1, e0 (.iload 7) 2, e0 (.iload 10) 2, e0 (.iload_n 3) 1, eb (.if_icmp .ne 7) 110, e1 (.iconst 1) 1 1, eb (.goto 4) 111, e1 (.iconst 0) 1 0, e0 .iadd 1, e0 (.istore 7) 2, e1 (.iinc 11 1) 3 1, eb (.goto (-87)) 30, e0 (.iload 5) 2, e0 (.iload 9) 2, e0 .iadd 1, e0 (.istore 5) 2, e0 (.iload 6) 2, e0 (.iload 9) 2, eb (.ifCond .ne 7) 138, e1 (.iconst 1) 1 1, eb (.goto 4) 139, e1 (.iconst 0) 1 0, e0 .iadd 1, e0 (.istore 6) 2, e1 (.iinc 8 1) 3 1, eb (.goto (-130)) 15, e0 (.iload_n 3) 1, e1 (.iconst (-1)) 1 (-1), eb (.if_icmp .ne 6) 156, e0 (.iload 5) 2, e0 .ireturn 1, e0 (.iload_n 3) 1, e1 (.bipush (-2)) 2 (-2), eb (.if_icmp .ne 8) 167, e0 (.iload 6) 2, eb (.goto 5) 169, e0 (.iload 7) 2, e0 .ireturn 1]
theorem dt_B_drawWalkers : bt_dec mi_B_drawWalkers.2.1 mi_B_drawWalkers.2.2.1 0 ct_B_drawWalkers = true := by decide +kernel
theorem kt_B_drawWalkers : bt_T mi_B_drawWalkers ct_B_drawWalkers := ⟨dt_B_drawWalkers, ⟨trivial, ⟨trivial, ⟨trivial, ⟨trivial, ⟨trivial, ⟨trivial, ⟨trivial, ⟨trivial, ⟨trivial, ⟨trivial, ⟨trivial, ⟨trivial, ⟨trivial, ⟨trivial, ⟨trivial, ⟨trivial, ⟨trivial, ⟨trivial, ⟨trivial, ⟨trivial, ⟨trivial, ⟨trivial, ⟨trivial, ⟨⟨fun _ => bs_B_337, (fun h => by cases h)⟩, ⟨trivial, ⟨trivial, ⟨trivial, ⟨trivial, ⟨lg_B_10, ⟨trivial, ⟨trivial, ⟨trivial, ⟨bv_B_340, ⟨trivial, ⟨trivial, ⟨lg_B_10, ⟨trivial, ⟨trivial, ⟨trivial, ⟨trivial, ⟨bv_B_343, ⟨trivial, ⟨trivial, ⟨lg_B_28, ⟨trivial, ⟨trivial, ⟨bv_B_145, ⟨trivial, ⟨trivial, ⟨trivial, ⟨trivial, ⟨trivial, ⟨trivial, ⟨trivial, ⟨trivial, ⟨trivial, ⟨trivial, ⟨trivial, ⟨trivial, ⟨trivial, ⟨trivial, ⟨trivial, ⟨trivial, ⟨trivial, ⟨trivial, ⟨trivial, ⟨trivial, ⟨trivial, ⟨trivial, ⟨trivial, ⟨trivial, ⟨trivial, ⟨trivial, ⟨trivial, ⟨trivial, ⟨trivial, ⟨trivial, ⟨trivial, ⟨trivial, ⟨trivial, ⟨trivial, ⟨trivial, ⟨trivial, ⟨trivial, ⟨trivial, ⟨trivial, ⟨trivial, trivial⟩⟩⟩⟩⟩⟩⟩⟩⟩⟩⟩⟩⟩⟩⟩⟩⟩⟩⟩⟩⟩⟩⟩⟩⟩⟩⟩⟩⟩⟩⟩⟩⟩⟩⟩⟩⟩⟩⟩⟩⟩⟩⟩⟩⟩⟩⟩⟩⟩⟩⟩⟩⟩⟩⟩⟩⟩⟩⟩⟩⟩⟩⟩⟩⟩⟩⟩⟩⟩⟩⟩⟩⟩⟩⟩⟩⟩⟩⟩⟩⟩⟩⟩⟩⟩⟩⟩⟩
def ct_Fo_size : List bt_E := [e0 (.aload_n 0) 1, ef (.getfield 35) 1 4, e0 .ireturn 1]
theorem dt_Fo_size : bt_dec mi_Fo_size.2.1 mi_Fo_size.2.2.1 0 ct_Fo_size = true := by decide +kernel
theorem kt_Fo_size : bt_T mi_Fo_size ct_Fo_size := ⟨dt_Fo_size, ⟨trivial, ⟨lg_Fo_35, ⟨trivial, trivial⟩⟩⟩⟩
def ct_Fo_joined : List bt_E := [e0 (.aload_n 0) 1, ef (.getfield 39) 1 5, e0 .ireturn 1]
theorem dt_Fo_joined : bt_dec mi_Fo_joined.2.1 mi_Fo_joined.2.2.1 0 ct_Fo_joined = true := by decide +kernel
theorem kt_Fo_joined : bt_T mi_Fo_joined ct_Fo_joined := ⟨dt_Fo_joined, ⟨trivial, ⟨lg_Fo_39, ⟨trivial, trivial⟩⟩⟩⟩
def ct_Fo_walked : List bt_E := [e0 (.aload_n 0) 1, ef (.getfield 42) 1 6, e0 .ireturn 1]
theorem dt_Fo_walked : bt_dec mi_Fo_walked.2.1 mi_Fo_walked.2.2.1 0 ct_Fo_walked = true := by decide +kernel
theorem kt_Fo_walked : bt_T mi_Fo_walked ct_Fo_walked := ⟨dt_Fo_walked, ⟨trivial, ⟨lg_Fo_42, ⟨trivial, trivial⟩⟩⟩⟩
def ct_Fo_has : List bt_E := [e0 (.iload_n 1) 1, eb (.ifCond .lt 15) 16, e0 (.iload_n 1) 1, e0 (.aload_n 0) 1, ef (.getfield 35) 1 4, eb (.if_icmp .ge 7) 16, e1 (.iconst 1) 1 1, eb (.goto 4) 17, e1 (.iconst 0) 1 0, e0 .ireturn 1]
theorem dt_Fo_has : bt_dec mi_Fo_has.2.1 mi_Fo_has.2.2.1 0 ct_Fo_has = true := by decide +kernel
theorem kt_Fo_has : bt_T mi_Fo_has ct_Fo_has := ⟨dt_Fo_has, ⟨trivial, ⟨trivial, ⟨trivial, ⟨trivial, ⟨lg_Fo_35, ⟨trivial, ⟨trivial, ⟨trivial, ⟨trivial, ⟨trivial, trivial⟩⟩⟩⟩⟩⟩⟩⟩⟩⟩⟩
def ct_Fo_all : List bt_E := [e1 (.iconst 1) 1 1, e0 (.aload_n 0) 1, ef (.getfield 35) 1 4, e0 .ishl 1, e1 (.iconst 1) 1 1, e0 .isub 1, e0 .ireturn 1]
theorem dt_Fo_all : bt_dec mi_Fo_all.2.1 mi_Fo_all.2.2.1 0 ct_Fo_all = true := by decide +kernel
theorem kt_Fo_all : bt_T mi_Fo_all ct_Fo_all := ⟨dt_Fo_all, ⟨trivial, ⟨trivial, ⟨lg_Fo_35, ⟨trivial, ⟨trivial, ⟨trivial, ⟨trivial, trivial⟩⟩⟩⟩⟩⟩⟩⟩
def ct_Fo_isSlot : List bt_E := [e0 (.iload_n 2) 1, eb (.ifCond .lt 16) 17, e0 (.iload_n 2) 1, e0 (.aload_n 0) 1, e0 (.iload_n 1) 1, em (.invokevirtual 45) 2 1 mi_Fo_slots, eb (.if_icmp .ge 7) 17, e1 (.iconst 1) 1 1, eb (.goto 4) 18, e1 (.iconst 0) 1 0, e0 .ireturn 1]
theorem dt_Fo_isSlot : bt_dec mi_Fo_isSlot.2.1 mi_Fo_isSlot.2.2.1 0 ct_Fo_isSlot = true := by decide +kernel
theorem kt_Fo_isSlot : bt_T mi_Fo_isSlot ct_Fo_isSlot := ⟨dt_Fo_isSlot, ⟨trivial, ⟨trivial, ⟨trivial, ⟨trivial, ⟨trivial, ⟨bv_Fo_45, ⟨trivial, ⟨trivial, ⟨trivial, ⟨trivial, ⟨trivial, trivial⟩⟩⟩⟩⟩⟩⟩⟩⟩⟩⟩⟩
def ct_Fo_slots : List bt_E := [e0 (.iload_n 1) 1, ew (.tableswitch 59 0 7 #[47, 47, 47, 47, 52, 55, 57, 57]) 47 60 [(0, 48), (1, 48), (2, 48), (3, 48), (4, 53), (5, 56), (6, 58), (7, 58)], e0 (.aload_n 0) 1, ef (.getfield 35) 1 4, e0 .ireturn 1, e1 (.bipush 24) 2 24, e0 .ireturn 1, e1 (.iconst 4) 1 4, e0 .ireturn 1, e1 (.iconst 1) 1 1, e0 .ireturn 1, e1 (.iconst 0) 1 0, e0 .ireturn 1]
theorem dt_Fo_slots : bt_dec mi_Fo_slots.2.1 mi_Fo_slots.2.2.1 0 ct_Fo_slots = true := by decide +kernel
theorem kt_Fo_slots : bt_T mi_Fo_slots ct_Fo_slots := ⟨dt_Fo_slots, ⟨trivial, ⟨trivial, ⟨trivial, ⟨lg_Fo_35, ⟨trivial, ⟨trivial, ⟨trivial, ⟨trivial, ⟨trivial, ⟨trivial, ⟨trivial, ⟨trivial, ⟨trivial, trivial⟩⟩⟩⟩⟩⟩⟩⟩⟩⟩⟩⟩⟩⟩
def ct_Fo_mayBe : List bt_E := [e0 (.iload_n 1) 1, eb (.ifCond .lt 28) 29, e0 (.iload_n 1) 1, ef (.getstatic 9) 0 0, e0 .arraylength 1, eb (.if_icmp .ge 20) 29, e0 (.iload_n 2) 1, eb (.ifCond .lt 16) 29, e0 (.iload_n 2) 1, ef (.getstatic 9) 0 0, e0 (.iload_n 1) 1, e0 .iaload 1, eb (.if_icmp .gt 7) 29, e1 (.iconst 1) 1 1, eb (.goto 4) 30, e1 (.iconst 0) 1 0, e0 .ireturn 1]
theorem dt_Fo_mayBe : bt_dec mi_Fo_mayBe.2.1 mi_Fo_mayBe.2.2.1 0 ct_Fo_mayBe = true := by decide +kernel
theorem kt_Fo_mayBe : bt_T mi_Fo_mayBe ct_Fo_mayBe := ⟨dt_Fo_mayBe, ⟨trivial, ⟨trivial, ⟨trivial, ⟨ls_Fo_9, ⟨trivial, ⟨trivial, ⟨trivial, ⟨trivial, ⟨trivial, ⟨ls_Fo_9, ⟨trivial, ⟨trivial, ⟨trivial, ⟨trivial, ⟨trivial, ⟨trivial, ⟨trivial, trivial⟩⟩⟩⟩⟩⟩⟩⟩⟩⟩⟩⟩⟩⟩⟩⟩⟩⟩
def ct_Fo_get : List bt_E := [e0 (.aload_n 0) 1, e0 (.iload_n 1) 1, e0 (.iload_n 2) 1, em (.invokevirtual 49) 3 1 mi_Fo_isSlot, eb (.ifCond .eq 14) 20, e0 (.aload_n 0) 1, ef (.getfield 17) 1 0, e0 (.iload_n 1) 1, e0 .aaload 1, e0 (.iload_n 2) 1, e0 .iaload 1, eb (.goto 4) 21, e1 (.iconst 0) 1 0, e0 .ireturn 1]
theorem dt_Fo_get : bt_dec mi_Fo_get.2.1 mi_Fo_get.2.2.1 0 ct_Fo_get = true := by decide +kernel
theorem kt_Fo_get : bt_T mi_Fo_get ct_Fo_get := ⟨dt_Fo_get, ⟨trivial, ⟨trivial, ⟨trivial, ⟨bv_Fo_49, ⟨trivial, ⟨trivial, ⟨lg_Fo_17, ⟨trivial, ⟨trivial, ⟨trivial, ⟨trivial, ⟨trivial, ⟨trivial, ⟨trivial, trivial⟩⟩⟩⟩⟩⟩⟩⟩⟩⟩⟩⟩⟩⟩⟩
def ct_Fo_set : List bt_E := [e0 (.aload_n 0) 1, e0 (.iload_n 1) 1, e0 (.iload_n 2) 1, em (.invokevirtual 49) 3 1 mi_Fo_isSlot, eb (.ifCond .eq 12) 18, e0 (.aload_n 0) 1, ef (.getfield 17) 1 0, e0 (.iload_n 1) 1, e0 .aaload 1, e0 (.iload_n 2) 1, e0 (.iload_n 3) 1, e0 .iastore 1, e0 .return_ 1]
theorem dt_Fo_set : bt_dec mi_Fo_set.2.1 mi_Fo_set.2.2.1 0 ct_Fo_set = true := by decide +kernel
theorem kt_Fo_set : bt_T mi_Fo_set ct_Fo_set := ⟨dt_Fo_set, ⟨trivial, ⟨trivial, ⟨trivial, ⟨bv_Fo_49, ⟨trivial, ⟨trivial, ⟨lg_Fo_17, ⟨trivial, ⟨trivial, ⟨trivial, ⟨trivial, ⟨trivial, ⟨trivial, trivial⟩⟩⟩⟩⟩⟩⟩⟩⟩⟩⟩⟩⟩⟩
def ct_Fo_plant : List bt_E := [e0 (.aload_n 0) 1, ef (.getfield 35) 1 4, e1 (.bipush 8) 2 8, eb (.if_icmp .lt 6) 12, e1 (.bipush (-3)) 2 (-3), e0 .ireturn 1, e0 (.aload_n 0) 1, ef (.getfield 35) 1 4, e0 (.istore 4) 2, e0 (.aload_n 0) 1, e0 .dup 1, ef (.getfield 35) 1 4, e1 (.iconst 1) 1 1, e0 .iadd 1, ef (.putfield 35) 1 4, e0 (.aload_n 0) 1, e1 (.iconst 0) 1 0, e0 (.iload 4) 2, e0 (.iload_n 1) 1, em (.invokevirtual 53) 4 1 mi_Fo_set, e0 (.aload_n 0) 1, e1 (.iconst 1) 1 1, e0 (.iload 4) 2, e0 (.iload_n 2) 1, em (.invokevirtual 53) 4 1 mi_Fo_set, e0 (.aload_n 0) 1, e1 (.iconst 2) 1 2, e0 (.iload 4) 2, e0 (.iload_n 3) 1, em (.invokevirtual 53) 4 1 mi_Fo_set, e0 (.aload_n 0) 1, e1 (.iconst 3) 1 3, e0 (.iload 4) 2, e1 (.iconst 1) 1 1, em (.invokevirtual 53) 4 1 mi_Fo_set, e0 (.iload 4) 2, e0 .ireturn 1]
theorem dt_Fo_plant : bt_dec mi_Fo_plant.2.1 mi_Fo_plant.2.2.1 0 ct_Fo_plant = true := by decide +kernel
theorem kt_Fo_plant : bt_T mi_Fo_plant ct_Fo_plant := ⟨dt_Fo_plant, ⟨trivial, ⟨lg_Fo_35, ⟨trivial, ⟨trivial, ⟨trivial, ⟨trivial, ⟨trivial, ⟨lg_Fo_35, ⟨trivial, ⟨trivial, ⟨trivial, ⟨lg_Fo_35, ⟨trivial, ⟨trivial, ⟨lp_Fo_35, ⟨trivial, ⟨trivial, ⟨trivial, ⟨trivial, ⟨bv_Fo_53, ⟨trivial, ⟨trivial, ⟨trivial, ⟨trivial, ⟨bv_Fo_53, ⟨trivial, ⟨trivial, ⟨trivial, ⟨trivial, ⟨bv_Fo_53, ⟨trivial, ⟨trivial, ⟨trivial, ⟨trivial, ⟨bv_Fo_53, ⟨trivial, ⟨trivial, trivial⟩⟩⟩⟩⟩⟩⟩⟩⟩⟩⟩⟩⟩⟩⟩⟩⟩⟩⟩⟩⟩⟩⟩⟩⟩⟩⟩⟩⟩⟩⟩⟩⟩⟩⟩⟩⟩⟩
def ct_Fo_join : List bt_E := [e0 (.aload_n 0) 1, e0 (.iload_n 1) 1, em (.invokevirtual 57) 2 1 mi_Fo_has, eb (.ifCond .eq 29) 34, e0 (.aload_n 0) 1, e0 (.iload_n 2) 1, em (.invokevirtual 57) 2 1 mi_Fo_has, eb (.ifCond .eq 21) 34, e0 (.iload_n 1) 1, e0 (.iload_n 2) 1, eb (.if_icmp .eq 16) 34, e0 (.aload_n 0) 1, ef (.getfield 20) 1 1, e0 (.iload_n 1) 1, e0 .iaload 1, e0 (.iload_n 2) 1, e0 .ishr 1, e1 (.iconst 1) 1 1, e0 .iand 1, eb (.ifCond .eq 5) 36, e1 (.iconst (-1)) 1 (-1), e0 .ireturn 1, e0 (.aload_n 0) 1, ef (.getfield 39) 1 5, e1 (.bipush 14) 2 14, eb (.if_icmp .lt 6) 48, e1 (.bipush (-3)) 2 (-3), e0 .ireturn 1, e0 (.aload_n 0) 1, ef (.getfield 20) 1 1, e0 (.iload_n 1) 1, e0 .dup2 1, e0 .iaload 1, e1 (.iconst 1) 1 1, e0 (.iload_n 2) 1, e0 .ishl 1, e0 .ior 1, e0 .iastore 1, e0 (.aload_n 0) 1, ef (.getfield 20) 1 1, e0 (.iload_n 2) 1, e0 .dup2 1, e0 .iaload 1, e1 (.iconst 1) 1 1, e0 (.iload_n 1) 1, e0 .ishl 1, e0 .ior 1, e0 .iastore 1, e0 (.aload_n 0) 1, e0 .dup 1, ef (.getfield 39) 1 5, e1 (.iconst 1) 1 1, e0 .iadd 1, ef (.putfield 39) 1 5, e0 (.aload_n 0) 1, ef (.getfield 39) 1 5, e0 .ireturn 1]
theorem dt_Fo_join : bt_dec mi_Fo_join.2.1 mi_Fo_join.2.2.1 0 ct_Fo_join = true := by decide +kernel
theorem kt_Fo_join : bt_T mi_Fo_join ct_Fo_join := ⟨dt_Fo_join, ⟨trivial, ⟨trivial, ⟨bv_Fo_57, ⟨trivial, ⟨trivial, ⟨trivial, ⟨bv_Fo_57, ⟨trivial, ⟨trivial, ⟨trivial, ⟨trivial, ⟨trivial, ⟨lg_Fo_20, ⟨trivial, ⟨trivial, ⟨trivial, ⟨trivial, ⟨trivial, ⟨trivial, ⟨trivial, ⟨trivial, ⟨trivial, ⟨trivial, ⟨lg_Fo_39, ⟨trivial, ⟨trivial, ⟨trivial, ⟨trivial, ⟨trivial, ⟨lg_Fo_20, ⟨trivial, ⟨trivial, ⟨trivial, ⟨trivial, ⟨trivial, ⟨trivial, ⟨trivial, ⟨trivial, ⟨trivial, ⟨lg_Fo_20, ⟨trivial, ⟨trivial, ⟨trivial, ⟨trivial, ⟨trivial, ⟨trivial, ⟨trivial, ⟨trivial, ⟨trivial, ⟨trivial, ⟨lg_Fo_39, ⟨trivial, ⟨trivial, ⟨lp_Fo_39, ⟨trivial, ⟨lg_Fo_39, ⟨trivial, trivial⟩⟩⟩⟩⟩⟩⟩⟩⟩⟩⟩⟩⟩⟩⟩⟩⟩⟩⟩⟩⟩⟩⟩⟩⟩⟩⟩⟩⟩⟩⟩⟩⟩⟩⟩⟩⟩⟩⟩⟩⟩⟩⟩⟩⟩⟩⟩⟩⟩⟩⟩⟩⟩⟩⟩⟩⟩⟩
def ct_Fo_around : List bt_E := [e0 (.aload_n 0) 1, e0 (.iload_n 1) 1, em (.invokevirtual 57) 2 1 mi_Fo_has, eb (.ifCond .eq 16) 21, e0 (.aload_n 0) 1, ef (.getfield 20) 1 1, e0 (.iload_n 1) 1, e0 .iaload 1, e1 (.iconst 1) 1 1, e0 (.iload_n 1) 1, e0 .ishl 1, e0 .ior 1, eb (.goto 4) 22, e1 (.iconst 0) 1 0, e0 .ireturn 1]
theorem dt_Fo_around : bt_dec mi_Fo_around.2.1 mi_Fo_around.2.2.1 0 ct_Fo_around = true := by decide +kernel
theorem kt_Fo_around : bt_T mi_Fo_around ct_Fo_around := ⟨dt_Fo_around, ⟨trivial, ⟨trivial, ⟨bv_Fo_57, ⟨trivial, ⟨trivial, ⟨lg_Fo_20, ⟨trivial, ⟨trivial, ⟨trivial, ⟨trivial, ⟨trivial, ⟨trivial, ⟨trivial, ⟨trivial, ⟨trivial, trivial⟩⟩⟩⟩⟩⟩⟩⟩⟩⟩⟩⟩⟩⟩⟩⟩
def ct_Fo_heardOf : List bt_E := [e0 (.aload_n 0) 1, e0 (.iload_n 1) 1, em (.invokevirtual 57) 2 1 mi_Fo_has, eb (.ifCond .eq 12) 17, e0 (.aload_n 0) 1, ef (.getfield 26) 1 3, e0 (.iload_n 1) 1, e0 .iaload 1, eb (.goto 4) 18, e1 (.iconst 0) 1 0, e0 .ireturn 1]
theorem dt_Fo_heardOf : bt_dec mi_Fo_heardOf.2.1 mi_Fo_heardOf.2.2.1 0 ct_Fo_heardOf = true := by decide +kernel
theorem kt_Fo_heardOf : bt_T mi_Fo_heardOf ct_Fo_heardOf := ⟨dt_Fo_heardOf, ⟨trivial, ⟨trivial, ⟨bv_Fo_57, ⟨trivial, ⟨trivial, ⟨lg_Fo_26, ⟨trivial, ⟨trivial, ⟨trivial, ⟨trivial, ⟨trivial, trivial⟩⟩⟩⟩⟩⟩⟩⟩⟩⟩⟩⟩
def ct_Fo_setHeard : List bt_E := [e0 (.aload_n 0) 1, e0 (.iload_n 1) 1, em (.invokevirtual 57) 2 1 mi_Fo_has, eb (.ifCond .eq 10) 15, e0 (.aload_n 0) 1, ef (.getfield 26) 1 3, e0 (.iload_n 1) 1, e0 (.iload_n 2) 1, e0 .iastore 1, e0 .return_ 1]
theorem dt_Fo_setHeard : bt_dec mi_Fo_setHeard.2.1 mi_Fo_setHeard.2.2.1 0 ct_Fo_setHeard = true := by decide +kernel
theorem kt_Fo_setHeard : bt_T mi_Fo_setHeard ct_Fo_setHeard := ⟨dt_Fo_setHeard, ⟨trivial, ⟨trivial, ⟨bv_Fo_57, ⟨trivial, ⟨trivial, ⟨lg_Fo_26, ⟨trivial, ⟨trivial, ⟨trivial, ⟨trivial, trivial⟩⟩⟩⟩⟩⟩⟩⟩⟩⟩⟩
def ct_Fo_addHeard : List bt_E := [e0 (.aload_n 0) 1, e0 (.iload_n 1) 1, e0 (.aload_n 0) 1, e0 (.iload_n 1) 1, em (.invokevirtual 61) 2 1 mi_Fo_heardOf, e1 (.iconst 1) 1 1, e0 .iadd 1, em (.invokevirtual 64) 3 1 mi_Fo_setHeard, e0 .return_ 1]
theorem dt_Fo_addHeard : bt_dec mi_Fo_addHeard.2.1 mi_Fo_addHeard.2.2.1 0 ct_Fo_addHeard = true := by decide +kernel
theorem kt_Fo_addHeard : bt_T mi_Fo_addHeard ct_Fo_addHeard := ⟨dt_Fo_addHeard, ⟨trivial, ⟨trivial, ⟨trivial, ⟨trivial, ⟨bv_Fo_61, ⟨trivial, ⟨trivial, ⟨bv_Fo_64, ⟨trivial, trivial⟩⟩⟩⟩⟩⟩⟩⟩⟩⟩
def ct_Fo_setWalked : List bt_E := [e0 (.aload_n 0) 1, e0 (.iload_n 1) 1, ef (.putfield 42) 1 6, e0 .return_ 1]
theorem dt_Fo_setWalked : bt_dec mi_Fo_setWalked.2.1 mi_Fo_setWalked.2.2.1 0 ct_Fo_setWalked = true := by decide +kernel
theorem kt_Fo_setWalked : bt_T mi_Fo_setWalked ct_Fo_setWalked := ⟨dt_Fo_setWalked, ⟨trivial, ⟨trivial, ⟨lp_Fo_42, ⟨trivial, trivial⟩⟩⟩⟩⟩
def ct_Fo_addWalk : List bt_E := [e0 (.aload_n 0) 1, e0 .dup 1, ef (.getfield 42) 1 6, e1 (.iconst 1) 1 1, e0 .iadd 1, ef (.putfield 42) 1 6, e0 .return_ 1]
theorem dt_Fo_addWalk : bt_dec mi_Fo_addWalk.2.1 mi_Fo_addWalk.2.2.1 0 ct_Fo_addWalk = true := by decide +kernel
theorem kt_Fo_addWalk : bt_T mi_Fo_addWalk ct_Fo_addWalk := ⟨dt_Fo_addWalk, ⟨trivial, ⟨trivial, ⟨lg_Fo_42, ⟨trivial, ⟨trivial, ⟨lp_Fo_42, ⟨trivial, trivial⟩⟩⟩⟩⟩⟩⟩⟩
def ct_Fo_farOf : List bt_E := [e0 (.aload_n 0) 1, em (.invokevirtual 68) 1 1 mi_Fo_measureFar, e0 (.aload_n 0) 1, e0 (.iload_n 1) 1, em (.invokevirtual 71) 2 1 mi_Fo_farMeasured, e0 .ireturn 1]
theorem dt_Fo_farOf : bt_dec mi_Fo_farOf.2.1 mi_Fo_farOf.2.2.1 0 ct_Fo_farOf = true := by decide +kernel
theorem kt_Fo_farOf : bt_T mi_Fo_farOf ct_Fo_farOf := ⟨dt_Fo_farOf, ⟨trivial, ⟨bv_Fo_68, ⟨trivial, ⟨trivial, ⟨bv_Fo_71, ⟨trivial, trivial⟩⟩⟩⟩⟩⟩⟩
def ct_Fo_farMeasured : List bt_E := [e0 (.aload_n 0) 1, e0 (.iload_n 1) 1, em (.invokevirtual 57) 2 1 mi_Fo_has, eb (.ifCond .eq 12) 17, e0 (.aload_n 0) 1, ef (.getfield 23) 1 2, e0 (.iload_n 1) 1, e0 .iaload 1, eb (.goto 5) 19, e1 (.bipush 9) 2 9, e0 .ireturn 1]
theorem dt_Fo_farMeasured : bt_dec mi_Fo_farMeasured.2.1 mi_Fo_farMeasured.2.2.1 0 ct_Fo_farMeasured = true := by decide +kernel
theorem kt_Fo_farMeasured : bt_T mi_Fo_farMeasured ct_Fo_farMeasured := ⟨dt_Fo_farMeasured, ⟨trivial, ⟨trivial, ⟨bv_Fo_57, ⟨trivial, ⟨trivial, ⟨lg_Fo_23, ⟨trivial, ⟨trivial, ⟨trivial, ⟨trivial, ⟨trivial, trivial⟩⟩⟩⟩⟩⟩⟩⟩⟩⟩⟩⟩
def ct_Fo_measureFar : List bt_E := [e0 (.aload_n 0) 1, ef (.getfield 23) 1 2, e1 (.bipush 9) 2 9, em (.invokestatic 29) 2 100 mi_JA_fillI, e0 (.aload_n 0) 1, e1 (.bipush 7) 2 7, e1 (.iconst 0) 1 0, em (.invokevirtual 74) 3 1 mi_Fo_get, e0 (.istore_n 1) 1, e0 (.aload_n 0) 1, e0 (.iload_n 1) 1, em (.invokevirtual 57) 2 1 mi_Fo_has, eb (.ifCond .eq 9) 31, e1 (.iconst 1) 1 1, e0 (.iload_n 1) 1, e0 .ishl 1, eb (.goto 4) 32, e1 (.iconst 0) 1 0, e0 (.istore_n 2) 1, e0 (.iload_n 2) 1, e0 (.istore_n 3) 1, e1 (.iconst 0) 1 0, e0 (.istore 4) 2, e0 (.iload 4) 2, e1 (.bipush 8) 2 8, eb (.if_icmp .ge 75) 117, e0 (.iload_n 2) 1, eb (.ifCond .eq 71) 117, e1 (.iconst 0) 1 0, e0 (.istore 5) 2, e1 (.iconst 0) 1 0, e0 (.istore 6) 2, e0 (.iload 6) 2, e0 (.aload_n 0) 1, ef (.getfield 35) 1 4, eb (.if_icmp .ge 39) 100, e0 (.iload_n 2) 1, e0 (.iload 6) 2, e0 .ishr 1, e1 (.iconst 1) 1 1, e0 .iand 1, eb (.ifCond .eq 24) 94, e0 (.aload_n 0) 1, ef (.getfield 23) 1 2, e0 (.iload 6) 2, e0 (.iload 4) 2, e0 .iastore 1, e0 (.iload 5) 2, e0 (.aload_n 0) 1, ef (.getfield 20) 1 1, e0 (.iload 6) 2, e0 .iaload 1, e0 .ior 1, e0 (.istore 5) 2, e1 (.iinc 6 1) 3 1, eb (.goto (-42)) 55, e0 (.iload 5) 2, e0 (.iload_n 3) 1, e1 (.iconst (-1)) 1 (-1), e0 .ixor 1, e0 .iand 1, e0 (.istore_n 2) 1, e0 (.iload_n 3) 1, e0 (.iload_n 2) 1, e0 .ior 1, e0 (.istore_n 3) 1, e1 (.iinc 4 1) 3 1, eb (.goto (-76)) 38, e0 .return_ 1]
theorem dt_Fo_measureFar : bt_dec mi_Fo_measureFar.2.1 mi_Fo_measureFar.2.2.1 0 ct_Fo_measureFar = true := by decide +kernel
theorem kt_Fo_measureFar : bt_T mi_Fo_measureFar ct_Fo_measureFar := ⟨dt_Fo_measureFar, ⟨trivial, ⟨lg_Fo_23, ⟨trivial, ⟨⟨fun _ => bs_Fo_29, (fun h => by cases h)⟩, ⟨trivial, ⟨trivial, ⟨trivial, ⟨bv_Fo_74, ⟨trivial, ⟨trivial, ⟨trivial, ⟨bv_Fo_57, ⟨trivial, ⟨trivial, ⟨trivial, ⟨trivial, ⟨trivial, ⟨trivial, ⟨trivial, ⟨trivial, ⟨trivial, ⟨trivial, ⟨trivial, ⟨trivial, ⟨trivial, ⟨trivial, ⟨trivial, ⟨trivial, ⟨trivial, ⟨trivial, ⟨trivial, ⟨trivial, ⟨trivial, ⟨trivial, ⟨lg_Fo_35, ⟨trivial, ⟨trivial, ⟨trivial, ⟨trivial, ⟨trivial, ⟨trivial, ⟨trivial, ⟨trivial, ⟨lg_Fo_23, ⟨trivial, ⟨trivial, ⟨trivial, ⟨trivial, ⟨trivial, ⟨lg_Fo_20, ⟨trivial, ⟨trivial, ⟨trivial, ⟨trivial, ⟨trivial, ⟨trivial, ⟨trivial, ⟨trivial, ⟨trivial, ⟨trivial, ⟨trivial, ⟨trivial, ⟨trivial, ⟨trivial, ⟨trivial, ⟨trivial, ⟨trivial, ⟨trivial, ⟨trivial, trivial⟩⟩⟩⟩⟩⟩⟩⟩⟩⟩⟩⟩⟩⟩⟩⟩⟩⟩⟩⟩⟩⟩⟩⟩⟩⟩⟩⟩⟩⟩⟩⟩⟩⟩⟩⟩⟩⟩⟩⟩⟩⟩⟩⟩⟩⟩⟩⟩⟩⟩⟩⟩⟩⟩⟩⟩⟩⟩⟩⟩⟩⟩⟩⟩⟩⟩⟩⟩⟩⟩
def ct_Fo_rings : List bt_E := [e0 (.aload_n 0) 1, e1 (.iconst 3) 1 3, e0 (.iload_n 2) 1, em (.invokevirtual 74) 3 1 mi_Fo_get, e1 (.iconst 1) 1 1, eb (.if_icmp .ne 22) 29, e0 (.aload_n 0) 1, e1 (.iconst 2) 1 2, e0 (.iload_n 2) 1, em (.invokevirtual 74) 3 1 mi_Fo_get, e0 (.aload_n 0) 1, e1 (.iconst 5) 1 5, e0 (.iload_n 1) 1, em (.invokevirtual 74) 3 1 mi_Fo_get, eb (.if_icmp .gt 7) 29, e1 (.iconst 1) 1 1, eb (.goto 4) 30, e1 (.iconst 0) 1 0, e0 .ireturn 1]
theorem dt_Fo_rings : bt_dec mi_Fo_rings.2.1 mi_Fo_rings.2.2.1 0 ct_Fo_rings = true := by decide +kernel
theorem kt_Fo_rings : bt_T mi_Fo_rings ct_Fo_rings := ⟨dt_Fo_rings, ⟨trivial, ⟨trivial, ⟨trivial, ⟨bv_Fo_74, ⟨trivial, ⟨trivial, ⟨trivial, ⟨trivial, ⟨trivial, ⟨bv_Fo_74, ⟨trivial, ⟨trivial, ⟨trivial, ⟨bv_Fo_74, ⟨trivial, ⟨trivial, ⟨trivial, ⟨trivial, ⟨trivial, trivial⟩⟩⟩⟩⟩⟩⟩⟩⟩⟩⟩⟩⟩⟩⟩⟩⟩⟩⟩⟩
def ct_Fo_bellsThere : List bt_E := [e1 (.iconst 0) 1 0, e0 (.istore_n 1) 1, e1 (.iconst 0) 1 0, e0 (.istore_n 2) 1, e0 (.iload_n 2) 1, e0 (.aload_n 0) 1, ef (.getfield 35) 1 4, eb (.if_icmp .ge 20) 29, e0 (.iload_n 1) 1, e0 (.aload_n 0) 1, e1 (.iconst 3) 1 3, e0 (.iload_n 2) 1, em (.invokevirtual 74) 3 1 mi_Fo_get, e0 (.iload_n 2) 1, e0 .ishl 1, e0 .ior 1, e0 (.istore_n 1) 1, e1 (.iinc 2 1) 3 1, eb (.goto (-22)) 4, e0 (.iload_n 1) 1, e0 .ireturn 1]
theorem dt_Fo_bellsThere : bt_dec mi_Fo_bellsThere.2.1 mi_Fo_bellsThere.2.2.1 0 ct_Fo_bellsThere = true := by decide +kernel
theorem kt_Fo_bellsThere : bt_T mi_Fo_bellsThere ct_Fo_bellsThere := ⟨dt_Fo_bellsThere, ⟨trivial, ⟨trivial, ⟨trivial, ⟨trivial, ⟨trivial, ⟨trivial, ⟨lg_Fo_35, ⟨trivial, ⟨trivial, ⟨trivial, ⟨trivial, ⟨trivial, ⟨bv_Fo_74, ⟨trivial, ⟨trivial, ⟨trivial, ⟨trivial, ⟨trivial, ⟨trivial, ⟨trivial, ⟨trivial, trivial⟩⟩⟩⟩⟩⟩⟩⟩⟩⟩⟩⟩⟩⟩⟩⟩⟩⟩⟩⟩⟩⟩
def ct_Fo_fewestToTune : List bt_E := [e0 (.aload_n 0) 1, em (.invokevirtual 78) 1 1 mi_Fo_all, e0 (.istore_n 1) 1, e1 (.iconst 0) 1 0, e0 (.istore_n 2) 1, e0 (.iload_n 2) 1, e0 (.aload_n 0) 1, em (.invokevirtual 78) 1 1 mi_Fo_all, eb (.if_icmp .gt 30) 42, e0 (.iload_n 2) 1, em (.invokestatic 82) 1 100 mi_JI_bitCount, e0 (.iload_n 1) 1, em (.invokestatic 82) 1 100 mi_JI_bitCount, eb (.if_icmp .ge 13) 36, e0 (.aload_n 0) 1, e0 (.iload_n 2) 1, em (.invokevirtual 87) 2 1 mi_Fo_isUnlikeWithout, eb (.ifCond .eq 5) 36, e0 (.iload_n 2) 1, e0 (.istore_n 1) 1, e1 (.iinc 2 1) 3 1, eb (.goto (-32)) 7, e0 (.iload_n 1) 1, e0 .ireturn 1]
theorem dt_Fo_fewestToTune : bt_dec mi_Fo_fewestToTune.2.1 mi_Fo_fewestToTune.2.2.1 0 ct_Fo_fewestToTune = true := by decide +kernel
theorem kt_Fo_fewestToTune : bt_T mi_Fo_fewestToTune ct_Fo_fewestToTune := ⟨dt_Fo_fewestToTune, ⟨trivial, ⟨bv_Fo_78, ⟨trivial, ⟨trivial, ⟨trivial, ⟨trivial, ⟨trivial, ⟨bv_Fo_78, ⟨trivial, ⟨trivial, ⟨⟨fun _ => bs_Fo_82, (fun h => by cases h)⟩, ⟨trivial, ⟨⟨fun _ => bs_Fo_82, (fun h => by cases h)⟩, ⟨trivial, ⟨trivial, ⟨trivial, ⟨bv_Fo_87, ⟨trivial, ⟨trivial, ⟨trivial, ⟨trivial, ⟨trivial, ⟨trivial, ⟨trivial, trivial⟩⟩⟩⟩⟩⟩⟩⟩⟩⟩⟩⟩⟩⟩⟩⟩⟩⟩⟩⟩⟩⟩⟩⟩⟩
def ct_Fo_isUnlikeWithout : List bt_E := [e1 (.iconst 0) 1 0, e0 (.istore_n 2) 1, e0 (.iload_n 2) 1, e0 (.aload_n 0) 1, ef (.getfield 35) 1 4, eb (.if_icmp .ge 80) 87, e1 (.iconst 0) 1 0, e0 (.istore_n 3) 1, e0 (.iload_n 3) 1, e0 (.iload_n 2) 1, eb (.if_icmp .ge 67) 81, e0 (.iload_n 1) 1, e0 (.iload_n 2) 1, e0 .ishr 1, e1 (.iconst 1) 1 1, e0 .iand 1, eb (.ifCond .ne 15) 37, e0 (.iload_n 1) 1, e0 (.iload_n 3) 1, e0 .ishr 1, e1 (.iconst 1) 1 1, e0 .iand 1, eb (.ifCond .ne 7) 37, e1 (.iconst 1) 1 1, eb (.goto 4) 38, e1 (.iconst 0) 1 0, e0 (.istore 4) 2, e0 (.iload 4) 2, eb (.ifCond .eq 33) 75, e0 (.aload_n 0) 1, ef (.getfield 20) 1 1, e0 (.iload_n 2) 1, e0 .iaload 1, e0 (.iload_n 3) 1, e0 .ishr 1, e1 (.iconst 1) 1 1, e0 .iand 1, eb (.ifCond .eq 20) 75, e0 (.aload_n 0) 1, e1 (.iconst 0) 1 0, e0 (.iload_n 2) 1, em (.invokevirtual 74) 3 1 mi_Fo_get, e0 (.aload_n 0) 1, e1 (.iconst 0) 1 0, e0 (.iload_n 3) 1, em (.invokevirtual 74) 3 1 mi_Fo_get, eb (.if_icmp .ne 5) 75, e1 (.iconst 0) 1 0, e0 .ireturn 1, e1 (.iinc 3 1) 3 1, eb (.goto (-66)) 12, e1 (.iinc 2 1) 3 1, eb (.goto (-82)) 2, e1 (.iconst 1) 1 1, e0 .ireturn 1]
theorem dt_Fo_isUnlikeWithout : bt_dec mi_Fo_isUnlikeWithout.2.1 mi_Fo_isUnlikeWithout.2.2.1 0 ct_Fo_isUnlikeWithout = true := by decide +kernel
theorem kt_Fo_isUnlikeWithout : bt_T mi_Fo_isUnlikeWithout ct_Fo_isUnlikeWithout := ⟨dt_Fo_isUnlikeWithout, ⟨trivial, ⟨trivial, ⟨trivial, ⟨trivial, ⟨lg_Fo_35, ⟨trivial, ⟨trivial, ⟨trivial, ⟨trivial, ⟨trivial, ⟨trivial, ⟨trivial, ⟨trivial, ⟨trivial, ⟨trivial, ⟨trivial, ⟨trivial, ⟨trivial, ⟨trivial, ⟨trivial, ⟨trivial, ⟨trivial, ⟨trivial, ⟨trivial, ⟨trivial, ⟨trivial, ⟨trivial, ⟨trivial, ⟨trivial, ⟨trivial, ⟨lg_Fo_20, ⟨trivial, ⟨trivial, ⟨trivial, ⟨trivial, ⟨trivial, ⟨trivial, ⟨trivial, ⟨trivial, ⟨trivial, ⟨trivial, ⟨bv_Fo_74, ⟨trivial, ⟨trivial, ⟨trivial, ⟨bv_Fo_74, ⟨trivial, ⟨trivial, ⟨trivial, ⟨trivial, ⟨trivial, ⟨trivial, ⟨trivial, ⟨trivial, ⟨trivial, trivial⟩⟩⟩⟩⟩⟩⟩⟩⟩⟩⟩⟩⟩⟩⟩⟩⟩⟩⟩⟩⟩⟩⟩⟩⟩⟩⟩⟩⟩⟩⟩⟩⟩⟩⟩⟩⟩⟩⟩⟩⟩⟩⟩⟩⟩⟩⟩⟩⟩⟩⟩⟩⟩⟩⟩⟩
def ct_Fo_treeDrawn : List bt_E := [e0 (.aload_n 0) 1, ef (.getfield 35) 1 4, eb (.ifCond .le 12) 16, e0 (.iload_n 1) 1, e0 (.aload_n 0) 1, ef (.getfield 35) 1 4, e0 .irem 1, eb (.goto 4) 17, e1 (.iconst 0) 1 0, e0 .ireturn 1]
theorem dt_Fo_treeDrawn : bt_dec mi_Fo_treeDrawn.2.1 mi_Fo_treeDrawn.2.2.1 0 ct_Fo_treeDrawn = true := by decide +kernel
theorem kt_Fo_treeDrawn : bt_T mi_Fo_treeDrawn ct_Fo_treeDrawn := ⟨dt_Fo_treeDrawn, ⟨trivial, ⟨lg_Fo_35, ⟨trivial, ⟨trivial, ⟨trivial, ⟨lg_Fo_35, ⟨trivial, ⟨trivial, ⟨trivial, ⟨trivial, trivial⟩⟩⟩⟩⟩⟩⟩⟩⟩⟩⟩
def ct_Fo_stepDrawn : List bt_E := [e0 (.aload_n 0) 1, e0 (.iload_n 1) 1, em (.invokevirtual 57) 2 1 mi_Fo_has, eb (.ifCond .ne 5) 10, e0 (.iload_n 1) 1, e0 .ireturn 1, e0 (.iload_n 2) 1, e0 (.aload_n 0) 1, ef (.getfield 20) 1 1, e0 (.iload_n 1) 1, e0 .iaload 1, em (.invokestatic 82) 1 100 mi_JI_bitCount, e1 (.iconst 1) 1 1, e0 .iadd 1, e0 .irem 1, e0 (.istore_n 3) 1, e1 (.iconst 0) 1 0, e0 (.istore 4) 2, e0 (.iload 4) 2, e0 (.aload_n 0) 1, ef (.getfield 35) 1 4, eb (.if_icmp .ge 33) 66, e0 (.aload_n 0) 1, ef (.getfield 20) 1 1, e0 (.iload_n 1) 1, e0 .iaload 1, e0 (.iload 4) 2, e0 .ishr 1, e1 (.iconst 1) 1 1, e0 .iand 1, eb (.ifCond .eq 13) 60, e1 (.iinc 3 (-1)) 3 (-1), e0 (.iload_n 3) 1, eb (.ifCond .ne 6) 60, e0 (.iload 4) 2, e0 .ireturn 1, e1 (.iinc 4 1) 3 1, eb (.goto (-36)) 27, e0 (.iload_n 1) 1, e0 .ireturn 1]
theorem dt_Fo_stepDrawn : bt_dec mi_Fo_stepDrawn.2.1 mi_Fo_stepDrawn.2.2.1 0 ct_Fo_stepDrawn = true := by decide +kernel
theorem kt_Fo_stepDrawn : bt_T mi_Fo_stepDrawn ct_Fo_stepDrawn := ⟨dt_Fo_stepDrawn, ⟨trivial, ⟨trivial, ⟨bv_Fo_57, ⟨trivial, ⟨trivial, ⟨trivial, ⟨trivial, ⟨trivial, ⟨lg_Fo_20, ⟨trivial, ⟨trivial, ⟨⟨fun _ => bs_Fo_82, (fun h => by cases h)⟩, ⟨trivial, ⟨trivial, ⟨trivial, ⟨trivial, ⟨trivial, ⟨trivial, ⟨trivial, ⟨trivial, ⟨lg_Fo_35, ⟨trivial, ⟨trivial, ⟨lg_Fo_20, ⟨trivial, ⟨trivial, ⟨trivial, ⟨trivial, ⟨trivial, ⟨trivial, ⟨trivial, ⟨trivial, ⟨trivial, ⟨trivial, ⟨trivial, ⟨trivial, ⟨trivial, ⟨trivial, ⟨trivial, ⟨trivial, trivial⟩⟩⟩⟩⟩⟩⟩⟩⟩⟩⟩⟩⟩⟩⟩⟩⟩⟩⟩⟩⟩⟩⟩⟩⟩⟩⟩⟩⟩⟩⟩⟩⟩⟩⟩⟩⟩⟩⟩⟩⟩
def ct_Fo_grow : List bt_E := [e0 (.iload_n 1) 1, e0 (.istore_n 3) 1, e1 (.iconst 0) 1 0, e0 (.istore 4) 2, e0 (.iload 4) 2, e0 (.iload_n 2) 1, eb (.if_icmp .ge 100) 108, e1 (.iconst 0) 1 0, e0 (.istore 5) 2, e0 (.iload 5) 2, e0 (.aload_n 0) 1, ef (.getfield 35) 1 4, eb (.if_icmp .ge 82) 102, e0 (.iload_n 3) 1, em (.invokestatic 90) 1 100 mi_B_nextDraw, e0 (.istore_n 3) 1, e0 (.iload_n 3) 1, e1 (.bipush 8) 2 8, e0 .iushr 1, e1 (.bipush 12) 2 12, e0 .irem 1, e0 (.istore 6) 2, e0 (.iload 6) 2, eb (.ifCond .ne 26) 65, e0 (.aload_n 0) 1, e1 (.iconst 0) 1 0, e0 (.iload 5) 2, e1 (.iconst 0) 1 0, e0 (.aload_n 0) 1, e1 (.iconst 0) 1 0, e0 (.iload 5) 2, em (.invokevirtual 74) 3 1 mi_Fo_get, e1 (.iconst 1) 1 1, e0 .isub 1, em (.invokestatic 93) 2 100 mi_JM_max, em (.invokevirtual 53) 4 1 mi_Fo_set, eb (.goto 34) 96, e0 (.iload 6) 2, e1 (.bipush 11) 2 11, eb (.if_icmp .ne 27) 96, e0 (.aload_n 0) 1, e1 (.iconst 2) 1 2, e0 (.iload 5) 2, ef (.getstatic 9) 0 0, e1 (.iconst 2) 1 2, e0 .iaload 1, e0 (.aload_n 0) 1, e1 (.iconst 2) 1 2, e0 (.iload 5) 2, em (.invokevirtual 74) 3 1 mi_Fo_get, e1 (.iconst 1) 1 1, e0 .iadd 1, em (.invokestatic 98) 2 100 mi_JM_min, em (.invokevirtual 53) 4 1 mi_Fo_set, e1 (.iinc 5 1) 3 1, eb (.goto (-85)) 14, e1 (.iinc 4 1) 3 1, eb (.goto (-100)) 5, e1 (.iconst 0) 1 0, e0 (.istore 4) 2, e1 (.iconst 0) 1 0, e0 (.istore 5) 2, e0 (.iload 5) 2, e0 (.aload_n 0) 1, ef (.getfield 35) 1 4, eb (.if_icmp .ge 21) 141, e0 (.iload 4) 2, e0 (.aload_n 0) 1, e1 (.iconst 0) 1 0, e0 (.iload 5) 2, em (.invokevirtual 74) 3 1 mi_Fo_get, e0 .iadd 1, e0 (.istore 4) 2, e1 (.iinc 5 1) 3 1, eb (.goto (-24)) 114, e0 (.iload 4) 2, e0 .ireturn 1]
theorem dt_Fo_grow : bt_dec mi_Fo_grow.2.1 mi_Fo_grow.2.2.1 0 ct_Fo_grow = true := by decide +kernel
theorem kt_Fo_grow : bt_T mi_Fo_grow ct_Fo_grow := ⟨dt_Fo_grow, ⟨trivial, ⟨trivial, ⟨trivial, ⟨trivial, ⟨trivial, ⟨trivial, ⟨trivial, ⟨trivial, ⟨trivial, ⟨trivial, ⟨trivial, ⟨lg_Fo_35, ⟨trivial, ⟨trivial, ⟨⟨fun _ => bs_Fo_90, (fun h => by cases h)⟩, ⟨trivial, ⟨trivial, ⟨trivial, ⟨trivial, ⟨trivial, ⟨trivial, ⟨trivial, ⟨trivial, ⟨trivial, ⟨trivial, ⟨trivial, ⟨trivial, ⟨trivial, ⟨trivial, ⟨trivial, ⟨trivial, ⟨bv_Fo_74, ⟨trivial, ⟨trivial, ⟨⟨fun _ => bs_Fo_93, (fun h => by cases h)⟩, ⟨bv_Fo_53, ⟨trivial, ⟨trivial, ⟨trivial, ⟨trivial, ⟨trivial, ⟨trivial, ⟨trivial, ⟨ls_Fo_9, ⟨trivial, ⟨trivial, ⟨trivial, ⟨trivial, ⟨trivial, ⟨bv_Fo_74, ⟨trivial, ⟨trivial, ⟨⟨fun _ => bs_Fo_98, (fun h => by cases h)⟩, ⟨bv_Fo_53, ⟨trivial, ⟨trivial, ⟨trivial, ⟨trivial, ⟨trivial, ⟨trivial, ⟨trivial, ⟨trivial, ⟨trivial, ⟨trivial, ⟨lg_Fo_35, ⟨trivial, ⟨trivial, ⟨trivial, ⟨trivial, ⟨trivial, ⟨bv_Fo_74, ⟨trivial, ⟨trivial, ⟨trivial, ⟨trivial, ⟨trivial, ⟨trivial, trivial⟩⟩⟩⟩⟩⟩⟩⟩⟩⟩⟩⟩⟩⟩⟩⟩⟩⟩⟩⟩⟩⟩⟩⟩⟩⟩⟩⟩⟩⟩⟩⟩⟩⟩⟩⟩⟩⟩⟩⟩⟩⟩⟩⟩⟩⟩⟩⟩⟩⟩⟩⟩⟩⟩⟩⟩⟩⟩⟩⟩⟩⟩⟩⟩⟩⟩⟩⟩⟩⟩⟩⟩⟩⟩⟩⟩⟩⟩
def ct_La_bytes : List bt_E := [e0 (.aload_n 0) 1, ef (.getfield 24) 2 4, e0 .ireturn 1]
theorem dt_La_bytes : bt_dec mi_La_bytes.2.1 mi_La_bytes.2.2.1 0 ct_La_bytes = true := by decide +kernel
theorem kt_La_bytes : bt_T mi_La_bytes ct_La_bytes := ⟨dt_La_bytes, ⟨trivial, ⟨lg_La_24, ⟨trivial, trivial⟩⟩⟩⟩
def ct_La_take : List bt_E := [e0 (.aload_n 0) 1, ef (.getfield 24) 2 4, e1 (.bipush 120) 2 120, eb (.if_icmp .lt 6) 12, e1 (.bipush (-3)) 2 (-3), e0 .ireturn 1, e0 (.aload_n 0) 1, ef (.getfield 11) 2 0, e0 (.aload_n 0) 1, ef (.getfield 24) 2 4, e0 (.iload_n 1) 1, e0 .iastore 1, e0 (.aload_n 0) 1, e0 .dup 1, ef (.getfield 24) 2 4, e1 (.iconst 1) 1 1, e0 .iadd 1, ef (.putfield 24) 2 4, e0 (.aload_n 0) 1, ef (.getfield 24) 2 4, e0 .ireturn 1]
theorem dt_La_take : bt_dec mi_La_take.2.1 mi_La_take.2.2.1 0 ct_La_take = true := by decide +kernel
theorem kt_La_take : bt_T mi_La_take ct_La_take := ⟨dt_La_take, ⟨trivial, ⟨lg_La_24, ⟨trivial, ⟨trivial, ⟨trivial, ⟨trivial, ⟨trivial, ⟨lg_La_11, ⟨trivial, ⟨lg_La_24, ⟨trivial, ⟨trivial, ⟨trivial, ⟨trivial, ⟨lg_La_24, ⟨trivial, ⟨trivial, ⟨lp_La_24, ⟨trivial, ⟨lg_La_24, ⟨trivial, trivial⟩⟩⟩⟩⟩⟩⟩⟩⟩⟩⟩⟩⟩⟩⟩⟩⟩⟩⟩⟩⟩⟩
def ct_La_read : List bt_E := [e0 (.aload_n 0) 1, e1 (.iconst 0) 1 0, ef (.putfield 28) 2 5, e0 (.aload_n 0) 1, e1 (.iconst 0) 1 0, ef (.putfield 31) 2 6, e0 (.aload_n 0) 1, em (.invokevirtual 34) 1 2 mi_La_readLines, e0 (.istore_n 1) 1, e0 (.aload_n 0) 1, e1 (.iconst 0) 1 0, ef (.putfield 24) 2 4, e0 (.iload_n 1) 1, eb (.ifCond .ne 11) 32, e1 (.bipush (-100)) 2 (-100), e0 (.aload_n 0) 1, ef (.getfield 28) 2 5, e0 .isub 1, e0 .ireturn 1, e0 (.aload_n 0) 1, ef (.getfield 15) 2 1, e1 (.iconst 0) 1 0, e0 (.aload_n 0) 1, ef (.getfield 18) 2 2, e1 (.iconst 0) 1 0, e0 (.aload_n 0) 1, ef (.getfield 31) 2 6, em (.invokestatic 38) 5 101 bt_m0, e0 (.aload_n 0) 1, e0 (.aload_n 0) 1, ef (.getfield 31) 2 6, ef (.putfield 44) 2 7, e1 (.iconst 1) 1 1, e0 .ireturn 1]
theorem dt_La_read : bt_dec mi_La_read.2.1 mi_La_read.2.2.1 0 ct_La_read = true := by decide +kernel
theorem kt_La_read : bt_T mi_La_read ct_La_read := ⟨dt_La_read, ⟨trivial, ⟨trivial, ⟨lp_La_28, ⟨trivial, ⟨trivial, ⟨lp_La_31, ⟨trivial, ⟨bv_La_34, ⟨trivial, ⟨trivial, ⟨trivial, ⟨lp_La_24, ⟨trivial, ⟨trivial, ⟨trivial, ⟨trivial, ⟨lg_La_28, ⟨trivial, ⟨trivial, ⟨trivial, ⟨lg_La_15, ⟨trivial, ⟨trivial, ⟨lg_La_18, ⟨trivial, ⟨trivial, ⟨lg_La_31, ⟨⟨(fun h => by cases h), fun _ => lc_La_38⟩, ⟨trivial, ⟨trivial, ⟨lg_La_31, ⟨lp_La_44, ⟨trivial, ⟨trivial, trivial⟩⟩⟩⟩⟩⟩⟩⟩⟩⟩⟩⟩⟩⟩⟩⟩⟩⟩⟩⟩⟩⟩⟩⟩⟩⟩⟩⟩⟩⟩⟩⟩⟩⟩⟩
def ct_La_next : List bt_E := [e0 (.aload_n 0) 1, ef (.getfield 28) 2 5, e0 (.aload_n 0) 1, ef (.getfield 24) 2 4, eb (.if_icmp .ge 27) 35, e0 (.aload_n 0) 1, ef (.getfield 28) 2 5, e0 (.aload_n 0) 1, ef (.getfield 11) 2 0, e0 .arraylength 1, eb (.if_icmp .ge 15) 35, e0 (.aload_n 0) 1, ef (.getfield 11) 2 0, e0 (.aload_n 0) 1, ef (.getfield 28) 2 5, e0 .iaload 1, eb (.goto 4) 36, e1 (.iconst (-1)) 1 (-1), e0 .ireturn 1]
theorem dt_La_next : bt_dec mi_La_next.2.1 mi_La_next.2.2.1 0 ct_La_next = true := by decide +kernel
theorem kt_La_next : bt_T mi_La_next ct_La_next := ⟨dt_La_next, ⟨trivial, ⟨lg_La_28, ⟨trivial, ⟨lg_La_24, ⟨trivial, ⟨trivial, ⟨lg_La_28, ⟨trivial, ⟨lg_La_11, ⟨trivial, ⟨trivial, ⟨trivial, ⟨lg_La_11, ⟨trivial, ⟨lg_La_28, ⟨trivial, ⟨trivial, ⟨trivial, ⟨trivial, trivial⟩⟩⟩⟩⟩⟩⟩⟩⟩⟩⟩⟩⟩⟩⟩⟩⟩⟩⟩⟩
def ct_La_note : List bt_E := [e0 (.aload_n 0) 1, ef (.getfield 31) 2 6, e0 (.aload_n 0) 1, ef (.getfield 15) 2 1, e0 .arraylength 1, eb (.if_icmp .ge 23) 32, e0 (.aload_n 0) 1, ef (.getfield 15) 2 1, e0 (.aload_n 0) 1, ef (.getfield 31) 2 6, e0 (.iload_n 1) 1, e0 .iastore 1, e0 (.aload_n 0) 1, e0 .dup 1, ef (.getfield 31) 2 6, e1 (.iconst 1) 1 1, e0 .iadd 1, ef (.putfield 31) 2 6, e0 .return_ 1]
theorem dt_La_note : bt_dec mi_La_note.2.1 mi_La_note.2.2.1 0 ct_La_note = true := by decide +kernel
theorem kt_La_note : bt_T mi_La_note ct_La_note := ⟨dt_La_note, ⟨trivial, ⟨lg_La_31, ⟨trivial, ⟨lg_La_15, ⟨trivial, ⟨trivial, ⟨trivial, ⟨lg_La_15, ⟨trivial, ⟨lg_La_31, ⟨trivial, ⟨trivial, ⟨trivial, ⟨trivial, ⟨lg_La_31, ⟨trivial, ⟨trivial, ⟨lp_La_31, ⟨trivial, trivial⟩⟩⟩⟩⟩⟩⟩⟩⟩⟩⟩⟩⟩⟩⟩⟩⟩⟩⟩⟩
def ct_La_readLines : List bt_E := [e1 (.iconst 0) 1 0, e0 (.istore_n 1) 1, e0 (.iload_n 1) 1, e1 (.bipush 120) 2 120, eb (.if_icmp .gt 57) 62, e0 (.aload_n 0) 1, em (.invokevirtual 47) 1 2 mi_La_readLine, eb (.ifCond .ne 5) 17, e1 (.iconst 0) 1 0, e0 .ireturn 1, e0 (.aload_n 0) 1, e1 (.bipush (-59)) 2 (-59), em (.invokevirtual 50) 2 2 mi_La_note, e0 (.aload_n 0) 1, em (.invokevirtual 54) 1 2 mi_La_next, e1 (.bipush 59) 2 59, eb (.if_icmp .eq 17) 46, e0 (.aload_n 0) 1, em (.invokevirtual 54) 1 2 mi_La_next, e1 (.iconst (-1)) 1 (-1), eb (.if_icmp .ne 7) 44, e1 (.iconst 1) 1 1, eb (.goto 4) 45, e1 (.iconst 0) 1 0, e0 .ireturn 1, e0 (.aload_n 0) 1, e0 .dup 1, ef (.getfield 28) 2 5, e1 (.iconst 1) 1 1, e0 .iadd 1, ef (.putfield 28) 2 5, e1 (.iinc 1 1) 3 1, eb (.goto (-57)) 2, e1 (.iconst 0) 1 0, e0 .ireturn 1]
theorem dt_La_readLines : bt_dec mi_La_readLines.2.1 mi_La_readLines.2.2.1 0 ct_La_readLines = true := by decide +kernel
theorem kt_La_readLines : bt_T mi_La_readLines ct_La_readLines := ⟨dt_La_readLines, ⟨trivial, ⟨trivial, ⟨trivial, ⟨trivial, ⟨trivial, ⟨trivial, ⟨bv_La_47, ⟨trivial, ⟨trivial, ⟨trivial, ⟨trivial, ⟨trivial, ⟨bv_La_50, ⟨trivial, ⟨bv_La_54, ⟨trivial, ⟨trivial, ⟨trivial, ⟨bv_La_54, ⟨trivial, ⟨trivial, ⟨trivial, ⟨trivial, ⟨trivial, ⟨trivial, ⟨trivial, ⟨trivial, ⟨lg_La_28, ⟨trivial, ⟨trivial, ⟨lp_La_28, ⟨trivial, ⟨trivial, ⟨trivial, ⟨trivial, trivial⟩⟩⟩⟩⟩⟩⟩⟩⟩⟩⟩⟩⟩⟩⟩⟩⟩⟩⟩⟩⟩⟩⟩⟩⟩⟩⟩⟩⟩⟩⟩⟩⟩⟩⟩⟩
def ct_La_readLine : List bt_E := [e0 (.aload_n 0) 1, e1 (.iconst 0) 1 0, e1 (.iconst 0) 1 0, em (.invokevirtual 58) 3 2 mi_La_readLevel, eb (.ifCond .ne 5) 11, e1 (.iconst 0) 1 0, e0 .ireturn 1, e0 (.aload_n 0) 1, em (.invokevirtual 54) 1 2 mi_La_next, e1 (.bipush 63) 2 63, eb (.if_icmp .eq 5) 22, e1 (.iconst 1) 1 1, e0 .ireturn 1, e0 (.aload_n 0) 1, e0 .dup 1, ef (.getfield 28) 2 5, e1 (.iconst 1) 1 1, e0 .iadd 1, ef (.putfield 28) 2 5, e0 (.aload_n 0) 1, e1 (.bipush (-63)) 2 (-63), em (.invokevirtual 50) 2 2 mi_La_note, e0 (.aload_n 0) 1, e1 (.iconst 0) 1 0, e1 (.iconst 0) 1 0, em (.invokevirtual 58) 3 2 mi_La_readLevel, e0 .ireturn 1]
theorem dt_La_readLine : bt_dec mi_La_readLine.2.1 mi_La_readLine.2.2.1 0 ct_La_readLine = true := by decide +kernel
theorem kt_La_readLine : bt_T mi_La_readLine ct_La_readLine := ⟨dt_La_readLine, ⟨trivial, ⟨trivial, ⟨trivial, ⟨bv_La_58, ⟨trivial, ⟨trivial, ⟨trivial, ⟨trivial, ⟨bv_La_54, ⟨trivial, ⟨trivial, ⟨trivial, ⟨trivial, ⟨trivial, ⟨trivial, ⟨lg_La_28, ⟨trivial, ⟨trivial, ⟨lp_La_28, ⟨trivial, ⟨trivial, ⟨bv_La_50, ⟨trivial, ⟨trivial, ⟨trivial, ⟨bv_La_58, ⟨trivial, trivial⟩⟩⟩⟩⟩⟩⟩⟩⟩⟩⟩⟩⟩⟩⟩⟩⟩⟩⟩⟩⟩⟩⟩⟩⟩⟩⟩⟩
def ct_La_levelOf : List bt_E := [e0 (.iload_n 0) 1, ew (.lookupswitch 101 #[(37, 99), (38, 93), (42, 99), (43, 97), (45, 97), (47, 99), (60, 95), (61, 95), (62, 95), (124, 91)]) 91 102 [(37, 100), (38, 94), (42, 100), (43, 98), (45, 98), (47, 100), (60, 96), (61, 96), (62, 96), (124, 92)], e1 (.iconst 0) 1 0, e0 .ireturn 1, e1 (.iconst 1) 1 1, e0 .ireturn 1, e1 (.iconst 2) 1 2, e0 .ireturn 1, e1 (.iconst 3) 1 3, e0 .ireturn 1, e1 (.iconst 4) 1 4, e0 .ireturn 1, e1 (.iconst (-1)) 1 (-1), e0 .ireturn 1]
theorem dt_La_levelOf : bt_dec mi_La_levelOf.2.1 mi_La_levelOf.2.2.1 0 ct_La_levelOf = true := by decide +kernel
theorem kt_La_levelOf : bt_T mi_La_levelOf ct_La_levelOf := ⟨dt_La_levelOf, ⟨trivial, ⟨trivial, ⟨trivial, ⟨trivial, ⟨trivial, ⟨trivial, ⟨trivial, ⟨trivial, ⟨trivial, ⟨trivial, ⟨trivial, ⟨trivial, ⟨trivial, ⟨trivial, trivial⟩⟩⟩⟩⟩⟩⟩⟩⟩⟩⟩⟩⟩⟩⟩
def ct_La_readLevel : List bt_E := [e0 (.iload_n 1) 1, e1 (.iconst 5) 1 5, eb (.if_icmp .lt 9) 11, e0 (.aload_n 0) 1, e0 (.iload_n 2) 1, em (.invokevirtual 62) 2 2 mi_La_readOperand, e0 .ireturn 1, e0 (.aload_n 0) 1, e0 (.iload_n 1) 1, e1 (.iconst 1) 1 1, e0 .iadd 1, e0 (.iload_n 2) 1, em (.invokevirtual 58) 3 2 mi_La_readLevel, eb (.ifCond .ne 5) 24, e1 (.iconst 0) 1 0, e0 .ireturn 1, e0 (.iload_n 1) 1, e1 (.iconst 2) 1 2, eb (.if_icmp .ne 7) 33, e1 (.iconst 1) 1 1, eb (.goto 5) 35, e1 (.bipush 120) 2 120, e0 (.istore_n 3) 1, e1 (.iconst 0) 1 0, e0 (.istore 4) 2, e0 (.iload 4) 2, e0 (.iload_n 3) 1, eb (.if_icmp .ge 56) 98, e0 (.aload_n 0) 1, em (.invokevirtual 54) 1 2 mi_La_next, em (.invokestatic 66) 1 100 mi_La_levelOf, e0 (.iload_n 1) 1, eb (.if_icmp .ne 45) 98, e0 (.aload_n 0) 1, em (.invokevirtual 54) 1 2 mi_La_next, e0 (.istore 5) 2, e0 (.aload_n 0) 1, e0 .dup 1, ef (.getfield 28) 2 5, e1 (.iconst 1) 1 1, e0 .iadd 1, ef (.putfield 28) 2 5, e0 (.aload_n 0) 1, e0 (.iload_n 1) 1, e1 (.iconst 1) 1 1, e0 .iadd 1, e0 (.iload_n 2) 1, em (.invokevirtual 58) 3 2 mi_La_readLevel, eb (.ifCond .ne 5) 85, e1 (.iconst 0) 1 0, e0 .ireturn 1, e0 (.aload_n 0) 1, e0 (.iload 5) 2, e0 .ineg 1, em (.invokevirtual 50) 2 2 mi_La_note, e1 (.iinc 4 1) 3 1, eb (.goto (-56)) 39, e1 (.iconst 1) 1 1, e0 .ireturn 1]
theorem dt_La_readLevel : bt_dec mi_La_readLevel.2.1 mi_La_readLevel.2.2.1 0 ct_La_readLevel = true := by decide +kernel
theorem kt_La_readLevel : bt_T mi_La_readLevel ct_La_readLevel := ⟨dt_La_readLevel, ⟨trivial, ⟨trivial, ⟨trivial, ⟨trivial, ⟨trivial, ⟨bv_La_62, ⟨trivial, ⟨trivial, ⟨trivial, ⟨trivial, ⟨trivial, ⟨trivial, ⟨bv_La_58, ⟨trivial, ⟨trivial, ⟨trivial, ⟨trivial, ⟨trivial, ⟨trivial, ⟨trivial, ⟨trivial, ⟨trivial, ⟨trivial, ⟨trivial, ⟨trivial, ⟨trivial, ⟨trivial, ⟨trivial, ⟨trivial, ⟨bv_La_54, ⟨⟨fun _ => bs_La_66, (fun h => by cases h)⟩, ⟨trivial, ⟨trivial, ⟨trivial, ⟨bv_La_54, ⟨trivial, ⟨trivial, ⟨trivial, ⟨lg_La_28, ⟨trivial, ⟨trivial, ⟨lp_La_28, ⟨trivial, ⟨trivial, ⟨trivial, ⟨trivial, ⟨trivial, ⟨bv_La_58, ⟨trivial, ⟨trivial, ⟨trivial, ⟨trivial, ⟨trivial, ⟨trivial, ⟨bv_La_50, ⟨trivial, ⟨trivial, ⟨trivial, ⟨trivial, trivial⟩⟩⟩⟩⟩⟩⟩⟩⟩⟩⟩⟩⟩⟩⟩⟩⟩⟩⟩⟩⟩⟩⟩⟩⟩⟩⟩⟩⟩⟩⟩⟩⟩⟩⟩⟩⟩⟩⟩⟩⟩⟩⟩⟩⟩⟩⟩⟩⟩⟩⟩⟩⟩⟩⟩⟩⟩⟩⟩⟩
def ct_La_readOperand : List bt_E := [e0 (.aload_n 0) 1, em (.invokevirtual 54) 1 2 mi_La_next, e0 (.istore_n 2) 1, e0 (.iload_n 2) 1, e1 (.bipush 48) 2 48, eb (.if_icmp .lt 15) 23, e0 (.iload_n 2) 1, e1 (.bipush 57) 2 57, eb (.if_icmp .gt 9) 23, e0 (.aload_n 0) 1, em (.invokevirtual 70) 1 2 mi_La_readNumber, e1 (.iconst 1) 1 1, e0 .ireturn 1, e0 (.iload_n 2) 1, em (.invokestatic 73) 1 100 mi_La_isName, eb (.ifCond .eq 21) 48, e0 (.aload_n 0) 1, e0 .dup 1, ef (.getfield 28) 2 5, e1 (.iconst 1) 1 1, e0 .iadd 1, ef (.putfield 28) 2 5, e0 (.aload_n 0) 1, e0 (.iload_n 2) 1, e0 .ineg 1, em (.invokevirtual 50) 2 2 mi_La_note, e1 (.iconst 1) 1 1, e0 .ireturn 1, e0 (.iload_n 2) 1, e1 (.bipush 40) 2 40, eb (.if_icmp .eq 15) 66, e0 (.iload_n 2) 1, e1 (.bipush 33) 2 33, eb (.if_icmp .eq 9) 66, e0 (.iload_n 2) 1, e1 (.bipush 45) 2 45, eb (.if_icmp .ne 9) 72, e0 (.iload_n 1) 1, e1 (.bipush 6) 2 6, eb (.if_icmp .lt 5) 74, e1 (.iconst 0) 1 0, e0 .ireturn 1, e0 (.aload_n 0) 1, e0 .dup 1, ef (.getfield 28) 2 5, e1 (.iconst 1) 1 1, e0 .iadd 1, ef (.putfield 28) 2 5, e0 (.iload_n 2) 1, e1 (.bipush 40) 2 40, eb (.if_icmp .ne 27) 114, e0 (.aload_n 0) 1, e1 (.iconst 0) 1 0, e0 (.iload_n 1) 1, e1 (.iconst 1) 1 1, e0 .iadd 1, em (.invokevirtual 58) 3 2 mi_La_readLevel, eb (.ifCond .eq 14) 112, e0 (.aload_n 0) 1, em (.invokevirtual 76) 1 2 mi_La_readClosing, eb (.ifCond .eq 7) 112, e1 (.iconst 1) 1 1, eb (.goto 4) 113, e1 (.iconst 0) 1 0, e0 .ireturn 1, e0 (.aload_n 0) 1, e0 (.iload_n 1) 1, e1 (.iconst 1) 1 1, e0 .iadd 1, em (.invokevirtual 62) 2 2 mi_La_readOperand, eb (.ifCond .ne 5) 126, e1 (.iconst 0) 1 0, e0 .ireturn 1, e0 (.aload_n 0) 1, e0 (.iload_n 2) 1, e1 (.bipush 45) 2 45, eb (.if_icmp .ne 8) 138, e1 (.bipush (-126)) 2 (-126), eb (.goto 5) 140, e0 (.iload_n 2) 1, e0 .ineg 1, em (.invokevirtual 50) 2 2 mi_La_note, e1 (.iconst 1) 1 1, e0 .ireturn 1]
theorem dt_La_readOperand : bt_dec mi_La_readOperand.2.1 mi_La_readOperand.2.2.1 0 ct_La_readOperand = true := by decide +kernel
theorem kt_La_readOperand : bt_T mi_La_readOperand ct_La_readOperand := ⟨dt_La_readOperand, ⟨trivial, ⟨bv_La_54, ⟨trivial, ⟨trivial, ⟨trivial, ⟨trivial, ⟨trivial, ⟨trivial, ⟨trivial, ⟨trivial, ⟨bv_La_70, ⟨trivial, ⟨trivial, ⟨trivial, ⟨⟨fun _ => bs_La_73, (fun h => by cases h)⟩, ⟨trivial, ⟨trivial, ⟨trivial, ⟨lg_La_28, ⟨trivial, ⟨trivial, ⟨lp_La_28, ⟨trivial, ⟨trivial, ⟨trivial, ⟨bv_La_50, ⟨trivial, ⟨trivial, ⟨trivial, ⟨trivial, ⟨trivial, ⟨trivial, ⟨trivial, ⟨trivial, ⟨trivial, ⟨trivial, ⟨trivial, ⟨trivial, ⟨trivial, ⟨trivial, ⟨trivial, ⟨trivial, ⟨trivial, ⟨trivial, ⟨lg_La_28, ⟨trivial, ⟨trivial, ⟨lp_La_28, ⟨trivial, ⟨trivial, ⟨trivial, ⟨trivial, ⟨trivial, ⟨trivial, ⟨trivial, ⟨trivial, ⟨bv_La_58, ⟨trivial, ⟨trivial, ⟨bv_La_76, ⟨trivial, ⟨trivial, ⟨trivial, ⟨trivial, ⟨trivial, ⟨trivial, ⟨trivial, ⟨trivial, ⟨trivial, ⟨bv_La_62, ⟨trivial, ⟨trivial, ⟨trivial, ⟨trivial, ⟨trivial, ⟨trivial, ⟨trivial, ⟨trivial, ⟨trivial, ⟨trivial, ⟨trivial, ⟨bv_La_50, ⟨trivial, ⟨trivial, trivial⟩⟩⟩⟩⟩⟩⟩⟩⟩⟩⟩⟩⟩⟩⟩⟩⟩⟩⟩⟩⟩⟩⟩⟩⟩⟩⟩⟩⟩⟩⟩⟩⟩⟩⟩⟩⟩⟩⟩⟩⟩⟩⟩⟩⟩⟩⟩⟩⟩⟩⟩⟩⟩⟩⟩⟩⟩⟩⟩⟩⟩⟩⟩⟩⟩⟩⟩⟩⟩⟩⟩⟩⟩⟩⟩⟩⟩⟩⟩⟩⟩⟩⟩⟩⟩
def ct_La_readClosing : List bt_E := [e0 (.aload_n 0) 1, em (.invokevirtual 54) 1 2 mi_La_next, e1 (.bipush 41) 2 41, eb (.if_icmp .eq 5) 11, e1 (.iconst 0) 1 0, e0 .ireturn 1, e0 (.aload_n 0) 1, e0 .dup 1, ef (.getfield 28) 2 5, e1 (.iconst 1) 1 1, e0 .iadd 1, ef (.putfield 28) 2 5, e1 (.iconst 1) 1 1, e0 .ireturn 1]
theorem dt_La_readClosing : bt_dec mi_La_readClosing.2.1 mi_La_readClosing.2.2.1 0 ct_La_readClosing = true := by decide +kernel
theorem kt_La_readClosing : bt_T mi_La_readClosing ct_La_readClosing := ⟨dt_La_readClosing, ⟨trivial, ⟨bv_La_54, ⟨trivial, ⟨trivial, ⟨trivial, ⟨trivial, ⟨trivial, ⟨trivial, ⟨lg_La_28, ⟨trivial, ⟨trivial, ⟨lp_La_28, ⟨trivial, ⟨trivial, trivial⟩⟩⟩⟩⟩⟩⟩⟩⟩⟩⟩⟩⟩⟩⟩
def ct_La_readNumber : List bt_E := [e1 (.iconst 0) 1 0, e0 (.istore_n 1) 1, e1 (.iconst 0) 1 0, e0 (.istore_n 2) 1, e0 (.iload_n 2) 1, e1 (.iconst 4) 1 4, eb (.if_icmp .ge 50) 56, e0 (.aload_n 0) 1, em (.invokevirtual 54) 1 2 mi_La_next, e1 (.bipush 48) 2 48, eb (.if_icmp .lt 41) 56, e0 (.aload_n 0) 1, em (.invokevirtual 54) 1 2 mi_La_next, e1 (.bipush 57) 2 57, eb (.if_icmp .gt 32) 56, e0 (.iload_n 1) 1, e1 (.bipush 10) 2 10, e0 .imul 1, e0 (.aload_n 0) 1, em (.invokevirtual 54) 1 2 mi_La_next, e0 .iadd 1, e1 (.bipush 48) 2 48, e0 .isub 1, e0 (.istore_n 1) 1, e0 (.aload_n 0) 1, e0 .dup 1, ef (.getfield 28) 2 5, e1 (.iconst 1) 1 1, e0 .iadd 1, ef (.putfield 28) 2 5, e1 (.iinc 2 1) 3 1, eb (.goto (-49)) 4, e0 (.aload_n 0) 1, e0 (.iload_n 1) 1, em (.invokevirtual 50) 2 2 mi_La_note, e0 .return_ 1]
theorem dt_La_readNumber : bt_dec mi_La_readNumber.2.1 mi_La_readNumber.2.2.1 0 ct_La_readNumber = true := by decide +kernel
theorem kt_La_readNumber : bt_T mi_La_readNumber ct_La_readNumber := ⟨dt_La_readNumber, ⟨trivial, ⟨trivial, ⟨trivial, ⟨trivial, ⟨trivial, ⟨trivial, ⟨trivial, ⟨trivial, ⟨bv_La_54, ⟨trivial, ⟨trivial, ⟨trivial, ⟨bv_La_54, ⟨trivial, ⟨trivial, ⟨trivial, ⟨trivial, ⟨trivial, ⟨trivial, ⟨bv_La_54, ⟨trivial, ⟨trivial, ⟨trivial, ⟨trivial, ⟨trivial, ⟨trivial, ⟨lg_La_28, ⟨trivial, ⟨trivial, ⟨lp_La_28, ⟨trivial, ⟨trivial, ⟨trivial, ⟨trivial, ⟨bv_La_50, ⟨trivial, trivial⟩⟩⟩⟩⟩⟩⟩⟩⟩⟩⟩⟩⟩⟩⟩⟩⟩⟩⟩⟩⟩⟩⟩⟩⟩⟩⟩⟩⟩⟩⟩⟩⟩⟩⟩⟩⟩
def ct_La_isName : List bt_E := [e0 (.iload_n 0) 1, e1 (.bipush 108) 2 108, eb (.if_icmp .eq 33) 36, e0 (.iload_n 0) 1, e1 (.bipush 100) 2 100, eb (.if_icmp .eq 27) 36, e0 (.iload_n 0) 1, e1 (.bipush 119) 2 119, eb (.if_icmp .eq 21) 36, e0 (.iload_n 0) 1, e1 (.bipush 112) 2 112, eb (.if_icmp .eq 15) 36, e0 (.iload_n 0) 1, e1 (.bipush 115) 2 115, eb (.if_icmp .eq 9) 36, e0 (.iload_n 0) 1, e1 (.bipush 107) 2 107, eb (.if_icmp .ne 7) 40, e1 (.iconst 1) 1 1, eb (.goto 4) 41, e1 (.iconst 0) 1 0, e0 .ireturn 1]
theorem dt_La_isName : bt_dec mi_La_isName.2.1 mi_La_isName.2.2.1 0 ct_La_isName = true := by decide +kernel
theorem kt_La_isName : bt_T mi_La_isName ct_La_isName := ⟨dt_La_isName, ⟨trivial, ⟨trivial, ⟨trivial, ⟨trivial, ⟨trivial, ⟨trivial, ⟨trivial, ⟨trivial, ⟨trivial, ⟨trivial, ⟨trivial, ⟨trivial, ⟨trivial, ⟨trivial, ⟨trivial, ⟨trivial, ⟨trivial, ⟨trivial, ⟨trivial, ⟨trivial, ⟨trivial, ⟨trivial, trivial⟩⟩⟩⟩⟩⟩⟩⟩⟩⟩⟩⟩⟩⟩⟩⟩⟩⟩⟩⟩⟩⟩⟩
def ct_La_ask : List bt_E := [e0 (.aload_n 0) 1, e0 (.iload_n 1) 1, ef (.putfield 79) 2 9, e0 (.aload_n 0) 1, e0 (.iload_n 2) 1, ef (.putfield 82) 2 10, e0 (.aload_n 0) 1, e0 (.iload_n 3) 1, ef (.putfield 85) 2 12, e0 (.aload_n 0) 1, e0 (.iload 4) 2, ef (.putfield 88) 2 13, e0 (.aload_n 0) 1, e0 (.iload 5) 2, ef (.putfield 91) 2 14, e0 .return_ 1]
theorem dt_La_ask : bt_dec mi_La_ask.2.1 mi_La_ask.2.2.1 0 ct_La_ask = true := by decide +kernel
theorem kt_La_ask : bt_T mi_La_ask ct_La_ask := ⟨dt_La_ask, ⟨trivial, ⟨trivial, ⟨lp_La_79, ⟨trivial, ⟨trivial, ⟨lp_La_82, ⟨trivial, ⟨trivial, ⟨lp_La_85, ⟨trivial, ⟨trivial, ⟨lp_La_88, ⟨trivial, ⟨trivial, ⟨lp_La_91, ⟨trivial, trivial⟩⟩⟩⟩⟩⟩⟩⟩⟩⟩⟩⟩⟩⟩⟩⟩⟩
def ct_La_hears : List bt_E := [e0 (.aload_n 0) 1, e0 (.iload_n 1) 1, ef (.putfield 94) 2 11, e0 (.aload_n 0) 1, ef (.getfield 44) 2 7, eb (.ifCond .ne 32) 41, e0 (.aload_n 0) 1, ef (.getfield 79) 2 9, e0 (.aload_n 0) 1, ef (.getfield 82) 2 10, e0 (.aload_n 0) 1, ef (.getfield 94) 2 11, e1 (.iconst 2) 1 2, e0 .idiv 1, e0 .iadd 1, e0 (.aload_n 0) 1, ef (.getfield 88) 2 13, e0 .iadd 1, eb (.if_icmp .le 7) 39, e1 (.iconst 1) 1 1, eb (.goto 4) 40, e1 (.iconst 0) 1 0, e0 .ireturn 1, e0 (.aload_n 0) 1, em (.invokevirtual 97) 1 2 mi_La_workOut, eb (.ifCond .eq 7) 52, e1 (.iconst 1) 1 1, eb (.goto 4) 53, e1 (.iconst 0) 1 0, e0 .ireturn 1]
theorem dt_La_hears : bt_dec mi_La_hears.2.1 mi_La_hears.2.2.1 0 ct_La_hears = true := by decide +kernel
theorem kt_La_hears : bt_T mi_La_hears ct_La_hears := ⟨dt_La_hears, ⟨trivial, ⟨trivial, ⟨lp_La_94, ⟨trivial, ⟨lg_La_44, ⟨trivial, ⟨trivial, ⟨lg_La_79, ⟨trivial, ⟨lg_La_82, ⟨trivial, ⟨lg_La_94, ⟨trivial, ⟨trivial, ⟨trivial, ⟨trivial, ⟨lg_La_88, ⟨trivial, ⟨trivial, ⟨trivial, ⟨trivial, ⟨trivial, ⟨trivial, ⟨trivial, ⟨bv_La_97, ⟨trivial, ⟨trivial, ⟨trivial, ⟨trivial, ⟨trivial, trivial⟩⟩⟩⟩⟩⟩⟩⟩⟩⟩⟩⟩⟩⟩⟩⟩⟩⟩⟩⟩⟩⟩⟩⟩⟩⟩⟩⟩⟩⟩⟩
def ct_La_workOut : List bt_E := [e1 (.iconst 0) 1 0, e0 (.istore_n 1) 1, e0 (.aload_n 0) 1, e1 (.iconst 0) 1 0, ef (.putfield 100) 2 8, e1 (.iconst 0) 1 0, e0 (.istore_n 2) 1, e0 (.iload_n 2) 1, e0 (.aload_n 0) 1, ef (.getfield 44) 2 7, eb (.if_icmp .ge 92) 106, e0 (.iload_n 2) 1, e0 (.aload_n 0) 1, ef (.getfield 18) 2 2, e0 .arraylength 1, eb (.if_icmp .ge 83) 106, e0 (.aload_n 0) 1, ef (.getfield 18) 2 2, e0 (.iload_n 2) 1, e0 .iaload 1, e0 .ineg 1, e0 (.istore_n 3) 1, e0 (.iload_n 1) 1, eb (.ifCond .eq 18) 53, e0 (.iload_n 3) 1, e1 (.bipush 59) 2 59, eb (.if_icmp .eq 7) 48, e1 (.iconst 1) 1 1, eb (.goto 4) 49, e1 (.iconst 0) 1 0, e0 (.istore_n 1) 1, eb (.goto 50) 100, e0 (.iload_n 3) 1, e1 (.bipush 59) 2 59, eb (.if_icmp .ne 8) 64, e0 (.aload_n 0) 1, em (.invokevirtual 103) 1 2 mi_La_pop, e0 .ireturn 1, e0 (.iload_n 3) 1, e1 (.bipush 63) 2 63, eb (.if_icmp .ne 19) 86, e0 (.aload_n 0) 1, em (.invokevirtual 103) 1 2 mi_La_pop, eb (.ifCond .ne 7) 81, e1 (.iconst 1) 1 1, eb (.goto 4) 82, e1 (.iconst 0) 1 0, e0 (.istore_n 1) 1, eb (.goto 17) 100, e0 (.aload_n 0) 1, e0 (.aload_n 0) 1, e0 (.aload_n 0) 1, ef (.getfield 18) 2 2, e0 (.iload_n 2) 1, e0 .iaload 1, em (.invokevirtual 106) 2 2 mi_La_valueBy, em (.invokevirtual 109) 2 2 mi_La_push, e1 (.iinc 2 1) 3 1, eb (.goto (-94)) 9, e1 (.iconst 0) 1 0, e0 .ireturn 1]
theorem dt_La_workOut : bt_dec mi_La_workOut.2.1 mi_La_workOut.2.2.1 0 ct_La_workOut = true := by decide +kernel
theorem kt_La_workOut : bt_T mi_La_workOut ct_La_workOut := ⟨dt_La_workOut, ⟨trivial, ⟨trivial, ⟨trivial, ⟨trivial, ⟨lp_La_100, ⟨trivial, ⟨trivial, ⟨trivial, ⟨trivial, ⟨lg_La_44, ⟨trivial, ⟨trivial, ⟨trivial, ⟨lg_La_18, ⟨trivial, ⟨trivial, ⟨trivial, ⟨lg_La_18, ⟨trivial, ⟨trivial, ⟨trivial, ⟨trivial, ⟨trivial, ⟨trivial, ⟨trivial, ⟨trivial, ⟨trivial, ⟨trivial, ⟨trivial, ⟨trivial, ⟨trivial, ⟨trivial, ⟨trivial, ⟨trivial, ⟨trivial, ⟨trivial, ⟨bv_La_103, ⟨trivial, ⟨trivial, ⟨trivial, ⟨trivial, ⟨trivial, ⟨bv_La_103, ⟨trivial, ⟨trivial, ⟨trivial, ⟨trivial, ⟨trivial, ⟨trivial, ⟨trivial, ⟨trivial, ⟨trivial, ⟨lg_La_18, ⟨trivial, ⟨trivial, ⟨bv_La_106, ⟨bv_La_109, ⟨trivial, ⟨trivial, ⟨trivial, ⟨trivial, trivial⟩⟩⟩⟩⟩⟩⟩⟩⟩⟩⟩⟩⟩⟩⟩⟩⟩⟩⟩⟩⟩⟩⟩⟩⟩⟩⟩⟩⟩⟩⟩⟩⟩⟩⟩⟩⟩⟩⟩⟩⟩⟩⟩⟩⟩⟩⟩⟩⟩⟩⟩⟩⟩⟩⟩⟩⟩⟩⟩⟩⟩⟩
def ct_La_valueBy : List bt_E := [e0 (.iload_n 1) 1, eb (.ifCond .lt 5) 6, e0 (.iload_n 1) 1, e0 .ireturn 1, e0 (.iload_n 1) 1, e0 .ineg 1, em (.invokestatic 73) 1 100 mi_La_isName, eb (.ifCond .eq 10) 21, e0 (.aload_n 0) 1, e0 (.iload_n 1) 1, e0 .ineg 1, em (.invokevirtual 112) 2 2 mi_La_named, e0 .ireturn 1, e0 (.aload_n 0) 1, em (.invokevirtual 103) 1 2 mi_La_pop, e0 (.istore_n 2) 1, e0 (.iload_n 1) 1, e0 .ineg 1, e1 (.bipush 126) 2 126, eb (.if_icmp .ne 6) 36, e0 (.iload_n 2) 1, e0 .ineg 1, e0 .ireturn 1, e0 (.iload_n 1) 1, e0 .ineg 1, e1 (.bipush 33) 2 33, eb (.if_icmp .ne 13) 53, e0 (.iload_n 2) 1, eb (.ifCond .ne 7) 51, e1 (.iconst 1) 1 1, eb (.goto 4) 52, e1 (.iconst 0) 1 0, e0 .ireturn 1, e0 (.iload_n 1) 1, e0 .ineg 1, e0 (.aload_n 0) 1, em (.invokevirtual 103) 1 2 mi_La_pop, e0 (.iload_n 2) 1, em (.invokestatic 115) 3 100 mi_La_joined, e0 .ireturn 1]
theorem dt_La_valueBy : bt_dec mi_La_valueBy.2.1 mi_La_valueBy.2.2.1 0 ct_La_valueBy = true := by decide +kernel
theorem kt_La_valueBy : bt_T mi_La_valueBy ct_La_valueBy := ⟨dt_La_valueBy, ⟨trivial, ⟨trivial, ⟨trivial, ⟨trivial, ⟨trivial, ⟨trivial, ⟨⟨fun _ => bs_La_73, (fun h => by cases h)⟩, ⟨trivial, ⟨trivial, ⟨trivial, ⟨trivial, ⟨bv_La_112, ⟨trivial, ⟨trivial, ⟨bv_La_103, ⟨trivial, ⟨trivial, ⟨trivial, ⟨trivial, ⟨trivial, ⟨trivial, ⟨trivial, ⟨trivial, ⟨trivial, ⟨trivial, ⟨trivial, ⟨trivial, ⟨trivial, ⟨trivial, ⟨trivial, ⟨trivial, ⟨trivial, ⟨trivial, ⟨trivial, ⟨trivial, ⟨trivial, ⟨bv_La_103, ⟨trivial, ⟨⟨fun _ => bs_La_115, (fun h => by cases h)⟩, ⟨trivial, trivial⟩⟩⟩⟩⟩⟩⟩⟩⟩⟩⟩⟩⟩⟩⟩⟩⟩⟩⟩⟩⟩⟩⟩⟩⟩⟩⟩⟩⟩⟩⟩⟩⟩⟩⟩⟩⟩⟩⟩⟩⟩
def ct_La_named : List bt_E := [e0 (.iload_n 1) 1, ew (.lookupswitch 76 #[(100, 56), (108, 51), (112, 66), (115, 71), (119, 61)]) 51 77 [(100, 57), (108, 52), (112, 67), (115, 72), (119, 62)], e0 (.aload_n 0) 1, ef (.getfield 79) 2 9, e0 .ireturn 1, e0 (.aload_n 0) 1, ef (.getfield 82) 2 10, e0 .ireturn 1, e0 (.aload_n 0) 1, ef (.getfield 94) 2 11, e0 .ireturn 1, e0 (.aload_n 0) 1, ef (.getfield 85) 2 12, e0 .ireturn 1, e0 (.aload_n 0) 1, ef (.getfield 88) 2 13, e0 .ireturn 1, e0 (.aload_n 0) 1, ef (.getfield 91) 2 14, e0 .ireturn 1]
theorem dt_La_named : bt_dec mi_La_named.2.1 mi_La_named.2.2.1 0 ct_La_named = true := by decide +kernel
theorem kt_La_named : bt_T mi_La_named ct_La_named := ⟨dt_La_named, ⟨trivial, ⟨trivial, ⟨trivial, ⟨lg_La_79, ⟨trivial, ⟨trivial, ⟨lg_La_82, ⟨trivial, ⟨trivial, ⟨lg_La_94, ⟨trivial, ⟨trivial, ⟨lg_La_85, ⟨trivial, ⟨trivial, ⟨lg_La_88, ⟨trivial, ⟨trivial, ⟨lg_La_91, ⟨trivial, trivial⟩⟩⟩⟩⟩⟩⟩⟩⟩⟩⟩⟩⟩⟩⟩⟩⟩⟩⟩⟩⟩
def ct_La_joined : List bt_E := [e0 (.iload_n 0) 1, ew (.lookupswitch 168 #[(38, 97), (42, 152), (43, 144), (45, 148), (47, 156), (60, 111), (61, 122), (62, 133), (124, 83)]) 83 169 [(38, 98), (42, 153), (43, 145), (45, 149), (47, 157), (60, 112), (61, 123), (62, 134), (124, 84)], e0 (.iload_n 1) 1, eb (.ifCond .ne 7) 92, e0 (.iload_n 2) 1, eb (.ifCond .eq 7) 96, e1 (.iconst 1) 1 1, eb (.goto 4) 97, e1 (.iconst 0) 1 0, e0 .ireturn 1, e0 (.iload_n 1) 1, eb (.ifCond .eq 11) 110, e0 (.iload_n 2) 1, eb (.ifCond .eq 7) 110, e1 (.iconst 1) 1 1, eb (.goto 4) 111, e1 (.iconst 0) 1 0, e0 .ireturn 1, e0 (.iload_n 1) 1, e0 (.iload_n 2) 1, eb (.if_icmp .ge 7) 121, e1 (.iconst 1) 1 1, eb (.goto 4) 122, e1 (.iconst 0) 1 0, e0 .ireturn 1, e0 (.iload_n 1) 1, e0 (.iload_n 2) 1, eb (.if_icmp .ne 7) 132, e1 (.iconst 1) 1 1, eb (.goto 4) 133, e1 (.iconst 0) 1 0, e0 .ireturn 1, e0 (.iload_n 1) 1, e0 (.iload_n 2) 1, eb (.if_icmp .le 7) 143, e1 (.iconst 1) 1 1, eb (.goto 4) 144, e1 (.iconst 0) 1 0, e0 .ireturn 1, e0 (.iload_n 1) 1, e0 (.iload_n 2) 1, e0 .iadd 1, e0 .ireturn 1, e0 (.iload_n 1) 1, e0 (.iload_n 2) 1, e0 .isub 1, e0 .ireturn 1, e0 (.iload_n 1) 1, e0 (.iload_n 2) 1, e0 .imul 1, e0 .ireturn 1, e0 (.iload_n 2) 1, eb (.ifCond .ne 7) 165, e1 (.iconst 0) 1 0, eb (.goto 6) 168, e0 (.iload_n 1) 1, e0 (.iload_n 2) 1, e0 .idiv 1, e0 .ireturn 1, e0 (.iload_n 2) 1, eb (.ifCond .ne 7) 177, e1 (.iconst 0) 1 0, eb (.goto 6) 180, e0 (.iload_n 1) 1, e0 (.iload_n 2) 1, e0 .irem 1, e0 .ireturn 1]
theorem dt_La_joined : bt_dec mi_La_joined.2.1 mi_La_joined.2.2.1 0 ct_La_joined = true := by decide +kernel
theorem kt_La_joined : bt_T mi_La_joined ct_La_joined := ⟨dt_La_joined, ⟨trivial, ⟨trivial, ⟨trivial, ⟨trivial, ⟨trivial, ⟨trivial, ⟨trivial, ⟨trivial, ⟨trivial, ⟨trivial, ⟨trivial, ⟨trivial, ⟨trivial, ⟨trivial, ⟨trivial, ⟨trivial, ⟨trivial, ⟨trivial, ⟨trivial, ⟨trivial, ⟨trivial, ⟨trivial, ⟨trivial, ⟨trivial, ⟨trivial, ⟨trivial, ⟨trivial, ⟨trivial, ⟨trivial, ⟨trivial, ⟨trivial, ⟨trivial, ⟨trivial, ⟨trivial, ⟨trivial, ⟨trivial, ⟨trivial, ⟨trivial, ⟨trivial, ⟨trivial, ⟨trivial, ⟨trivial, ⟨trivial, ⟨trivial, ⟨trivial, ⟨trivial, ⟨trivial, ⟨trivial, ⟨trivial, ⟨trivial, ⟨trivial, ⟨trivial, ⟨trivial, ⟨trivial, ⟨trivial, ⟨trivial, ⟨trivial, ⟨trivial, ⟨trivial, ⟨trivial, ⟨trivial, ⟨trivial, ⟨trivial, ⟨trivial, ⟨trivial, ⟨trivial, ⟨trivial, trivial⟩⟩⟩⟩⟩⟩⟩⟩⟩⟩⟩⟩⟩⟩⟩⟩⟩⟩⟩⟩⟩⟩⟩⟩⟩⟩⟩⟩⟩⟩⟩⟩⟩⟩⟩⟩⟩⟩⟩⟩⟩⟩⟩⟩⟩⟩⟩⟩⟩⟩⟩⟩⟩⟩⟩⟩⟩⟩⟩⟩⟩⟩⟩⟩⟩⟩⟩⟩
def ct_La_push : List bt_E := [e0 (.aload_n 0) 1, ef (.getfield 100) 2 8, eb (.ifCond .lt 35) 39, e0 (.aload_n 0) 1, ef (.getfield 100) 2 8, e0 (.aload_n 0) 1, ef (.getfield 21) 2 3, e0 .arraylength 1, eb (.if_icmp .ge 23) 39, e0 (.aload_n 0) 1, ef (.getfield 21) 2 3, e0 (.aload_n 0) 1, ef (.getfield 100) 2 8, e0 (.iload_n 1) 1, e0 .iastore 1, e0 (.aload_n 0) 1, e0 .dup 1, ef (.getfield 100) 2 8, e1 (.iconst 1) 1 1, e0 .iadd 1, ef (.putfield 100) 2 8, e0 .return_ 1]
theorem dt_La_push : bt_dec mi_La_push.2.1 mi_La_push.2.2.1 0 ct_La_push = true := by decide +kernel
theorem kt_La_push : bt_T mi_La_push ct_La_push := ⟨dt_La_push, ⟨trivial, ⟨lg_La_100, ⟨trivial, ⟨trivial, ⟨lg_La_100, ⟨trivial, ⟨lg_La_21, ⟨trivial, ⟨trivial, ⟨trivial, ⟨lg_La_21, ⟨trivial, ⟨lg_La_100, ⟨trivial, ⟨trivial, ⟨trivial, ⟨trivial, ⟨lg_La_100, ⟨trivial, ⟨trivial, ⟨lp_La_100, ⟨trivial, trivial⟩⟩⟩⟩⟩⟩⟩⟩⟩⟩⟩⟩⟩⟩⟩⟩⟩⟩⟩⟩⟩⟩⟩
def ct_La_pop : List bt_E := [e0 (.aload_n 0) 1, ef (.getfield 100) 2 8, eb (.ifCond .le 15) 19, e0 (.aload_n 0) 1, ef (.getfield 100) 2 8, e0 (.aload_n 0) 1, ef (.getfield 21) 2 3, e0 .arraylength 1, eb (.if_icmp .le 5) 21, e1 (.iconst 0) 1 0, e0 .ireturn 1, e0 (.aload_n 0) 1, e0 .dup 1, ef (.getfield 100) 2 8, e1 (.iconst 1) 1 1, e0 .isub 1, ef (.putfield 100) 2 8, e0 (.aload_n 0) 1, ef (.getfield 21) 2 3, e0 (.aload_n 0) 1, ef (.getfield 100) 2 8, e0 .iaload 1, e0 .ireturn 1]
theorem dt_La_pop : bt_dec mi_La_pop.2.1 mi_La_pop.2.2.1 0 ct_La_pop = true := by decide +kernel
theorem kt_La_pop : bt_T mi_La_pop ct_La_pop := ⟨dt_La_pop, ⟨trivial, ⟨lg_La_100, ⟨trivial, ⟨trivial, ⟨lg_La_100, ⟨trivial, ⟨lg_La_21, ⟨trivial, ⟨trivial, ⟨trivial, ⟨trivial, ⟨trivial, ⟨trivial, ⟨lg_La_100, ⟨trivial, ⟨trivial, ⟨lp_La_100, ⟨trivial, ⟨lg_La_21, ⟨trivial, ⟨lg_La_100, ⟨trivial, ⟨trivial, trivial⟩⟩⟩⟩⟩⟩⟩⟩⟩⟩⟩⟩⟩⟩⟩⟩⟩⟩⟩⟩⟩⟩⟩⟩
def ct_So_fill : List bt_E := [e0 (.aload_n 0) 1, ef (.getfield 20) 3 0, e1 (.bipush 6) 2 6, e1 (.iconst 0) 1 0, em (.invokevirtual 28) 3 1 mi_Fo_get, e0 (.istore_n 2) 1, e0 (.aload_n 0) 1, ef (.getfield 20) 3 0, em (.invokevirtual 34) 1 1 mi_Fo_measureFar, e1 (.iconst 0) 1 0, e0 (.istore_n 3) 1, e0 (.iload_n 3) 1, e1 (.bipush 8) 2 8, eb (.if_icmp .ge 139) 162, e0 (.aload_n 0) 1, ef (.getfield 20) 3 0, e0 (.iload_n 3) 1, em (.invokevirtual 37) 2 1 mi_Fo_has, eb (.ifCond .eq 19) 53, e0 (.aload_n 0) 1, ef (.getfield 20) 3 0, e0 (.iload_n 1) 1, e0 (.iload_n 3) 1, em (.invokevirtual 41) 3 1 mi_Fo_rings, eb (.ifCond .eq 7) 53, e1 (.iconst 1) 1 1, eb (.goto 4) 54, e1 (.iconst 0) 1 0, e0 (.istore 4) 2, e0 (.aload_n 0) 1, ef (.getfield 20) 3 0, e1 (.iconst 0) 1 0, e0 (.iload_n 3) 1, em (.invokevirtual 28) 3 1 mi_Fo_get, e0 (.istore 5) 2, e0 (.aload_n 0) 1, ef (.getfield 24) 3 1, e0 (.aload_n 0) 1, ef (.getfield 20) 3 0, e1 (.iconst 1) 1 1, e0 (.iload_n 3) 1, em (.invokevirtual 28) 3 1 mi_Fo_get, e0 (.aload_n 0) 1, ef (.getfield 20) 3 0, e0 (.iload_n 3) 1, em (.invokevirtual 45) 2 1 mi_Fo_farMeasured, e0 (.iload 5) 2, e0 (.iload_n 2) 1, e0 (.iload_n 1) 1, em (.invokevirtual 49) 6 2 mi_La_ask, e0 (.aload_n 0) 1, ef (.getfield 16) 3 3, e1 (.iconst (-1)) 1 (-1), em (.invokestatic 55) 2 100 mi_JA_fillI, e1 (.iconst 0) 1 0, e0 (.istore 6) 2, e0 (.iload 6) 2, e1 (.bipush 24) 2 24, eb (.if_icmp .ge 46) 156, e0 (.aload_n 0) 1, ef (.getfield 11) 3 2, e0 (.iload_n 3) 1, e0 .aaload 1, e0 (.iload 6) 2, e0 (.iload 4) 2, eb (.ifCond .eq 25) 148, e0 (.aload_n 0) 1, e0 (.aload_n 0) 1, ef (.getfield 20) 3 0, e1 (.iconst 4) 1 4, e0 (.iload 6) 2, em (.invokevirtual 28) 3 1 mi_Fo_get, em (.invokevirtual 61) 2 3 mi_So_isHeard, eb (.ifCond .eq 8) 148, e0 (.iload 5) 2, eb (.goto 4) 149, e1 (.iconst (-1)) 1 (-1), e0 .iastore 1, e1 (.iinc 6 1) 3 1, eb (.goto (-47)) 106, e1 (.iinc 3 1) 3 1, eb (.goto (-139)) 20, e0 .return_ 1]
theorem dt_So_fill : bt_dec mi_So_fill.2.1 mi_So_fill.2.2.1 0 ct_So_fill = true := by decide +kernel
theorem kt_So_fill : bt_T mi_So_fill ct_So_fill := ⟨dt_So_fill, ⟨trivial, ⟨lg_So_20, ⟨trivial, ⟨trivial, ⟨bv_So_28, ⟨trivial, ⟨trivial, ⟨lg_So_20, ⟨bv_So_34, ⟨trivial, ⟨trivial, ⟨trivial, ⟨trivial, ⟨trivial, ⟨trivial, ⟨lg_So_20, ⟨trivial, ⟨bv_So_37, ⟨trivial, ⟨trivial, ⟨lg_So_20, ⟨trivial, ⟨trivial, ⟨bv_So_41, ⟨trivial, ⟨trivial, ⟨trivial, ⟨trivial, ⟨trivial, ⟨trivial, ⟨lg_So_20, ⟨trivial, ⟨trivial, ⟨bv_So_28, ⟨trivial, ⟨trivial, ⟨lg_So_24, ⟨trivial, ⟨lg_So_20, ⟨trivial, ⟨trivial, ⟨bv_So_28, ⟨trivial, ⟨lg_So_20, ⟨trivial, ⟨bv_So_45, ⟨trivial, ⟨trivial, ⟨trivial, ⟨bv_So_49, ⟨trivial, ⟨lg_So_16, ⟨trivial, ⟨⟨fun _ => bs_So_55, (fun h => by cases h)⟩, ⟨trivial, ⟨trivial, ⟨trivial, ⟨trivial, ⟨trivial, ⟨trivial, ⟨lg_So_11, ⟨trivial, ⟨trivial, ⟨trivial, ⟨trivial, ⟨trivial, ⟨trivial, ⟨trivial, ⟨lg_So_20, ⟨trivial, ⟨trivial, ⟨bv_So_28, ⟨bv_So_61, ⟨trivial, ⟨trivial, ⟨trivial, ⟨trivial, ⟨trivial, ⟨trivial, ⟨trivial, ⟨trivial, ⟨trivial, ⟨trivial, trivial⟩⟩⟩⟩⟩⟩⟩⟩⟩⟩⟩⟩⟩⟩⟩⟩⟩⟩⟩⟩⟩⟩⟩⟩⟩⟩⟩⟩⟩⟩⟩⟩⟩⟩⟩⟩⟩⟩⟩⟩⟩⟩⟩⟩⟩⟩⟩⟩⟩⟩⟩⟩⟩⟩⟩⟩⟩⟩⟩⟩⟩⟩⟩⟩⟩⟩⟩⟩⟩⟩⟩⟩⟩⟩⟩⟩⟩⟩⟩⟩⟩⟩⟩⟩
def ct_So_isHeard : List bt_E := [e0 (.iload_n 1) 1, eb (.ifCond .lt 9) 10, e0 (.iload_n 1) 1, e1 (.bipush 10) 2 10, eb (.if_icmp .lt 5) 12, e1 (.iconst 0) 1 0, e0 .ireturn 1, e0 (.aload_n 0) 1, ef (.getfield 16) 3 3, e0 (.iload_n 1) 1, e0 .iaload 1, e1 (.iconst (-1)) 1 (-1), eb (.if_icmp .ne 25) 44, e0 (.aload_n 0) 1, ef (.getfield 16) 3 3, e0 (.iload_n 1) 1, e0 (.aload_n 0) 1, ef (.getfield 24) 3 1, e0 (.iload_n 1) 1, em (.invokevirtual 64) 2 2 mi_La_hears, eb (.ifCond .eq 7) 42, e1 (.iconst 1) 1 1, eb (.goto 4) 43, e1 (.iconst 0) 1 0, e0 .iastore 1, e0 (.aload_n 0) 1, ef (.getfield 16) 3 3, e0 (.iload_n 1) 1, e0 .iaload 1, e1 (.iconst 1) 1 1, eb (.if_icmp .ne 7) 58, e1 (.iconst 1) 1 1, eb (.goto 4) 59, e1 (.iconst 0) 1 0, e0 .ireturn 1]
theorem dt_So_isHeard : bt_dec mi_So_isHeard.2.1 mi_So_isHeard.2.2.1 0 ct_So_isHeard = true := by decide +kernel
theorem kt_So_isHeard : bt_T mi_So_isHeard ct_So_isHeard := ⟨dt_So_isHeard, ⟨trivial, ⟨trivial, ⟨trivial, ⟨trivial, ⟨trivial, ⟨trivial, ⟨trivial, ⟨trivial, ⟨lg_So_16, ⟨trivial, ⟨trivial, ⟨trivial, ⟨trivial, ⟨trivial, ⟨lg_So_16, ⟨trivial, ⟨trivial, ⟨lg_So_24, ⟨trivial, ⟨bv_So_64, ⟨trivial, ⟨trivial, ⟨trivial, ⟨trivial, ⟨trivial, ⟨trivial, ⟨lg_So_16, ⟨trivial, ⟨trivial, ⟨trivial, ⟨trivial, ⟨trivial, ⟨trivial, ⟨trivial, ⟨trivial, trivial⟩⟩⟩⟩⟩⟩⟩⟩⟩⟩⟩⟩⟩⟩⟩⟩⟩⟩⟩⟩⟩⟩⟩⟩⟩⟩⟩⟩⟩⟩⟩⟩⟩⟩⟩⟩
def ct_So_at : List bt_E := [e0 (.aload_n 0) 1, ef (.getfield 20) 3 0, e0 (.iload_n 1) 1, em (.invokevirtual 37) 2 1 mi_Fo_has, eb (.ifCond .eq 21) 29, e0 (.iload_n 2) 1, em (.invokestatic 67) 1 100 mi_B_isMinute, eb (.ifCond .eq 14) 29, e0 (.aload_n 0) 1, ef (.getfield 11) 3 2, e0 (.iload_n 1) 1, e0 .aaload 1, e0 (.iload_n 2) 1, e0 .iaload 1, eb (.goto 4) 30, e1 (.iconst (-1)) 1 (-1), e0 .ireturn 1]
theorem dt_So_at : bt_dec mi_So_at.2.1 mi_So_at.2.2.1 0 ct_So_at = true := by decide +kernel
theorem kt_So_at : bt_T mi_So_at ct_So_at := ⟨dt_So_at, ⟨trivial, ⟨lg_So_20, ⟨trivial, ⟨bv_So_37, ⟨trivial, ⟨trivial, ⟨⟨fun _ => bs_So_67, (fun h => by cases h)⟩, ⟨trivial, ⟨trivial, ⟨lg_So_11, ⟨trivial, ⟨trivial, ⟨trivial, ⟨trivial, ⟨trivial, ⟨trivial, ⟨trivial, trivial⟩⟩⟩⟩⟩⟩⟩⟩⟩⟩⟩⟩⟩⟩⟩⟩⟩⟩
def ct_So_among : List bt_E := [e0 (.iload_n 1) 1, e0 (.iload_n 2) 1, e0 .ishr 1, e1 (.iconst 1) 1 1, e0 .iand 1, eb (.ifCond .eq 12) 17, e0 (.aload_n 0) 1, e0 (.iload_n 2) 1, e0 (.iload_n 3) 1, em (.invokevirtual 70) 3 3 mi_So_at, eb (.goto 4) 18, e1 (.iconst (-1)) 1 (-1), e0 .ireturn 1]
theorem dt_So_among : bt_dec mi_So_among.2.1 mi_So_among.2.2.1 0 ct_So_among = true := by decide +kernel
theorem kt_So_among : bt_T mi_So_among ct_So_among := ⟨dt_So_among, ⟨trivial, ⟨trivial, ⟨trivial, ⟨trivial, ⟨trivial, ⟨trivial, ⟨trivial, ⟨trivial, ⟨trivial, ⟨bv_So_70, ⟨trivial, ⟨trivial, ⟨trivial, trivial⟩⟩⟩⟩⟩⟩⟩⟩⟩⟩⟩⟩⟩⟩
def ct_So_anywhere : List bt_E := [e1 (.iconst 0) 1 0, e0 (.istore_n 3) 1, e0 (.iload_n 3) 1, e0 (.aload_n 0) 1, ef (.getfield 20) 3 0, em (.invokevirtual 73) 1 1 mi_Fo_size, eb (.if_icmp .ge 21) 31, e0 (.aload_n 0) 1, e0 (.iload_n 3) 1, e0 (.iload_n 2) 1, em (.invokevirtual 70) 3 3 mi_So_at, e0 (.iload_n 1) 1, eb (.if_icmp .ne 5) 25, e1 (.iconst 1) 1 1, e0 .ireturn 1, e1 (.iinc 3 1) 3 1, eb (.goto (-26)) 2, e1 (.iconst 0) 1 0, e0 .ireturn 1]
theorem dt_So_anywhere : bt_dec mi_So_anywhere.2.1 mi_So_anywhere.2.2.1 0 ct_So_anywhere = true := by decide +kernel
theorem kt_So_anywhere : bt_T mi_So_anywhere ct_So_anywhere := ⟨dt_So_anywhere, ⟨trivial, ⟨trivial, ⟨trivial, ⟨trivial, ⟨lg_So_20, ⟨bv_So_73, ⟨trivial, ⟨trivial, ⟨trivial, ⟨trivial, ⟨bv_So_70, ⟨trivial, ⟨trivial, ⟨trivial, ⟨trivial, ⟨trivial, ⟨trivial, ⟨trivial, ⟨trivial, trivial⟩⟩⟩⟩⟩⟩⟩⟩⟩⟩⟩⟩⟩⟩⟩⟩⟩⟩⟩⟩
def ct_Wa_countFitting : List bt_E := [e0 (.aload_n 2) 1, em (.invokevirtual 20) 1 8 mi_Sh_minutes, e0 (.istore_n 3) 1, e0 (.iload_n 3) 1, e1 (.iconst 1) 1 1, e0 .isub 1, e0 (.istore 4) 2, e0 (.iload 4) 2, eb (.ifCond .lt 106) 118, e1 (.iconst 0) 1 0, e0 (.istore 5) 2, e0 (.iload 5) 2, e0 (.aload_n 0) 1, ef (.getfield 16) 4 0, em (.invokevirtual 26) 1 1 mi_Fo_size, eb (.if_icmp .ge 85) 112, e0 (.aload_n 1) 1, e0 (.iload 5) 2, e0 (.iload 4) 2, em (.invokevirtual 31) 3 3 mi_So_at, e0 (.aload_n 2) 1, e0 (.iload 4) 2, em (.invokevirtual 37) 2 8 mi_Sh_at, eb (.if_icmp .ne 7) 51, e1 (.iconst 1) 1 1, eb (.goto 4) 52, e1 (.iconst 0) 1 0, e0 (.istore 6) 2, e0 (.iload 4) 2, e0 (.iload_n 3) 1, e1 (.iconst 1) 1 1, e0 .isub 1, eb (.if_icmp .ne 7) 66, e1 (.iconst 1) 1 1, eb (.goto 20) 83, e0 (.aload_n 0) 1, e0 (.iload 4) 2, e1 (.iconst 1) 1 1, e0 .iadd 1, e0 (.aload_n 0) 1, ef (.getfield 16) 4 0, e0 (.iload 5) 2, em (.invokevirtual 40) 2 1 mi_Fo_around, em (.invokevirtual 43) 3 4 mi_Wa_ways, e0 (.istore 7) 2, e0 (.aload_n 0) 1, ef (.getfield 11) 4 1, e0 (.iload 4) 2, e0 .aaload 1, e0 (.iload 5) 2, e0 (.iload 6) 2, eb (.ifCond .eq 8) 104, e0 (.iload 7) 2, eb (.goto 4) 105, e1 (.iconst 0) 1 0, e0 .iastore 1, e1 (.iinc 5 1) 3 1, eb (.goto (-91)) 18, e1 (.iinc 4 (-1)) 3 (-1), eb (.goto (-105)) 10, e0 (.iload_n 3) 1, eb (.ifCond .ne 7) 126, e1 (.iconst 1) 1 1, eb (.goto 15) 138, e0 (.aload_n 0) 1, e1 (.iconst 0) 1 0, e0 (.aload_n 0) 1, ef (.getfield 16) 4 0, em (.invokevirtual 46) 1 1 mi_Fo_all, em (.invokevirtual 43) 3 4 mi_Wa_ways, e0 .ireturn 1]
theorem dt_Wa_countFitting : bt_dec mi_Wa_countFitting.2.1 mi_Wa_countFitting.2.2.1 0 ct_Wa_countFitting = true := by decide +kernel
theorem kt_Wa_countFitting : bt_T mi_Wa_countFitting ct_Wa_countFitting := ⟨dt_Wa_countFitting, ⟨trivial, ⟨bv_Wa_20, ⟨trivial, ⟨trivial, ⟨trivial, ⟨trivial, ⟨trivial, ⟨trivial, ⟨trivial, ⟨trivial, ⟨trivial, ⟨trivial, ⟨trivial, ⟨lg_Wa_16, ⟨bv_Wa_26, ⟨trivial, ⟨trivial, ⟨trivial, ⟨trivial, ⟨bv_Wa_31, ⟨trivial, ⟨trivial, ⟨bv_Wa_37, ⟨trivial, ⟨trivial, ⟨trivial, ⟨trivial, ⟨trivial, ⟨trivial, ⟨trivial, ⟨trivial, ⟨trivial, ⟨trivial, ⟨trivial, ⟨trivial, ⟨trivial, ⟨trivial, ⟨trivial, ⟨trivial, ⟨trivial, ⟨lg_Wa_16, ⟨trivial, ⟨bv_Wa_40, ⟨bv_Wa_43, ⟨trivial, ⟨trivial, ⟨lg_Wa_11, ⟨trivial, ⟨trivial, ⟨trivial, ⟨trivial, ⟨trivial, ⟨trivial, ⟨trivial, ⟨trivial, ⟨trivial, ⟨trivial, ⟨trivial, ⟨trivial, ⟨trivial, ⟨trivial, ⟨trivial, ⟨trivial, ⟨trivial, ⟨trivial, ⟨trivial, ⟨trivial, ⟨lg_Wa_16, ⟨bv_Wa_46, ⟨bv_Wa_43, ⟨trivial, trivial⟩⟩⟩⟩⟩⟩⟩⟩⟩⟩⟩⟩⟩⟩⟩⟩⟩⟩⟩⟩⟩⟩⟩⟩⟩⟩⟩⟩⟩⟩⟩⟩⟩⟩⟩⟩⟩⟩⟩⟩⟩⟩⟩⟩⟩⟩⟩⟩⟩⟩⟩⟩⟩⟩⟩⟩⟩⟩⟩⟩⟩⟩⟩⟩⟩⟩⟩⟩⟩⟩⟩⟩
def ct_Wa_ways : List bt_E := [e1 (.iconst 0) 1 0, e0 (.istore_n 3) 1, e1 (.iconst 0) 1 0, e0 (.istore 4) 2, e0 (.iload 4) 2, e1 (.bipush 8) 2 8, eb (.if_icmp .ge 33) 42, e0 (.iload_n 2) 1, e0 (.iload 4) 2, e0 .ishr 1, e1 (.iconst 1) 1 1, e0 .iand 1, eb (.ifCond .eq 18) 36, e1 (.ldc 49) 2 999999999, e0 (.iload_n 3) 1, e0 (.aload_n 0) 1, e0 (.iload_n 1) 1, e0 (.iload 4) 2, em (.invokevirtual 50) 3 4 mi_Wa_onwardAt, e0 .iadd 1, em (.invokestatic 53) 2 100 mi_JM_min, e0 (.istore_n 3) 1, e1 (.iinc 4 1) 3 1, eb (.goto (-34)) 5, e0 (.iload_n 3) 1, e0 .ireturn 1]
theorem dt_Wa_ways : bt_dec mi_Wa_ways.2.1 mi_Wa_ways.2.2.1 0 ct_Wa_ways = true := by decide +kernel
theorem kt_Wa_ways : bt_T mi_Wa_ways ct_Wa_ways := ⟨dt_Wa_ways, ⟨trivial, ⟨trivial, ⟨trivial, ⟨trivial, ⟨trivial, ⟨trivial, ⟨trivial, ⟨trivial, ⟨trivial, ⟨trivial, ⟨trivial, ⟨trivial, ⟨trivial, ⟨lk_Wa_49, ⟨trivial, ⟨trivial, ⟨trivial, ⟨trivial, ⟨bv_Wa_50, ⟨trivial, ⟨⟨fun _ => bs_Wa_53, (fun h => by cases h)⟩, ⟨trivial, ⟨trivial, ⟨trivial, ⟨trivial, ⟨trivial, trivial⟩⟩⟩⟩⟩⟩⟩⟩⟩⟩⟩⟩⟩⟩⟩⟩⟩⟩⟩⟩⟩⟩⟩⟩⟩⟩⟩
def ct_Wa_onwardAt : List bt_E := [e0 (.iload_n 1) 1, em (.invokestatic 58) 1 100 mi_B_isMinute, eb (.ifCond .eq 25) 29, e0 (.aload_n 0) 1, ef (.getfield 16) 4 0, e0 (.iload_n 2) 1, em (.invokevirtual 62) 2 1 mi_Fo_has, eb (.ifCond .eq 14) 29, e0 (.aload_n 0) 1, ef (.getfield 11) 4 1, e0 (.iload_n 1) 1, e0 .aaload 1, e0 (.iload_n 2) 1, e0 .iaload 1, eb (.goto 4) 30, e1 (.iconst 0) 1 0, e0 .ireturn 1]
theorem dt_Wa_onwardAt : bt_dec mi_Wa_onwardAt.2.1 mi_Wa_onwardAt.2.2.1 0 ct_Wa_onwardAt = true := by decide +kernel
theorem kt_Wa_onwardAt : bt_T mi_Wa_onwardAt ct_Wa_onwardAt := ⟨dt_Wa_onwardAt, ⟨trivial, ⟨⟨fun _ => bs_Wa_58, (fun h => by cases h)⟩, ⟨trivial, ⟨trivial, ⟨lg_Wa_16, ⟨trivial, ⟨bv_Wa_62, ⟨trivial, ⟨trivial, ⟨lg_Wa_11, ⟨trivial, ⟨trivial, ⟨trivial, ⟨trivial, ⟨trivial, ⟨trivial, ⟨trivial, trivial⟩⟩⟩⟩⟩⟩⟩⟩⟩⟩⟩⟩⟩⟩⟩⟩⟩⟩
def ct_Wa_firstAt : List bt_E := [e1 (.bipush (-2)) 2 (-2), e0 (.istore_n 2) 1, e0 (.aload_n 0) 1, ef (.getfield 16) 4 0, em (.invokevirtual 46) 1 1 mi_Fo_all, e0 (.istore_n 3) 1, e1 (.iconst 0) 1 0, e0 (.istore 4) 2, e0 (.iload 4) 2, e0 (.iload_n 1) 1, eb (.if_icmp .gt 45) 62, e0 (.iload 4) 2, e1 (.bipush 24) 2 24, eb (.if_icmp .ge 38) 62, e0 (.aload_n 0) 1, e0 (.iload 4) 2, e0 (.iload_n 3) 1, em (.invokevirtual 65) 3 4 mi_Wa_fittingOf, e0 (.istore_n 3) 1, e0 (.iload_n 3) 1, eb (.ifCond .ne 6) 42, e1 (.bipush (-2)) 2 (-2), e0 .ireturn 1, e0 (.iload_n 3) 1, em (.invokestatic 68) 1 100 mi_Wa_lowestOf, e0 (.istore_n 2) 1, e0 (.aload_n 0) 1, ef (.getfield 16) 4 0, e0 (.iload_n 2) 1, em (.invokevirtual 40) 2 1 mi_Fo_around, e0 (.istore_n 3) 1, e1 (.iinc 4 1) 3 1, eb (.goto (-45)) 14, e0 (.iload_n 2) 1, e0 .ireturn 1]
theorem dt_Wa_firstAt : bt_dec mi_Wa_firstAt.2.1 mi_Wa_firstAt.2.2.1 0 ct_Wa_firstAt = true := by decide +kernel
theorem kt_Wa_firstAt : bt_T mi_Wa_firstAt ct_Wa_firstAt := ⟨dt_Wa_firstAt, ⟨trivial, ⟨trivial, ⟨trivial, ⟨lg_Wa_16, ⟨bv_Wa_46, ⟨trivial, ⟨trivial, ⟨trivial, ⟨trivial, ⟨trivial, ⟨trivial, ⟨trivial, ⟨trivial, ⟨trivial, ⟨trivial, ⟨trivial, ⟨trivial, ⟨bv_Wa_65, ⟨trivial, ⟨trivial, ⟨trivial, ⟨trivial, ⟨trivial, ⟨trivial, ⟨⟨fun _ => bs_Wa_68, (fun h => by cases h)⟩, ⟨trivial, ⟨trivial, ⟨lg_Wa_16, ⟨trivial, ⟨bv_Wa_40, ⟨trivial, ⟨trivial, ⟨trivial, ⟨trivial, ⟨trivial, trivial⟩⟩⟩⟩⟩⟩⟩⟩⟩⟩⟩⟩⟩⟩⟩⟩⟩⟩⟩⟩⟩⟩⟩⟩⟩⟩⟩⟩⟩⟩⟩⟩⟩⟩⟩⟩
def ct_Wa_lowestOf : List bt_E := [e1 (.iconst 0) 1 0, e0 (.istore_n 1) 1, e0 (.iload_n 1) 1, e1 (.bipush 8) 2 8, eb (.if_icmp .ge 19) 24, e0 (.iload_n 0) 1, e0 (.iload_n 1) 1, e0 .ishr 1, e1 (.iconst 1) 1 1, e0 .iand 1, eb (.ifCond .eq 5) 18, e0 (.iload_n 1) 1, e0 .ireturn 1, e1 (.iinc 1 1) 3 1, eb (.goto (-19)) 2, e1 (.bipush (-2)) 2 (-2), e0 .ireturn 1]
theorem dt_Wa_lowestOf : bt_dec mi_Wa_lowestOf.2.1 mi_Wa_lowestOf.2.2.1 0 ct_Wa_lowestOf = true := by decide +kernel
theorem kt_Wa_lowestOf : bt_T mi_Wa_lowestOf ct_Wa_lowestOf := ⟨dt_Wa_lowestOf, ⟨trivial, ⟨trivial, ⟨trivial, ⟨trivial, ⟨trivial, ⟨trivial, ⟨trivial, ⟨trivial, ⟨trivial, ⟨trivial, ⟨trivial, ⟨trivial, ⟨trivial, ⟨trivial, ⟨trivial, ⟨trivial, ⟨trivial, trivial⟩⟩⟩⟩⟩⟩⟩⟩⟩⟩⟩⟩⟩⟩⟩⟩⟩⟩
def ct_Wa_possibleAt : List bt_E := [e0 (.aload_n 0) 1, e1 (.iconst 0) 1 0, e0 (.aload_n 0) 1, ef (.getfield 16) 4 0, em (.invokevirtual 46) 1 1 mi_Fo_all, em (.invokevirtual 65) 3 4 mi_Wa_fittingOf, e0 (.istore_n 2) 1, e1 (.iconst 1) 1 1, e0 (.istore_n 3) 1, e0 (.iload_n 3) 1, e0 (.iload_n 1) 1, eb (.if_icmp .gt 65) 82, e0 (.iload_n 3) 1, e1 (.bipush 24) 2 24, eb (.if_icmp .ge 59) 82, e1 (.iconst 0) 1 0, e0 (.istore 4) 2, e1 (.iconst 0) 1 0, e0 (.istore 5) 2, e0 (.iload 5) 2, e1 (.bipush 8) 2 8, eb (.if_icmp .ge 32) 68, e0 (.iload_n 2) 1, e0 (.iload 5) 2, e0 .ishr 1, e1 (.iconst 1) 1 1, e0 .iand 1, eb (.ifCond .eq 17) 62, e0 (.iload 4) 2, e0 (.aload_n 0) 1, ef (.getfield 16) 4 0, e0 (.iload 5) 2, em (.invokevirtual 40) 2 1 mi_Fo_around, e0 .ior 1, e0 (.istore 4) 2, e1 (.iinc 5 1) 3 1, eb (.goto (-33)) 32, e0 (.aload_n 0) 1, e0 (.iload_n 3) 1, e0 (.iload 4) 2, em (.invokevirtual 65) 3 4 mi_Wa_fittingOf, e0 (.istore_n 2) 1, e1 (.iinc 3 1) 3 1, eb (.goto (-64)) 15, e0 (.iload_n 2) 1, e0 .ireturn 1]
theorem dt_Wa_possibleAt : bt_dec mi_Wa_possibleAt.2.1 mi_Wa_possibleAt.2.2.1 0 ct_Wa_possibleAt = true := by decide +kernel
theorem kt_Wa_possibleAt : bt_T mi_Wa_possibleAt ct_Wa_possibleAt := ⟨dt_Wa_possibleAt, ⟨trivial, ⟨trivial, ⟨trivial, ⟨lg_Wa_16, ⟨bv_Wa_46, ⟨bv_Wa_65, ⟨trivial, ⟨trivial, ⟨trivial, ⟨trivial, ⟨trivial, ⟨trivial, ⟨trivial, ⟨trivial, ⟨trivial, ⟨trivial, ⟨trivial, ⟨trivial, ⟨trivial, ⟨trivial, ⟨trivial, ⟨trivial, ⟨trivial, ⟨trivial, ⟨trivial, ⟨trivial, ⟨trivial, ⟨trivial, ⟨trivial, ⟨trivial, ⟨lg_Wa_16, ⟨trivial, ⟨bv_Wa_40, ⟨trivial, ⟨trivial, ⟨trivial, ⟨trivial, ⟨trivial, ⟨trivial, ⟨trivial, ⟨bv_Wa_65, ⟨trivial, ⟨trivial, ⟨trivial, ⟨trivial, ⟨trivial, trivial⟩⟩⟩⟩⟩⟩⟩⟩⟩⟩⟩⟩⟩⟩⟩⟩⟩⟩⟩⟩⟩⟩⟩⟩⟩⟩⟩⟩⟩⟩⟩⟩⟩⟩⟩⟩⟩⟩⟩⟩⟩⟩⟩⟩⟩⟩⟩
def ct_Wa_fittingOf : List bt_E := [e1 (.iconst 0) 1 0, e0 (.istore_n 3) 1, e1 (.iconst 0) 1 0, e0 (.istore 4) 2, e0 (.iload 4) 2, e1 (.bipush 8) 2 8, eb (.if_icmp .ge 35) 44, e0 (.iload_n 2) 1, e0 (.iload 4) 2, e0 .ishr 1, e1 (.iconst 1) 1 1, e0 .iand 1, eb (.ifCond .eq 20) 38, e0 (.aload_n 0) 1, e0 (.iload_n 1) 1, e0 (.iload 4) 2, em (.invokevirtual 50) 3 4 mi_Wa_onwardAt, eb (.ifCond .le 10) 38, e0 (.iload_n 3) 1, e1 (.iconst 1) 1 1, e0 (.iload 4) 2, e0 .ishl 1, e0 .ior 1, e0 (.istore_n 3) 1, e1 (.iinc 4 1) 3 1, eb (.goto (-36)) 5, e0 (.iload_n 3) 1, e0 .ireturn 1]
theorem dt_Wa_fittingOf : bt_dec mi_Wa_fittingOf.2.1 mi_Wa_fittingOf.2.2.1 0 ct_Wa_fittingOf = true := by decide +kernel
theorem kt_Wa_fittingOf : bt_T mi_Wa_fittingOf ct_Wa_fittingOf := ⟨dt_Wa_fittingOf, ⟨trivial, ⟨trivial, ⟨trivial, ⟨trivial, ⟨trivial, ⟨trivial, ⟨trivial, ⟨trivial, ⟨trivial, ⟨trivial, ⟨trivial, ⟨trivial, ⟨trivial, ⟨trivial, ⟨trivial, ⟨trivial, ⟨bv_Wa_50, ⟨trivial, ⟨trivial, ⟨trivial, ⟨trivial, ⟨trivial, ⟨trivial, ⟨trivial, ⟨trivial, ⟨trivial, ⟨trivial, ⟨trivial, trivial⟩⟩⟩⟩⟩⟩⟩⟩⟩⟩⟩⟩⟩⟩⟩⟩⟩⟩⟩⟩⟩⟩⟩⟩⟩⟩⟩⟩⟩
def ct_Wa_measure : List bt_E := [e0 (.iload 4) 2, e1 (.bipush 23) 2 23, em (.invokestatic 53) 2 100 mi_JM_min, e0 (.istore 5) 2, e0 (.iload 5) 2, e0 (.iload_n 3) 1, eb (.if_icmp .lt 132) 144, e0 (.iload 5) 2, eb (.ifCond .lt 127) 144, e1 (.iconst 0) 1 0, e0 (.istore 6) 2, e0 (.iload 6) 2, e0 (.aload_n 0) 1, ef (.getfield 16) 4 0, em (.invokevirtual 26) 1 1 mi_Fo_size, eb (.if_icmp .ge 106) 138, e0 (.iload 6) 2, e0 (.iload_n 2) 1, eb (.if_icmp .ne 7) 45, e1 (.iconst 0) 1 0, eb (.goto 6) 48, e1 (.sipush 1000) 3 1000, e0 (.istore 7) 2, e0 (.iload 5) 2, e0 (.iload 4) 2, eb (.if_icmp .ge 30) 84, e0 (.aload_n 0) 1, e0 (.iload 5) 2, e1 (.iconst 1) 1 1, e0 .iadd 1, e0 (.aload_n 0) 1, e0 (.iload 5) 2, e1 (.iconst 1) 1 1, e0 .iadd 1, e0 (.aload_n 0) 1, ef (.getfield 16) 4 0, e0 (.iload 6) 2, em (.invokevirtual 40) 2 1 mi_Fo_around, em (.invokevirtual 71) 3 4 mi_Wa_quietest, em (.invokevirtual 50) 3 4 mi_Wa_onwardAt, e0 (.istore 7) 2, e0 (.aload_n 1) 1, e0 (.iload 6) 2, e0 (.iload 5) 2, em (.invokevirtual 31) 3 3 mi_So_at, e1 (.iconst (-1)) 1 (-1), eb (.if_icmp .ne 7) 100, e1 (.iconst 0) 1 0, eb (.goto 4) 101, e1 (.iconst 1) 1 1, e0 (.istore 8) 2, e0 (.aload_n 0) 1, ef (.getfield 11) 4 1, e0 (.iload 5) 2, e0 .aaload 1, e0 (.iload 6) 2, e0 (.iload 7) 2, e1 (.sipush 1000) 3 1000, eb (.if_icmp .ne 9) 126, e1 (.sipush 1000) 3 1000, eb (.goto 8) 131, e0 (.iload 7) 2, e0 (.iload 8) 2, e0 .iadd 1, e0 .iastore 1, e1 (.iinc 6 1) 3 1, eb (.goto (-112)) 23, e1 (.iinc 5 (-1)) 3 (-1), eb (.goto (-132)) 9, e0 .return_ 1]
theorem dt_Wa_measure : bt_dec mi_Wa_measure.2.1 mi_Wa_measure.2.2.1 0 ct_Wa_measure = true := by decide +kernel
theorem kt_Wa_measure : bt_T mi_Wa_measure ct_Wa_measure := ⟨dt_Wa_measure, ⟨trivial, ⟨trivial, ⟨⟨fun _ => bs_Wa_53, (fun h => by cases h)⟩, ⟨trivial, ⟨trivial, ⟨trivial, ⟨trivial, ⟨trivial, ⟨trivial, ⟨trivial, ⟨trivial, ⟨trivial, ⟨trivial, ⟨lg_Wa_16, ⟨bv_Wa_26, ⟨trivial, ⟨trivial, ⟨trivial, ⟨trivial, ⟨trivial, ⟨trivial, ⟨trivial, ⟨trivial, ⟨trivial, ⟨trivial, ⟨trivial, ⟨trivial, ⟨trivial, ⟨trivial, ⟨trivial, ⟨trivial, ⟨trivial, ⟨trivial, ⟨trivial, ⟨trivial, ⟨lg_Wa_16, ⟨trivial, ⟨bv_Wa_40, ⟨bv_Wa_71, ⟨bv_Wa_50, ⟨trivial, ⟨trivial, ⟨trivial, ⟨trivial, ⟨bv_Wa_31, ⟨trivial, ⟨trivial, ⟨trivial, ⟨trivial, ⟨trivial, ⟨trivial, ⟨trivial, ⟨lg_Wa_11, ⟨trivial, ⟨trivial, ⟨trivial, ⟨trivial, ⟨trivial, ⟨trivial, ⟨trivial, ⟨trivial, ⟨trivial, ⟨trivial, ⟨trivial, ⟨trivial, ⟨trivial, ⟨trivial, ⟨trivial, ⟨trivial, ⟨trivial, trivial⟩⟩⟩⟩⟩⟩⟩⟩⟩⟩⟩⟩⟩⟩⟩⟩⟩⟩⟩⟩⟩⟩⟩⟩⟩⟩⟩⟩⟩⟩⟩⟩⟩⟩⟩⟩⟩⟩⟩⟩⟩⟩⟩⟩⟩⟩⟩⟩⟩⟩⟩⟩⟩⟩⟩⟩⟩⟩⟩⟩⟩⟩⟩⟩⟩⟩⟩⟩⟩⟩⟩
def ct_Wa_quietest : List bt_E := [e1 (.iconst (-1)) 1 (-1), e0 (.istore_n 3) 1, e1 (.iconst 0) 1 0, e0 (.istore 4) 2, e0 (.iload 4) 2, e1 (.bipush 8) 2 8, eb (.if_icmp .ge 53) 62, e0 (.iload_n 2) 1, e0 (.iload 4) 2, e0 .ishr 1, e1 (.iconst 1) 1 1, e0 .iand 1, eb (.ifCond .eq 7) 25, e1 (.iconst 1) 1 1, eb (.goto 4) 26, e1 (.iconst 0) 1 0, e0 (.istore 5) 2, e0 (.iload 5) 2, eb (.ifCond .eq 26) 56, e0 (.iload_n 3) 1, eb (.ifCond .lt 19) 53, e0 (.aload_n 0) 1, e0 (.iload_n 1) 1, e0 (.iload 4) 2, em (.invokevirtual 50) 3 4 mi_Wa_onwardAt, e0 (.aload_n 0) 1, e0 (.iload_n 1) 1, e0 (.iload_n 3) 1, em (.invokevirtual 50) 3 4 mi_Wa_onwardAt, eb (.if_icmp .ge 6) 56, e0 (.iload 4) 2, e0 (.istore_n 3) 1, e1 (.iinc 4 1) 3 1, eb (.goto (-54)) 5, e0 (.iload_n 3) 1, e0 .ireturn 1]
theorem dt_Wa_quietest : bt_dec mi_Wa_quietest.2.1 mi_Wa_quietest.2.2.1 0 ct_Wa_quietest = true := by decide +kernel
theorem kt_Wa_quietest : bt_T mi_Wa_quietest ct_Wa_quietest := ⟨dt_Wa_quietest, ⟨trivial, ⟨trivial, ⟨trivial, ⟨trivial, ⟨trivial, ⟨trivial, ⟨trivial, ⟨trivial, ⟨trivial, ⟨trivial, ⟨trivial, ⟨trivial, ⟨trivial, ⟨trivial, ⟨trivial, ⟨trivial, ⟨trivial, ⟨trivial, ⟨trivial, ⟨trivial, ⟨trivial, ⟨trivial, ⟨trivial, ⟨trivial, ⟨bv_Wa_50, ⟨trivial, ⟨trivial, ⟨trivial, ⟨bv_Wa_50, ⟨trivial, ⟨trivial, ⟨trivial, ⟨trivial, ⟨trivial, ⟨trivial, ⟨trivial, trivial⟩⟩⟩⟩⟩⟩⟩⟩⟩⟩⟩⟩⟩⟩⟩⟩⟩⟩⟩⟩⟩⟩⟩⟩⟩⟩⟩⟩⟩⟩⟩⟩⟩⟩⟩⟩⟩
def ct_Wa_fewestFrom : List bt_E := [e0 (.aload_n 0) 1, e0 (.iload_n 2) 1, e0 (.iload_n 1) 1, em (.invokevirtual 50) 3 4 mi_Wa_onwardAt, e0 (.istore_n 3) 1, e0 (.iload_n 3) 1, e1 (.sipush 1000) 3 1000, eb (.if_icmp .ne 8) 19, e1 (.bipush (-2)) 2 (-2), eb (.goto 4) 20, e0 (.iload_n 3) 1, e0 .ireturn 1]
theorem dt_Wa_fewestFrom : bt_dec mi_Wa_fewestFrom.2.1 mi_Wa_fewestFrom.2.2.1 0 ct_Wa_fewestFrom = true := by decide +kernel
theorem kt_Wa_fewestFrom : bt_T mi_Wa_fewestFrom ct_Wa_fewestFrom := ⟨dt_Wa_fewestFrom, ⟨trivial, ⟨trivial, ⟨trivial, ⟨bv_Wa_50, ⟨trivial, ⟨trivial, ⟨trivial, ⟨trivial, ⟨trivial, ⟨trivial, ⟨trivial, ⟨trivial, trivial⟩⟩⟩⟩⟩⟩⟩⟩⟩⟩⟩⟩⟩
def ct_Wa_quietAt : List bt_E := [e0 (.iload_n 1) 1, e0 (.istore 4) 2, e0 (.iload_n 2) 1, e1 (.iconst 1) 1 1, e0 .iadd 1, e0 (.istore 5) 2, e0 (.iload 5) 2, e0 (.iload_n 3) 1, eb (.if_icmp .gt 33) 44, e0 (.iload 5) 2, e1 (.bipush 24) 2 24, eb (.if_icmp .ge 26) 44, e0 (.aload_n 0) 1, e0 (.iload 5) 2, e0 (.aload_n 0) 1, ef (.getfield 16) 4 0, e0 (.iload 4) 2, em (.invokevirtual 40) 2 1 mi_Fo_around, em (.invokevirtual 71) 3 4 mi_Wa_quietest, e0 (.istore 4) 2, e1 (.iinc 5 1) 3 1, eb (.goto (-33)) 8, e0 (.iload 4) 2, e0 .ireturn 1]
theorem dt_Wa_quietAt : bt_dec mi_Wa_quietAt.2.1 mi_Wa_quietAt.2.2.1 0 ct_Wa_quietAt = true := by decide +kernel
theorem kt_Wa_quietAt : bt_T mi_Wa_quietAt ct_Wa_quietAt := ⟨dt_Wa_quietAt, ⟨trivial, ⟨trivial, ⟨trivial, ⟨trivial, ⟨trivial, ⟨trivial, ⟨trivial, ⟨trivial, ⟨trivial, ⟨trivial, ⟨trivial, ⟨trivial, ⟨trivial, ⟨trivial, ⟨trivial, ⟨lg_Wa_16, ⟨trivial, ⟨bv_Wa_40, ⟨bv_Wa_71, ⟨trivial, ⟨trivial, ⟨trivial, ⟨trivial, ⟨trivial, trivial⟩⟩⟩⟩⟩⟩⟩⟩⟩⟩⟩⟩⟩⟩⟩⟩⟩⟩⟩⟩⟩⟩⟩⟩⟩
def ct_Ch_revertible : List bt_E := [e0 (.aload_n 0) 1, ef (.getfield 24) 5 4, e0 .ireturn 1]
theorem dt_Ch_revertible : bt_dec mi_Ch_revertible.2.1 mi_Ch_revertible.2.2.1 0 ct_Ch_revertible = true := by decide +kernel
theorem kt_Ch_revertible : bt_T mi_Ch_revertible ct_Ch_revertible := ⟨dt_Ch_revertible, ⟨trivial, ⟨lg_Ch_24, ⟨trivial, trivial⟩⟩⟩⟩
def ct_Ch_add : List bt_E := [e0 (.aload_n 0) 1, ef (.getfield 24) 5 4, e1 (.bipush 40) 2 40, eb (.if_icmp .lt 7) 13, e0 (.aload_n 0) 1, em (.invokevirtual 28) 1 5 mi_Ch_dropOldest, e0 (.aload_n 0) 1, ef (.getfield 11) 5 0, e0 (.aload_n 0) 1, ef (.getfield 24) 5 4, e0 (.iload_n 1) 1, e0 .iastore 1, e0 (.aload_n 0) 1, ef (.getfield 15) 5 1, e0 (.aload_n 0) 1, ef (.getfield 24) 5 4, e0 (.iload_n 2) 1, e0 .iastore 1, e0 (.aload_n 0) 1, ef (.getfield 18) 5 2, e0 (.aload_n 0) 1, ef (.getfield 24) 5 4, e0 (.iload_n 3) 1, e0 .iastore 1, e0 (.aload_n 0) 1, ef (.getfield 21) 5 3, e0 (.aload_n 0) 1, ef (.getfield 24) 5 4, e0 (.iload 4) 2, e0 .iastore 1, e0 (.aload_n 0) 1, e0 .dup 1, ef (.getfield 24) 5 4, e1 (.iconst 1) 1 1, e0 .iadd 1, ef (.putfield 24) 5 4, e0 (.aload_n 0) 1, e0 (.aload_n 0) 1, ef (.getfield 24) 5 4, ef (.putfield 31) 5 5, e0 .return_ 1]
theorem dt_Ch_add : bt_dec mi_Ch_add.2.1 mi_Ch_add.2.2.1 0 ct_Ch_add = true := by decide +kernel
theorem kt_Ch_add : bt_T mi_Ch_add ct_Ch_add := ⟨dt_Ch_add, ⟨trivial, ⟨lg_Ch_24, ⟨trivial, ⟨trivial, ⟨trivial, ⟨bv_Ch_28, ⟨trivial, ⟨lg_Ch_11, ⟨trivial, ⟨lg_Ch_24, ⟨trivial, ⟨trivial, ⟨trivial, ⟨lg_Ch_15, ⟨trivial, ⟨lg_Ch_24, ⟨trivial, ⟨trivial, ⟨trivial, ⟨lg_Ch_18, ⟨trivial, ⟨lg_Ch_24, ⟨trivial, ⟨trivial, ⟨trivial, ⟨lg_Ch_21, ⟨trivial, ⟨lg_Ch_24, ⟨trivial, ⟨trivial, ⟨trivial, ⟨trivial, ⟨lg_Ch_24, ⟨trivial, ⟨trivial, ⟨lp_Ch_24, ⟨trivial, ⟨trivial, ⟨lg_Ch_24, ⟨lp_Ch_31, ⟨trivial, trivial⟩⟩⟩⟩⟩⟩⟩⟩⟩⟩⟩⟩⟩⟩⟩⟩⟩⟩⟩⟩⟩⟩⟩⟩⟩⟩⟩⟩⟩⟩⟩⟩⟩⟩⟩⟩⟩⟩⟩⟩⟩⟩
def ct_Ch_dropOldest : List bt_E := [e0 (.aload_n 0) 1, ef (.getfield 11) 5 0, e1 (.iconst 1) 1 1, e0 (.aload_n 0) 1, ef (.getfield 11) 5 0, e1 (.iconst 0) 1 0, e1 (.bipush 39) 2 39, em (.invokestatic 34) 5 101 bt_m0, e0 (.aload_n 0) 1, ef (.getfield 15) 5 1, e1 (.iconst 1) 1 1, e0 (.aload_n 0) 1, ef (.getfield 15) 5 1, e1 (.iconst 0) 1 0, e1 (.bipush 39) 2 39, em (.invokestatic 34) 5 101 bt_m0, e0 (.aload_n 0) 1, ef (.getfield 18) 5 2, e1 (.iconst 1) 1 1, e0 (.aload_n 0) 1, ef (.getfield 18) 5 2, e1 (.iconst 0) 1 0, e1 (.bipush 39) 2 39, em (.invokestatic 34) 5 101 bt_m0, e0 (.aload_n 0) 1, ef (.getfield 21) 5 3, e1 (.iconst 1) 1 1, e0 (.aload_n 0) 1, ef (.getfield 21) 5 3, e1 (.iconst 0) 1 0, e1 (.bipush 39) 2 39, em (.invokestatic 34) 5 101 bt_m0, e0 (.aload_n 0) 1, e1 (.bipush 39) 2 39, ef (.putfield 24) 5 4, e0 .return_ 1]
theorem dt_Ch_dropOldest : bt_dec mi_Ch_dropOldest.2.1 mi_Ch_dropOldest.2.2.1 0 ct_Ch_dropOldest = true := by decide +kernel
theorem kt_Ch_dropOldest : bt_T mi_Ch_dropOldest ct_Ch_dropOldest := ⟨dt_Ch_dropOldest, ⟨trivial, ⟨lg_Ch_11, ⟨trivial, ⟨trivial, ⟨lg_Ch_11, ⟨trivial, ⟨trivial, ⟨⟨(fun h => by cases h), fun _ => lc_Ch_34⟩, ⟨trivial, ⟨lg_Ch_15, ⟨trivial, ⟨trivial, ⟨lg_Ch_15, ⟨trivial, ⟨trivial, ⟨⟨(fun h => by cases h), fun _ => lc_Ch_34⟩, ⟨trivial, ⟨lg_Ch_18, ⟨trivial, ⟨trivial, ⟨lg_Ch_18, ⟨trivial, ⟨trivial, ⟨⟨(fun h => by cases h), fun _ => lc_Ch_34⟩, ⟨trivial, ⟨lg_Ch_21, ⟨trivial, ⟨trivial, ⟨lg_Ch_21, ⟨trivial, ⟨trivial, ⟨⟨(fun h => by cases h), fun _ => lc_Ch_34⟩, ⟨trivial, ⟨trivial, ⟨lp_Ch_24, ⟨trivial, trivial⟩⟩⟩⟩⟩⟩⟩⟩⟩⟩⟩⟩⟩⟩⟩⟩⟩⟩⟩⟩⟩⟩⟩⟩⟩⟩⟩⟩⟩⟩⟩⟩⟩⟩⟩⟩⟩
def ct_Ch_revert : List bt_E := [e0 (.aload_n 0) 1, ef (.getfield 24) 5 4, eb (.ifCond .gt 6) 10, e1 (.bipush (-5)) 2 (-5), e0 .ireturn 1, e0 (.aload_n 0) 1, e0 .dup 1, ef (.getfield 24) 5 4, e1 (.iconst 1) 1 1, e0 .isub 1, ef (.putfield 24) 5 4, e0 (.aload_n 1) 1, e0 (.aload_n 0) 1, ef (.getfield 11) 5 0, e0 (.aload_n 0) 1, ef (.getfield 24) 5 4, e0 .iaload 1, e0 (.aload_n 0) 1, ef (.getfield 15) 5 1, e0 (.aload_n 0) 1, ef (.getfield 24) 5 4, e0 .iaload 1, e0 (.aload_n 0) 1, ef (.getfield 18) 5 2, e0 (.aload_n 0) 1, ef (.getfield 24) 5 4, e0 .iaload 1, em (.invokevirtual 40) 4 1 mi_Fo_set, e0 (.aload_n 0) 1, ef (.getfield 24) 5 4, e0 .ireturn 1]
theorem dt_Ch_revert : bt_dec mi_Ch_revert.2.1 mi_Ch_revert.2.2.1 0 ct_Ch_revert = true := by decide +kernel
theorem kt_Ch_revert : bt_T mi_Ch_revert ct_Ch_revert := ⟨dt_Ch_revert, ⟨trivial, ⟨lg_Ch_24, ⟨trivial, ⟨trivial, ⟨trivial, ⟨trivial, ⟨trivial, ⟨lg_Ch_24, ⟨trivial, ⟨trivial, ⟨lp_Ch_24, ⟨trivial, ⟨trivial, ⟨lg_Ch_11, ⟨trivial, ⟨lg_Ch_24, ⟨trivial, ⟨trivial, ⟨lg_Ch_15, ⟨trivial, ⟨lg_Ch_24, ⟨trivial, ⟨trivial, ⟨lg_Ch_18, ⟨trivial, ⟨lg_Ch_24, ⟨trivial, ⟨bv_Ch_40, ⟨trivial, ⟨lg_Ch_24, ⟨trivial, trivial⟩⟩⟩⟩⟩⟩⟩⟩⟩⟩⟩⟩⟩⟩⟩⟩⟩⟩⟩⟩⟩⟩⟩⟩⟩⟩⟩⟩⟩⟩⟩⟩
def ct_Ch_repeat : List bt_E := [e0 (.aload_n 0) 1, ef (.getfield 24) 5 4, e0 (.aload_n 0) 1, ef (.getfield 31) 5 5, eb (.if_icmp .ge 12) 20, e0 (.aload_n 0) 1, ef (.getfield 24) 5 4, e1 (.bipush 40) 2 40, eb (.if_icmp .lt 6) 23, e1 (.bipush (-5)) 2 (-5), e0 .ireturn 1, e0 (.aload_n 1) 1, e0 (.aload_n 0) 1, ef (.getfield 11) 5 0, e0 (.aload_n 0) 1, ef (.getfield 24) 5 4, e0 .iaload 1, e0 (.aload_n 0) 1, ef (.getfield 15) 5 1, e0 (.aload_n 0) 1, ef (.getfield 24) 5 4, e0 .iaload 1, e0 (.aload_n 0) 1, ef (.getfield 21) 5 3, e0 (.aload_n 0) 1, ef (.getfield 24) 5 4, e0 .iaload 1, em (.invokevirtual 40) 4 1 mi_Fo_set, e0 (.aload_n 0) 1, e0 .dup 1, ef (.getfield 24) 5 4, e1 (.iconst 1) 1 1, e0 .iadd 1, ef (.putfield 24) 5 4, e0 (.aload_n 0) 1, ef (.getfield 31) 5 5, e0 (.aload_n 0) 1, ef (.getfield 24) 5 4, e0 .isub 1, e0 .ireturn 1]
theorem dt_Ch_repeat : bt_dec mi_Ch_repeat.2.1 mi_Ch_repeat.2.2.1 0 ct_Ch_repeat = true := by decide +kernel
theorem kt_Ch_repeat : bt_T mi_Ch_repeat ct_Ch_repeat := ⟨dt_Ch_repeat, ⟨trivial, ⟨lg_Ch_24, ⟨trivial, ⟨lg_Ch_31, ⟨trivial, ⟨trivial, ⟨lg_Ch_24, ⟨trivial, ⟨trivial, ⟨trivial, ⟨trivial, ⟨trivial, ⟨trivial, ⟨lg_Ch_11, ⟨trivial, ⟨lg_Ch_24, ⟨trivial, ⟨trivial, ⟨lg_Ch_15, ⟨trivial, ⟨lg_Ch_24, ⟨trivial, ⟨trivial, ⟨lg_Ch_21, ⟨trivial, ⟨lg_Ch_24, ⟨trivial, ⟨bv_Ch_40, ⟨trivial, ⟨trivial, ⟨lg_Ch_24, ⟨trivial, ⟨trivial, ⟨lp_Ch_24, ⟨trivial, ⟨lg_Ch_31, ⟨trivial, ⟨lg_Ch_24, ⟨trivial, ⟨trivial, trivial⟩⟩⟩⟩⟩⟩⟩⟩⟩⟩⟩⟩⟩⟩⟩⟩⟩⟩⟩⟩⟩⟩⟩⟩⟩⟩⟩⟩⟩⟩⟩⟩⟩⟩⟩⟩⟩⟩⟩⟩⟩
def ct_Im_draw : List bt_E := [e0 (.aload_n 0) 1, e1 (.iconst 1) 1 1, ef (.putfield 24) 6 4, e0 (.aload_n 0) 1, e0 (.aload_n 1) 1, em (.invokevirtual 28) 1 1 mi_Fo_size, ef (.putfield 34) 6 5, e0 (.aload_n 0) 1, e0 (.aload_n 1) 1, em (.invokevirtual 38) 1 1 mi_Fo_walked, ef (.putfield 41) 6 6, e1 (.iconst 0) 1 0, e0 (.istore_n 2) 1, e0 (.iload_n 2) 1, e1 (.bipush 8) 2 8, eb (.if_icmp .ge 56) 82, e0 (.aload_n 0) 1, ef (.getfield 9) 6 0, e0 (.iload_n 2) 1, e0 (.aload_n 1) 1, e1 (.iconst 0) 1 0, e0 (.iload_n 2) 1, em (.invokevirtual 44) 3 1 mi_Fo_get, e0 .iastore 1, e0 (.aload_n 0) 1, ef (.getfield 15) 6 1, e0 (.iload_n 2) 1, e0 (.aload_n 1) 1, e1 (.iconst 2) 1 2, e0 (.iload_n 2) 1, em (.invokevirtual 44) 3 1 mi_Fo_get, e0 .iastore 1, e0 (.aload_n 0) 1, ef (.getfield 18) 6 2, e0 (.iload_n 2) 1, e0 (.aload_n 1) 1, e1 (.iconst 3) 1 3, e0 (.iload_n 2) 1, em (.invokevirtual 44) 3 1 mi_Fo_get, e0 .iastore 1, e0 (.aload_n 0) 1, ef (.getfield 21) 6 3, e0 (.iload_n 2) 1, e0 (.aload_n 1) 1, e0 (.iload_n 2) 1, em (.invokevirtual 48) 2 1 mi_Fo_heardOf, e0 .iastore 1, e1 (.iinc 2 1) 3 1, eb (.goto (-56)) 23, e0 (.aload_n 0) 1, ef (.getfield 34) 6 5, e0 .ireturn 1]
theorem dt_Im_draw : bt_dec mi_Im_draw.2.1 mi_Im_draw.2.2.1 0 ct_Im_draw = true := by decide +kernel
theorem kt_Im_draw : bt_T mi_Im_draw ct_Im_draw := ⟨dt_Im_draw, ⟨trivial, ⟨trivial, ⟨lp_Im_24, ⟨trivial, ⟨trivial, ⟨bv_Im_28, ⟨lp_Im_34, ⟨trivial, ⟨trivial, ⟨bv_Im_38, ⟨lp_Im_41, ⟨trivial, ⟨trivial, ⟨trivial, ⟨trivial, ⟨trivial, ⟨trivial, ⟨lg_Im_9, ⟨trivial, ⟨trivial, ⟨trivial, ⟨trivial, ⟨bv_Im_44, ⟨trivial, ⟨trivial, ⟨lg_Im_15, ⟨trivial, ⟨trivial, ⟨trivial, ⟨trivial, ⟨bv_Im_44, ⟨trivial, ⟨trivial, ⟨lg_Im_18, ⟨trivial, ⟨trivial, ⟨trivial, ⟨trivial, ⟨bv_Im_44, ⟨trivial, ⟨trivial, ⟨lg_Im_21, ⟨trivial, ⟨trivial, ⟨trivial, ⟨bv_Im_48, ⟨trivial, ⟨trivial, ⟨trivial, ⟨trivial, ⟨lg_Im_34, ⟨trivial, trivial⟩⟩⟩⟩⟩⟩⟩⟩⟩⟩⟩⟩⟩⟩⟩⟩⟩⟩⟩⟩⟩⟩⟩⟩⟩⟩⟩⟩⟩⟩⟩⟩⟩⟩⟩⟩⟩⟩⟩⟩⟩⟩⟩⟩⟩⟩⟩⟩⟩⟩⟩⟩⟩
def ct_Im_lay : List bt_E := [e0 (.aload_n 0) 1, ef (.getfield 24) 6 4, eb (.ifCond .ne 6) 10, e1 (.bipush (-5)) 2 (-5), e0 .ireturn 1, e1 (.iconst 0) 1 0, e0 (.istore_n 2) 1, e0 (.iload_n 2) 1, e1 (.bipush 8) 2 8, eb (.if_icmp .ge 76) 91, e0 (.iload_n 2) 1, e0 (.aload_n 0) 1, ef (.getfield 34) 6 5, eb (.if_icmp .ge 39) 62, e0 (.aload_n 1) 1, e1 (.iconst 0) 1 0, e0 (.iload_n 2) 1, e0 (.aload_n 0) 1, ef (.getfield 9) 6 0, e0 (.iload_n 2) 1, e0 .iaload 1, em (.invokevirtual 52) 4 1 mi_Fo_set, e0 (.aload_n 1) 1, e1 (.iconst 2) 1 2, e0 (.iload_n 2) 1, e0 (.aload_n 0) 1, ef (.getfield 15) 6 1, e0 (.iload_n 2) 1, e0 .iaload 1, em (.invokevirtual 52) 4 1 mi_Fo_set, e0 (.aload_n 1) 1, e1 (.iconst 3) 1 3, e0 (.iload_n 2) 1, e0 (.aload_n 0) 1, ef (.getfield 18) 6 2, e0 (.iload_n 2) 1, e0 .iaload 1, em (.invokevirtual 52) 4 1 mi_Fo_set, e0 (.aload_n 1) 1, e0 (.iload_n 2) 1, e0 (.iload_n 2) 1, e0 (.aload_n 0) 1, ef (.getfield 34) 6 5, eb (.if_icmp .ge 12) 81, e0 (.aload_n 0) 1, ef (.getfield 21) 6 3, e0 (.iload_n 2) 1, e0 .iaload 1, eb (.goto 4) 82, e1 (.iconst 0) 1 0, em (.invokevirtual 56) 3 1 mi_Fo_setHeard, e1 (.iinc 2 1) 3 1, eb (.goto (-76)) 12, e0 (.aload_n 1) 1, e0 (.aload_n 0) 1, ef (.getfield 41) 6 6, em (.invokevirtual 60) 2 1 mi_Fo_setWalked, e0 (.aload_n 0) 1, ef (.getfield 34) 6 5, e0 .ireturn 1]
theorem dt_Im_lay : bt_dec mi_Im_lay.2.1 mi_Im_lay.2.2.1 0 ct_Im_lay = true := by decide +kernel
theorem kt_Im_lay : bt_T mi_Im_lay ct_Im_lay := ⟨dt_Im_lay, ⟨trivial, ⟨lg_Im_24, ⟨trivial, ⟨trivial, ⟨trivial, ⟨trivial, ⟨trivial, ⟨trivial, ⟨trivial, ⟨trivial, ⟨trivial, ⟨trivial, ⟨lg_Im_34, ⟨trivial, ⟨trivial, ⟨trivial, ⟨trivial, ⟨trivial, ⟨lg_Im_9, ⟨trivial, ⟨trivial, ⟨bv_Im_52, ⟨trivial, ⟨trivial, ⟨trivial, ⟨trivial, ⟨lg_Im_15, ⟨trivial, ⟨trivial, ⟨bv_Im_52, ⟨trivial, ⟨trivial, ⟨trivial, ⟨trivial, ⟨lg_Im_18, ⟨trivial, ⟨trivial, ⟨bv_Im_52, ⟨trivial, ⟨trivial, ⟨trivial, ⟨trivial, ⟨lg_Im_34, ⟨trivial, ⟨trivial, ⟨lg_Im_21, ⟨trivial, ⟨trivial, ⟨trivial, ⟨trivial, ⟨bv_Im_56, ⟨trivial, ⟨trivial, ⟨trivial, ⟨trivial, ⟨lg_Im_41, ⟨bv_Im_60, ⟨trivial, ⟨lg_Im_34, ⟨trivial, trivial⟩⟩⟩⟩⟩⟩⟩⟩⟩⟩⟩⟩⟩⟩⟩⟩⟩⟩⟩⟩⟩⟩⟩⟩⟩⟩⟩⟩⟩⟩⟩⟩⟩⟩⟩⟩⟩⟩⟩⟩⟩⟩⟩⟩⟩⟩⟩⟩⟩⟩⟩⟩⟩⟩⟩⟩⟩⟩⟩⟩⟩
def ct_Bo_size : List bt_E := [e0 (.aload_n 0) 1, ef (.getfield 18) 7 2, e0 .ireturn 1]
theorem dt_Bo_size : bt_dec mi_Bo_size.2.1 mi_Bo_size.2.2.1 0 ct_Bo_size = true := by decide +kernel
theorem kt_Bo_size : bt_T mi_Bo_size ct_Bo_size := ⟨dt_Bo_size, ⟨trivial, ⟨lg_Bo_18, ⟨trivial, trivial⟩⟩⟩⟩
def ct_Bo_latestRuns : List bt_E := [e0 (.aload_n 0) 1, ef (.getfield 22) 7 3, e0 .ireturn 1]
theorem dt_Bo_latestRuns : bt_dec mi_Bo_latestRuns.2.1 mi_Bo_latestRuns.2.2.1 0 ct_Bo_latestRuns = true := by decide +kernel
theorem kt_Bo_latestRuns : bt_T mi_Bo_latestRuns ct_Bo_latestRuns := ⟨dt_Bo_latestRuns, ⟨trivial, ⟨lg_Bo_22, ⟨trivial, trivial⟩⟩⟩⟩
def ct_Bo_isKind : List bt_E := [e0 (.iload_n 1) 1, eb (.ifCond .lt 13) 14, e0 (.iload_n 1) 1, e1 (.bipush 8) 2 8, eb (.if_icmp .ge 7) 14, e1 (.iconst 1) 1 1, eb (.goto 4) 15, e1 (.iconst 0) 1 0, e0 .ireturn 1]
theorem dt_Bo_isKind : bt_dec mi_Bo_isKind.2.1 mi_Bo_isKind.2.2.1 0 ct_Bo_isKind = true := by decide +kernel
theorem kt_Bo_isKind : bt_T mi_Bo_isKind ct_Bo_isKind := ⟨dt_Bo_isKind, ⟨trivial, ⟨trivial, ⟨trivial, ⟨trivial, ⟨trivial, ⟨trivial, ⟨trivial, ⟨trivial, ⟨trivial, trivial⟩⟩⟩⟩⟩⟩⟩⟩⟩⟩
def ct_Bo_kindOf : List bt_E := [e0 (.iload_n 1) 1, eb (.ifCond .lt 20) 21, e0 (.iload_n 1) 1, e0 (.aload_n 0) 1, ef (.getfield 18) 7 2, eb (.if_icmp .ge 12) 21, e0 (.aload_n 0) 1, ef (.getfield 11) 7 0, e0 (.iload_n 1) 1, e0 .iaload 1, eb (.goto 4) 22, e1 (.iconst (-1)) 1 (-1), e0 .ireturn 1]
theorem dt_Bo_kindOf : bt_dec mi_Bo_kindOf.2.1 mi_Bo_kindOf.2.2.1 0 ct_Bo_kindOf = true := by decide +kernel
theorem kt_Bo_kindOf : bt_T mi_Bo_kindOf ct_Bo_kindOf := ⟨dt_Bo_kindOf, ⟨trivial, ⟨trivial, ⟨trivial, ⟨trivial, ⟨lg_Bo_18, ⟨trivial, ⟨trivial, ⟨lg_Bo_11, ⟨trivial, ⟨trivial, ⟨trivial, ⟨trivial, ⟨trivial, trivial⟩⟩⟩⟩⟩⟩⟩⟩⟩⟩⟩⟩⟩⟩
def ct_Bo_isUnder : List bt_E := [e0 (.iload_n 1) 1, e0 (.istore_n 3) 1, e1 (.iconst 0) 1 0, e0 (.istore 4) 2, e0 (.iload 4) 2, e1 (.bipush 8) 2 8, eb (.if_icmp .ge 30) 39, e0 (.aload_n 0) 1, e0 (.iload_n 3) 1, em (.invokevirtual 25) 2 7 mi_Bo_isKind, eb (.ifCond .eq 22) 39, e0 (.iload_n 3) 1, e0 (.iload_n 2) 1, eb (.if_icmp .ne 5) 27, e1 (.iconst 1) 1 1, e0 .ireturn 1, ef (.getstatic 29) 1 0, e0 (.iload_n 3) 1, e0 .iaload 1, e0 (.istore_n 3) 1, e1 (.iinc 4 1) 3 1, eb (.goto (-31)) 5, e1 (.iconst 0) 1 0, e0 .ireturn 1]
theorem dt_Bo_isUnder : bt_dec mi_Bo_isUnder.2.1 mi_Bo_isUnder.2.2.1 0 ct_Bo_isUnder = true := by decide +kernel
theorem kt_Bo_isUnder : bt_T mi_Bo_isUnder ct_Bo_isUnder := ⟨dt_Bo_isUnder, ⟨trivial, ⟨trivial, ⟨trivial, ⟨trivial, ⟨trivial, ⟨trivial, ⟨trivial, ⟨trivial, ⟨trivial, ⟨bv_Bo_25, ⟨trivial, ⟨trivial, ⟨trivial, ⟨trivial, ⟨trivial, ⟨trivial, ⟨ls_Bo_29, ⟨trivial, ⟨trivial, ⟨trivial, ⟨trivial, ⟨trivial, ⟨trivial, ⟨trivial, trivial⟩⟩⟩⟩⟩⟩⟩⟩⟩⟩⟩⟩⟩⟩⟩⟩⟩⟩⟩⟩⟩⟩⟩⟩⟩
def ct_Bo_add : List bt_E := [e0 (.aload_n 0) 1, e0 (.iload_n 1) 1, em (.invokevirtual 25) 2 7 mi_Bo_isKind, eb (.ifCond .ne 5) 10, e1 (.iconst (-1)) 1 (-1), e0 .ireturn 1, e0 (.aload_n 0) 1, ef (.getfield 18) 7 2, e1 (.bipush 50) 2 50, eb (.if_icmp .lt 6) 22, e1 (.bipush (-3)) 2 (-3), e0 .ireturn 1, e0 (.aload_n 0) 1, ef (.getfield 11) 7 0, e0 (.aload_n 0) 1, ef (.getfield 18) 7 2, e0 (.iload_n 1) 1, e0 .iastore 1, e0 (.aload_n 0) 1, e0 .dup 1, ef (.getfield 18) 7 2, e1 (.iconst 1) 1 1, e0 .iadd 1, ef (.putfield 18) 7 2, e0 (.aload_n 0) 1, ef (.getfield 18) 7 2, e1 (.iconst 1) 1 1, e0 .isub 1, e0 .ireturn 1]
theorem dt_Bo_add : bt_dec mi_Bo_add.2.1 mi_Bo_add.2.2.1 0 ct_Bo_add = true := by decide +kernel
theorem kt_Bo_add : bt_T mi_Bo_add ct_Bo_add := ⟨dt_Bo_add, ⟨trivial, ⟨trivial, ⟨bv_Bo_25, ⟨trivial, ⟨trivial, ⟨trivial, ⟨trivial, ⟨lg_Bo_18, ⟨trivial, ⟨trivial, ⟨trivial, ⟨trivial, ⟨trivial, ⟨lg_Bo_11, ⟨trivial, ⟨lg_Bo_18, ⟨trivial, ⟨trivial, ⟨trivial, ⟨trivial, ⟨lg_Bo_18, ⟨trivial, ⟨trivial, ⟨lp_Bo_18, ⟨trivial, ⟨lg_Bo_18, ⟨trivial, ⟨trivial, ⟨trivial, trivial⟩⟩⟩⟩⟩⟩⟩⟩⟩⟩⟩⟩⟩⟩⟩⟩⟩⟩⟩⟩⟩⟩⟩⟩⟩⟩⟩⟩⟩⟩
def ct_Bo_traced : List bt_E := [e0 (.iload_n 1) 1, eb (.ifCond .lt 26) 27, e0 (.iload_n 1) 1, e0 (.aload_n 0) 1, ef (.getfield 22) 7 3, eb (.if_icmp .ge 18) 27, e0 (.iload_n 1) 1, e1 (.bipush 24) 2 24, eb (.if_icmp .ge 12) 27, e0 (.aload_n 0) 1, ef (.getfield 15) 7 1, e0 (.iload_n 1) 1, e0 .iaload 1, eb (.goto 4) 28, e1 (.iconst (-1)) 1 (-1), e0 .ireturn 1]
theorem dt_Bo_traced : bt_dec mi_Bo_traced.2.1 mi_Bo_traced.2.2.1 0 ct_Bo_traced = true := by decide +kernel
theorem kt_Bo_traced : bt_T mi_Bo_traced ct_Bo_traced := ⟨dt_Bo_traced, ⟨trivial, ⟨trivial, ⟨trivial, ⟨trivial, ⟨lg_Bo_22, ⟨trivial, ⟨trivial, ⟨trivial, ⟨trivial, ⟨trivial, ⟨lg_Bo_15, ⟨trivial, ⟨trivial, ⟨trivial, ⟨trivial, ⟨trivial, trivial⟩⟩⟩⟩⟩⟩⟩⟩⟩⟩⟩⟩⟩⟩⟩⟩⟩
def ct_Bo_perform : List bt_E := [e0 (.aload_n 0) 1, e1 (.iconst 0) 1 0, ef (.putfield 22) 7 3, e0 (.aload_n 0) 1, e0 (.iload_n 1) 1, em (.invokevirtual 32) 2 7 mi_Bo_kindOf, eb (.ifCond .lt 12) 22, e0 (.iload_n 2) 1, eb (.ifCond .lt 8) 22, e0 (.iload_n 2) 1, e1 (.iconst 4) 1 4, eb (.if_icmp .lt 5) 24, e1 (.iconst 0) 1 0, e0 .ireturn 1, e0 (.aload_n 0) 1, e0 (.iload_n 1) 1, ef (.putfield 36) 7 4, e0 (.aload_n 0) 1, e0 (.iload_n 2) 1, e0 (.iload_n 3) 1, e1 (.iconst 0) 1 0, em (.invokevirtual 39) 4 7 mi_Bo_runOwn, e0 .ireturn 1]
theorem dt_Bo_perform : bt_dec mi_Bo_perform.2.1 mi_Bo_perform.2.2.1 0 ct_Bo_perform = true := by decide +kernel
theorem kt_Bo_perform : bt_T mi_Bo_perform ct_Bo_perform := ⟨dt_Bo_perform, ⟨trivial, ⟨trivial, ⟨lp_Bo_22, ⟨trivial, ⟨trivial, ⟨bv_Bo_32, ⟨trivial, ⟨trivial, ⟨trivial, ⟨trivial, ⟨trivial, ⟨trivial, ⟨trivial, ⟨trivial, ⟨trivial, ⟨trivial, ⟨lp_Bo_36, ⟨trivial, ⟨trivial, ⟨trivial, ⟨trivial, ⟨bv_Bo_39, ⟨trivial, trivial⟩⟩⟩⟩⟩⟩⟩⟩⟩⟩⟩⟩⟩⟩⟩⟩⟩⟩⟩⟩⟩⟩⟩⟩
def ct_Bo_note : List bt_E := [e0 (.aload_n 0) 1, ef (.getfield 22) 7 3, e1 (.bipush 24) 2 24, eb (.if_icmp .ge 13) 19, e0 (.aload_n 0) 1, ef (.getfield 15) 7 1, e0 (.aload_n 0) 1, ef (.getfield 22) 7 3, e0 (.iload_n 1) 1, e0 .iastore 1, e0 (.aload_n 0) 1, e0 .dup 1, ef (.getfield 22) 7 3, e1 (.iconst 1) 1 1, e0 .iadd 1, ef (.putfield 22) 7 3, e0 .return_ 1]
theorem dt_Bo_note : bt_dec mi_Bo_note.2.1 mi_Bo_note.2.2.1 0 ct_Bo_note = true := by decide +kernel
theorem kt_Bo_note : bt_T mi_Bo_note ct_Bo_note := ⟨dt_Bo_note, ⟨trivial, ⟨lg_Bo_22, ⟨trivial, ⟨trivial, ⟨trivial, ⟨lg_Bo_15, ⟨trivial, ⟨lg_Bo_22, ⟨trivial, ⟨trivial, ⟨trivial, ⟨trivial, ⟨lg_Bo_22, ⟨trivial, ⟨trivial, ⟨lp_Bo_22, ⟨trivial, trivial⟩⟩⟩⟩⟩⟩⟩⟩⟩⟩⟩⟩⟩⟩⟩⟩⟩⟩
def ct_Bo_runOwn : List bt_E := [e0 (.aload_n 0) 1, e0 (.aload_n 0) 1, e0 (.aload_n 0) 1, ef (.getfield 36) 7 4, em (.invokevirtual 32) 2 7 mi_Bo_kindOf, e0 (.iload_n 1) 1, e0 (.iload_n 2) 1, e0 (.iload_n 3) 1, em (.invokevirtual 43) 5 7 mi_Bo_runFrom, e0 .ireturn 1]
theorem dt_Bo_runOwn : bt_dec mi_Bo_runOwn.2.1 mi_Bo_runOwn.2.2.1 0 ct_Bo_runOwn = true := by decide +kernel
theorem kt_Bo_runOwn : bt_T mi_Bo_runOwn ct_Bo_runOwn := ⟨dt_Bo_runOwn, ⟨trivial, ⟨trivial, ⟨trivial, ⟨lg_Bo_36, ⟨bv_Bo_32, ⟨trivial, ⟨trivial, ⟨trivial, ⟨bv_Bo_43, ⟨trivial, trivial⟩⟩⟩⟩⟩⟩⟩⟩⟩⟩⟩
def ct_Bo_runAbove : List bt_E := [e0 (.aload_n 0) 1, e0 (.aload_n 0) 1, e0 (.iload_n 1) 1, em (.invokevirtual 25) 2 7 mi_Bo_isKind, eb (.ifCond .eq 11) 17, ef (.getstatic 29) 1 0, e0 (.iload_n 1) 1, e0 .iaload 1, eb (.goto 4) 18, e1 (.iconst (-1)) 1 (-1), e0 (.iload_n 2) 1, e0 (.iload_n 3) 1, e0 (.iload 4) 2, em (.invokevirtual 43) 5 7 mi_Bo_runFrom, e0 .ireturn 1]
theorem dt_Bo_runAbove : bt_dec mi_Bo_runAbove.2.1 mi_Bo_runAbove.2.2.1 0 ct_Bo_runAbove = true := by decide +kernel
theorem kt_Bo_runAbove : bt_T mi_Bo_runAbove ct_Bo_runAbove := ⟨dt_Bo_runAbove, ⟨trivial, ⟨trivial, ⟨trivial, ⟨bv_Bo_25, ⟨trivial, ⟨ls_Bo_29, ⟨trivial, ⟨trivial, ⟨trivial, ⟨trivial, ⟨trivial, ⟨trivial, ⟨trivial, ⟨bv_Bo_43, ⟨trivial, trivial⟩⟩⟩⟩⟩⟩⟩⟩⟩⟩⟩⟩⟩⟩⟩⟩
def ct_Bo_runFrom : List bt_E := [e0 (.iload_n 1) 1, e0 (.istore 5) 2, e1 (.iconst 0) 1 0, e0 (.istore 6) 2, e0 (.iload 6) 2, e1 (.bipush 8) 2 8, eb (.if_icmp .ge 64) 74, e0 (.aload_n 0) 1, e0 (.iload 5) 2, em (.invokevirtual 25) 2 7 mi_Bo_isKind, eb (.ifCond .eq 55) 74, ef (.getstatic 47) 2 0, e0 (.iload 5) 2, e1 (.iconst 4) 1 4, e0 .imul 1, e0 (.iload_n 2) 1, e0 .iadd 1, e0 .iaload 1, e0 (.istore 7) 2, e0 (.iload 7) 2, eb (.ifCond .eq 24) 60, e0 (.iload 4) 2, e1 (.bipush 40) 2 40, eb (.if_icmp .ge 17) 60, e0 (.aload_n 0) 1, e0 (.iload 7) 2, e0 (.iload 5) 2, e0 (.iload_n 3) 1, e0 (.iload 4) 2, e1 (.iconst 1) 1 1, e0 .iadd 1, em (.invokevirtual 50) 5 7 mi_Bo_runBody, e0 .ireturn 1, ef (.getstatic 29) 1 0, e0 (.iload 5) 2, e0 .iaload 1, e0 (.istore 5) 2, e1 (.iinc 6 1) 3 1, eb (.goto (-65)) 6, e1 (.iconst 0) 1 0, e0 .ireturn 1]
theorem dt_Bo_runFrom : bt_dec mi_Bo_runFrom.2.1 mi_Bo_runFrom.2.2.1 0 ct_Bo_runFrom = true := by decide +kernel
theorem kt_Bo_runFrom : bt_T mi_Bo_runFrom ct_Bo_runFrom := ⟨dt_Bo_runFrom, ⟨trivial, ⟨trivial, ⟨trivial, ⟨trivial, ⟨trivial, ⟨trivial, ⟨trivial, ⟨trivial, ⟨trivial, ⟨bv_Bo_25, ⟨trivial, ⟨ls_Bo_47, ⟨trivial, ⟨trivial, ⟨trivial, ⟨trivial, ⟨trivial, ⟨trivial, ⟨trivial, ⟨trivial, ⟨trivial, ⟨trivial, ⟨trivial, ⟨trivial, ⟨trivial, ⟨trivial, ⟨trivial, ⟨trivial, ⟨trivial, ⟨trivial, ⟨trivial, ⟨bv_Bo_50, ⟨trivial, ⟨ls_Bo_29, ⟨trivial, ⟨trivial, ⟨trivial, ⟨trivial, ⟨trivial, ⟨trivial, ⟨trivial, trivial⟩⟩⟩⟩⟩⟩⟩⟩⟩⟩⟩⟩⟩⟩⟩⟩⟩⟩⟩⟩⟩⟩⟩⟩⟩⟩⟩⟩⟩⟩⟩⟩⟩⟩⟩⟩⟩⟩⟩⟩⟩⟩
def ct_Bo_runBody : List bt_E := [e0 (.aload_n 0) 1, e0 (.iload_n 1) 1, em (.invokevirtual 53) 2 7 mi_Bo_note, e0 (.iload_n 1) 1, ew (.lookupswitch 298 #[(1, 122), (2, 147), (10, 129), (11, 140), (20, 165), (30, 177), (40, 188), (41, 200), (50, 212), (60, 224), (61, 243), (70, 255), (80, 267), (81, 286)]) 122 304 [(1, 128), (2, 153), (10, 135), (11, 146), (20, 171), (30, 183), (40, 194), (41, 206), (50, 218), (60, 230), (61, 249), (70, 261), (80, 273), (81, 292)], e0 (.iload_n 3) 1, e0 (.aload_n 0) 1, ef (.getfield 36) 7 4, e0 .iadd 1, e0 .ireturn 1, e0 (.aload_n 0) 1, e1 (.iconst 0) 1 0, e0 (.iload_n 3) 1, e0 (.iload 4) 2, em (.invokevirtual 39) 4 7 mi_Bo_runOwn, e1 (.iconst 2) 1 2, e0 .imul 1, e0 .ireturn 1, e0 (.iload_n 3) 1, e0 (.aload_n 0) 1, ef (.getfield 36) 7 4, e0 .ixor 1, e0 .ireturn 1, e0 (.aload_n 0) 1, e1 (.iconst 1) 1 1, e0 (.iload_n 3) 1, e0 (.iload 4) 2, em (.invokevirtual 39) 4 7 mi_Bo_runOwn, e0 (.aload_n 0) 1, e1 (.iconst 2) 1 2, e1 (.iconst 1) 1 1, e0 (.iload 4) 2, em (.invokevirtual 39) 4 7 mi_Bo_runOwn, e0 .isub 1, e0 .ireturn 1, e0 (.aload_n 0) 1, e0 (.iload_n 2) 1, e1 (.iconst 0) 1 0, e0 (.iload_n 3) 1, e0 (.iload 4) 2, em (.invokevirtual 57) 5 7 mi_Bo_runAbove, e1 (.iconst 3) 1 3, e0 .iadd 1, e0 .ireturn 1, e0 (.aload_n 0) 1, e0 (.iload_n 2) 1, e1 (.iconst 1) 1 1, e0 (.iload_n 3) 1, e0 (.iload 4) 2, em (.invokevirtual 57) 5 7 mi_Bo_runAbove, e0 .ineg 1, e0 .ireturn 1, e0 (.aload_n 0) 1, e0 (.iload_n 2) 1, e1 (.iconst 2) 1 2, e0 (.iload_n 3) 1, e0 (.iload 4) 2, em (.invokevirtual 57) 5 7 mi_Bo_runAbove, e1 (.iconst 3) 1 3, e0 .imul 1, e0 .ireturn 1, e0 (.aload_n 0) 1, e0 (.iload_n 2) 1, e1 (.iconst 1) 1 1, e0 (.iload_n 3) 1, e1 (.iconst 1) 1 1, e0 .iadd 1, e0 (.iload 4) 2, em (.invokevirtual 57) 5 7 mi_Bo_runAbove, e0 .ireturn 1, e0 (.aload_n 0) 1, e0 (.iload_n 2) 1, e1 (.iconst 3) 1 3, e0 (.iload_n 3) 1, e0 (.iload 4) 2, em (.invokevirtual 57) 5 7 mi_Bo_runAbove, e1 (.iconst 5) 1 5, e0 .ixor 1, e0 .ireturn 1, e0 (.aload_n 0) 1, e0 (.iload_n 2) 1, e1 (.iconst 2) 1 2, e0 (.iload_n 3) 1, e0 (.iload 4) 2, em (.invokevirtual 57) 5 7 mi_Bo_runAbove, e0 (.aload_n 0) 1, e1 (.iconst 0) 1 0, e1 (.iconst 2) 1 2, e0 (.iload 4) 2, em (.invokevirtual 39) 4 7 mi_Bo_runOwn, e0 .isub 1, e0 .ireturn 1, e0 (.aload_n 0) 1, e0 (.iload_n 2) 1, e1 (.iconst 3) 1 3, e0 (.iload_n 3) 1, e0 (.iload 4) 2, em (.invokevirtual 57) 5 7 mi_Bo_runAbove, e1 (.iconst 1) 1 1, e0 .iadd 1, e0 .ireturn 1, e0 (.aload_n 0) 1, e0 (.iload_n 2) 1, e1 (.iconst 0) 1 0, e0 (.iload_n 3) 1, e0 (.iload 4) 2, em (.invokevirtual 57) 5 7 mi_Bo_runAbove, e1 (.iconst 2) 1 2, e0 .imul 1, e0 .ireturn 1, e0 (.aload_n 0) 1, e0 (.iload_n 2) 1, e1 (.iconst 1) 1 1, e0 (.iload_n 3) 1, e0 (.iload 4) 2, em (.invokevirtual 57) 5 7 mi_Bo_runAbove, e0 (.aload_n 0) 1, e1 (.iconst 2) 1 2, e1 (.iconst 2) 1 2, e0 (.iload 4) 2, em (.invokevirtual 39) 4 7 mi_Bo_runOwn, e0 .iadd 1, e0 .ireturn 1, e0 (.aload_n 0) 1, e0 (.iload_n 2) 1, e1 (.iconst 0) 1 0, e0 (.iload_n 3) 1, e0 (.iload 4) 2, em (.invokevirtual 57) 5 7 mi_Bo_runAbove, e1 (.iconst 1) 1 1, e0 .isub 1, e0 .ireturn 1, e1 (.iconst 0) 1 0, e0 .ireturn 1]
theorem dt_Bo_runBody : bt_dec mi_Bo_runBody.2.1 mi_Bo_runBody.2.2.1 0 ct_Bo_runBody = true := by decide +kernel
theorem kt_Bo_runBody : bt_T mi_Bo_runBody ct_Bo_runBody := ⟨dt_Bo_runBody, ⟨trivial, ⟨trivial, ⟨bv_Bo_53, ⟨trivial, ⟨trivial, ⟨trivial, ⟨trivial, ⟨lg_Bo_36, ⟨trivial, ⟨trivial, ⟨trivial, ⟨trivial, ⟨trivial, ⟨trivial, ⟨bv_Bo_39, ⟨trivial, ⟨trivial, ⟨trivial, ⟨trivial, ⟨trivial, ⟨lg_Bo_36, ⟨trivial, ⟨trivial, ⟨trivial, ⟨trivial, ⟨trivial, ⟨trivial, ⟨bv_Bo_39, ⟨trivial, ⟨trivial, ⟨trivial, ⟨trivial, ⟨bv_Bo_39, ⟨trivial, ⟨trivial, ⟨trivial, ⟨trivial, ⟨trivial, ⟨trivial, ⟨trivial, ⟨bv_Bo_57, ⟨trivial, ⟨trivial, ⟨trivial, ⟨trivial, ⟨trivial, ⟨trivial, ⟨trivial, ⟨trivial, ⟨bv_Bo_57, ⟨trivial, ⟨trivial, ⟨trivial, ⟨trivial, ⟨trivial, ⟨trivial, ⟨trivial, ⟨bv_Bo_57, ⟨trivial, ⟨trivial, ⟨trivial, ⟨trivial, ⟨trivial, ⟨trivial, ⟨trivial, ⟨trivial, ⟨trivial, ⟨trivial, ⟨bv_Bo_57, ⟨trivial, ⟨trivial, ⟨trivial, ⟨trivial, ⟨trivial, ⟨trivial, ⟨bv_Bo_57, ⟨trivial, ⟨trivial, ⟨trivial, ⟨trivial, ⟨trivial, ⟨trivial, ⟨trivial, ⟨trivial, ⟨bv_Bo_57, ⟨trivial, ⟨trivial, ⟨trivial, ⟨trivial, ⟨bv_Bo_39, ⟨trivial, ⟨trivial, ⟨trivial, ⟨trivial, ⟨trivial, ⟨trivial, ⟨trivial, ⟨bv_Bo_57, ⟨trivial, ⟨trivial, ⟨trivial, ⟨trivial, ⟨trivial, ⟨trivial, ⟨trivial, ⟨trivial, ⟨bv_Bo_57, ⟨trivial, ⟨trivial, ⟨trivial, ⟨trivial, ⟨trivial, ⟨trivial, ⟨trivial, ⟨trivial, ⟨bv_Bo_57, ⟨trivial, ⟨trivial, ⟨trivial, ⟨trivial, ⟨bv_Bo_39, ⟨trivial, ⟨trivial, ⟨trivial, ⟨trivial, ⟨trivial, ⟨trivial, ⟨trivial, ⟨bv_Bo_57, ⟨trivial, ⟨trivial, ⟨trivial, ⟨trivial, ⟨trivial, trivial⟩⟩⟩⟩⟩⟩⟩⟩⟩⟩⟩⟩⟩⟩⟩⟩⟩⟩⟩⟩⟩⟩⟩⟩⟩⟩⟩⟩⟩⟩⟩⟩⟩⟩⟩⟩⟩⟩⟩⟩⟩⟩⟩⟩⟩⟩⟩⟩⟩⟩⟩⟩⟩⟩⟩⟩⟩⟩⟩⟩⟩⟩⟩⟩⟩⟩⟩⟩⟩⟩⟩⟩⟩⟩⟩⟩⟩⟩⟩⟩⟩⟩⟩⟩⟩⟩⟩⟩⟩⟩⟩⟩⟩⟩⟩⟩⟩⟩⟩⟩⟩⟩⟩⟩⟩⟩⟩⟩⟩⟩⟩⟩⟩⟩⟩⟩⟩⟩⟩⟩⟩⟩⟩⟩⟩⟩⟩⟩⟩⟩⟩⟩⟩⟩⟩
def ct_Sh_isEmpty : List bt_E := [e0 (.aload_n 0) 1, ef (.getfield 15) 8 1, eb (.ifCond .ge 15) 19, e0 (.aload_n 0) 1, ef (.getfield 19) 8 2, e1 (.iconst (-1)) 1 (-1), eb (.if_icmp .ne 7) 19, e1 (.iconst 1) 1 1, eb (.goto 4) 20, e1 (.iconst 0) 1 0, e0 .ireturn 1]
theorem dt_Sh_isEmpty : bt_dec mi_Sh_isEmpty.2.1 mi_Sh_isEmpty.2.2.1 0 ct_Sh_isEmpty = true := by decide +kernel
theorem kt_Sh_isEmpty : bt_T mi_Sh_isEmpty ct_Sh_isEmpty := ⟨dt_Sh_isEmpty, ⟨trivial, ⟨lg_Sh_15, ⟨trivial, ⟨trivial, ⟨lg_Sh_19, ⟨trivial, ⟨trivial, ⟨trivial, ⟨trivial, ⟨trivial, ⟨trivial, trivial⟩⟩⟩⟩⟩⟩⟩⟩⟩⟩⟩⟩
def ct_Sh_isRow : List bt_E := [e0 (.aload_n 0) 1, ef (.getfield 19) 8 2, e1 (.iconst (-1)) 1 (-1), eb (.if_icmp .eq 7) 12, e1 (.iconst 1) 1 1, eb (.goto 4) 13, e1 (.iconst 0) 1 0, e0 .ireturn 1]
theorem dt_Sh_isRow : bt_dec mi_Sh_isRow.2.1 mi_Sh_isRow.2.2.1 0 ct_Sh_isRow = true := by decide +kernel
theorem kt_Sh_isRow : bt_T mi_Sh_isRow ct_Sh_isRow := ⟨dt_Sh_isRow, ⟨trivial, ⟨lg_Sh_19, ⟨trivial, ⟨trivial, ⟨trivial, ⟨trivial, ⟨trivial, ⟨trivial, trivial⟩⟩⟩⟩⟩⟩⟩⟩⟩
def ct_Sh_isBytes : List bt_E := [e0 (.aload_n 0) 1, ef (.getfield 19) 8 2, eb (.ifCond .ne 7) 11, e1 (.iconst 1) 1 1, eb (.goto 4) 12, e1 (.iconst 0) 1 0, e0 .ireturn 1]
theorem dt_Sh_isBytes : bt_dec mi_Sh_isBytes.2.1 mi_Sh_isBytes.2.2.1 0 ct_Sh_isBytes = true := by decide +kernel
theorem kt_Sh_isBytes : bt_T mi_Sh_isBytes ct_Sh_isBytes := ⟨dt_Sh_isBytes, ⟨trivial, ⟨lg_Sh_19, ⟨trivial, ⟨trivial, ⟨trivial, ⟨trivial, ⟨trivial, trivial⟩⟩⟩⟩⟩⟩⟩⟩
def ct_Sh_isOfSortOf : List bt_E := [e0 (.aload_n 1) 1, eb (.ifnull 18) 19, e0 (.aload_n 0) 1, ef (.getfield 19) 8 2, e0 (.aload_n 1) 1, ef (.getfield 19) 8 2, eb (.if_icmp .ne 7) 19, e1 (.iconst 1) 1 1, eb (.goto 4) 20, e1 (.iconst 0) 1 0, e0 .ireturn 1]
theorem dt_Sh_isOfSortOf : bt_dec mi_Sh_isOfSortOf.2.1 mi_Sh_isOfSortOf.2.2.1 0 ct_Sh_isOfSortOf = true := by decide +kernel
theorem kt_Sh_isOfSortOf : bt_T mi_Sh_isOfSortOf ct_Sh_isOfSortOf := ⟨dt_Sh_isOfSortOf, ⟨trivial, ⟨trivial, ⟨trivial, ⟨lg_Sh_19, ⟨trivial, ⟨lg_Sh_19, ⟨trivial, ⟨trivial, ⟨trivial, ⟨trivial, ⟨trivial, trivial⟩⟩⟩⟩⟩⟩⟩⟩⟩⟩⟩⟩
def ct_Sh_bodyHeld : List bt_E := [e0 (.aload_n 0) 1, ef (.getfield 15) 8 1, e0 .ireturn 1]
theorem dt_Sh_bodyHeld : bt_dec mi_Sh_bodyHeld.2.1 mi_Sh_bodyHeld.2.2.1 0 ct_Sh_bodyHeld = true := by decide +kernel
theorem kt_Sh_bodyHeld : bt_T mi_Sh_bodyHeld ct_Sh_bodyHeld := ⟨dt_Sh_bodyHeld, ⟨trivial, ⟨lg_Sh_15, ⟨trivial, trivial⟩⟩⟩⟩
def ct_Sh_holdBody : List bt_E := [e0 (.aload_n 0) 1, e0 (.iload_n 1) 1, ef (.putfield 15) 8 1, e0 (.aload_n 0) 1, e1 (.iconst (-1)) 1 (-1), ef (.putfield 19) 8 2, e0 (.aload_n 0) 1, e1 (.iconst 0) 1 0, ef (.putfield 22) 8 3, e0 .return_ 1]
theorem dt_Sh_holdBody : bt_dec mi_Sh_holdBody.2.1 mi_Sh_holdBody.2.2.1 0 ct_Sh_holdBody = true := by decide +kernel
theorem kt_Sh_holdBody : bt_T mi_Sh_holdBody ct_Sh_holdBody := ⟨dt_Sh_holdBody, ⟨trivial, ⟨trivial, ⟨lp_Sh_15, ⟨trivial, ⟨trivial, ⟨lp_Sh_19, ⟨trivial, ⟨trivial, ⟨lp_Sh_22, ⟨trivial, trivial⟩⟩⟩⟩⟩⟩⟩⟩⟩⟩⟩
def ct_Sh_holdRow : List bt_E := [e0 (.aload_n 0) 1, e1 (.iconst (-1)) 1 (-1), ef (.putfield 15) 8 1, e0 (.aload_n 0) 1, e0 (.iload_n 1) 1, ef (.putfield 19) 8 2, e0 (.aload_n 0) 1, e1 (.iconst 0) 1 0, e0 (.iload_n 2) 1, e1 (.bipush 60) 2 60, em (.invokestatic 25) 2 100 mi_JM_min, em (.invokestatic 31) 2 100 mi_JM_max, ef (.putfield 22) 8 3, e0 (.aload_n 0) 1, ef (.getfield 11) 8 0, e2 (.lconst 0) 1 0, em (.invokestatic 34) 2 100 mi_JA_fillL, e0 .return_ 1]
theorem dt_Sh_holdRow : bt_dec mi_Sh_holdRow.2.1 mi_Sh_holdRow.2.2.1 0 ct_Sh_holdRow = true := by decide +kernel
theorem kt_Sh_holdRow : bt_T mi_Sh_holdRow ct_Sh_holdRow := ⟨dt_Sh_holdRow, ⟨trivial, ⟨trivial, ⟨lp_Sh_15, ⟨trivial, ⟨trivial, ⟨lp_Sh_19, ⟨trivial, ⟨trivial, ⟨trivial, ⟨trivial, ⟨⟨fun _ => bs_Sh_25, (fun h => by cases h)⟩, ⟨⟨fun _ => bs_Sh_31, (fun h => by cases h)⟩, ⟨lp_Sh_22, ⟨trivial, ⟨lg_Sh_11, ⟨trivial, ⟨⟨fun _ => bs_Sh_34, (fun h => by cases h)⟩, ⟨trivial, trivial⟩⟩⟩⟩⟩⟩⟩⟩⟩⟩⟩⟩⟩⟩⟩⟩⟩⟩⟩
def ct_Sh_hasPlaces : List bt_E := [e0 (.iload_n 1) 1, eb (.ifCond .lt 29) 30, e0 (.iload_n 2) 1, eb (.ifCond .lt 25) 30, e0 (.iload_n 2) 1, e0 (.aload_n 0) 1, ef (.getfield 22) 8 3, eb (.if_icmp .gt 17) 30, e0 (.iload_n 1) 1, e0 (.aload_n 0) 1, ef (.getfield 22) 8 3, e0 (.iload_n 2) 1, e0 .isub 1, eb (.if_icmp .gt 7) 30, e1 (.iconst 1) 1 1, eb (.goto 4) 31, e1 (.iconst 0) 1 0, e0 .ireturn 1]
theorem dt_Sh_hasPlaces : bt_dec mi_Sh_hasPlaces.2.1 mi_Sh_hasPlaces.2.2.1 0 ct_Sh_hasPlaces = true := by decide +kernel
theorem kt_Sh_hasPlaces : bt_T mi_Sh_hasPlaces ct_Sh_hasPlaces := ⟨dt_Sh_hasPlaces, ⟨trivial, ⟨trivial, ⟨trivial, ⟨trivial, ⟨trivial, ⟨trivial, ⟨lg_Sh_22, ⟨trivial, ⟨trivial, ⟨trivial, ⟨lg_Sh_22, ⟨trivial, ⟨trivial, ⟨trivial, ⟨trivial, ⟨trivial, ⟨trivial, ⟨trivial, trivial⟩⟩⟩⟩⟩⟩⟩⟩⟩⟩⟩⟩⟩⟩⟩⟩⟩⟩⟩
def ct_Sh_read : List bt_E := [e0 (.aload_n 0) 1, e0 (.iload_n 1) 1, e1 (.iconst 1) 1 1, em (.invokevirtual 40) 3 8 mi_Sh_hasPlaces, eb (.ifCond .eq 12) 18, e0 (.aload_n 0) 1, ef (.getfield 11) 8 0, e0 (.iload_n 1) 1, e0 .laload 1, eb (.goto 4) 19, e2 (.lconst 0) 1 0, e0 .lreturn 1]
theorem dt_Sh_read : bt_dec mi_Sh_read.2.1 mi_Sh_read.2.2.1 0 ct_Sh_read = true := by decide +kernel
theorem kt_Sh_read : bt_T mi_Sh_read ct_Sh_read := ⟨dt_Sh_read, ⟨trivial, ⟨trivial, ⟨trivial, ⟨bv_Sh_40, ⟨trivial, ⟨trivial, ⟨lg_Sh_11, ⟨trivial, ⟨trivial, ⟨trivial, ⟨trivial, ⟨trivial, trivial⟩⟩⟩⟩⟩⟩⟩⟩⟩⟩⟩⟩⟩
def ct_Sh_write : List bt_E := [e0 (.aload_n 0) 1, e0 (.iload_n 1) 1, e1 (.iconst 1) 1 1, em (.invokevirtual 40) 3 8 mi_Sh_hasPlaces, eb (.ifCond .eq 14) 20, e0 (.aload_n 0) 1, ef (.getfield 11) 8 0, e0 (.iload_n 1) 1, e0 (.aload_n 0) 1, e0 (.lload_n 2) 1, em (.invokevirtual 44) 2 8 mi_Sh_lowest, e0 .lastore 1, e0 .return_ 1]
theorem dt_Sh_write : bt_dec mi_Sh_write.2.1 mi_Sh_write.2.2.1 0 ct_Sh_write = true := by decide +kernel
theorem kt_Sh_write : bt_T mi_Sh_write ct_Sh_write := ⟨dt_Sh_write, ⟨trivial, ⟨trivial, ⟨trivial, ⟨bv_Sh_40, ⟨trivial, ⟨trivial, ⟨lg_Sh_11, ⟨trivial, ⟨trivial, ⟨trivial, ⟨bv_Sh_44, ⟨trivial, ⟨trivial, trivial⟩⟩⟩⟩⟩⟩⟩⟩⟩⟩⟩⟩⟩⟩
def ct_Sh_lowest : List bt_E := [e0 (.aload_n 0) 1, ef (.getfield 19) 8 2, ew (.tableswitch 48 0 3 #[32, 37, 42, 46]) 32 52 [(0, 36), (1, 41), (2, 46), (3, 50)], e0 (.lload_n 1) 1, e0 .l2i 1, e0 .i2b 1, e0 .i2l 1, e0 .lreturn 1, e0 (.lload_n 1) 1, e0 .l2i 1, e0 .i2s 1, e0 .i2l 1, e0 .lreturn 1, e0 (.lload_n 1) 1, e0 .l2i 1, e0 .i2l 1, e0 .lreturn 1, e0 (.lload_n 1) 1, e0 .lreturn 1, e0 (.lload_n 1) 1, e2 (.lconst 0) 1 0, e0 .lcmp 1, eb (.ifCond .eq 7) 62, e2 (.lconst 1) 1 1, eb (.goto 4) 63, e2 (.lconst 0) 1 0, e0 .lreturn 1]
theorem dt_Sh_lowest : bt_dec mi_Sh_lowest.2.1 mi_Sh_lowest.2.2.1 0 ct_Sh_lowest = true := by decide +kernel
theorem kt_Sh_lowest : bt_T mi_Sh_lowest ct_Sh_lowest := ⟨dt_Sh_lowest, ⟨trivial, ⟨lg_Sh_19, ⟨trivial, ⟨trivial, ⟨trivial, ⟨trivial, ⟨trivial, ⟨trivial, ⟨trivial, ⟨trivial, ⟨trivial, ⟨trivial, ⟨trivial, ⟨trivial, ⟨trivial, ⟨trivial, ⟨trivial, ⟨trivial, ⟨trivial, ⟨trivial, ⟨trivial, ⟨trivial, ⟨trivial, ⟨trivial, ⟨trivial, ⟨trivial, ⟨trivial, trivial⟩⟩⟩⟩⟩⟩⟩⟩⟩⟩⟩⟩⟩⟩⟩⟩⟩⟩⟩⟩⟩⟩⟩⟩⟩⟩⟩⟩
def ct_Sh_copy : List bt_E := [e0 (.aload_n 2) 1, eb (.ifnull 38) 39, e0 (.aload_n 0) 1, e0 (.iload_n 1) 1, e0 (.iload 4) 2, em (.invokevirtual 40) 3 8 mi_Sh_hasPlaces, eb (.ifCond .eq 28) 39, e0 (.aload_n 2) 1, e0 (.iload_n 3) 1, e0 (.iload 4) 2, em (.invokevirtual 40) 3 8 mi_Sh_hasPlaces, eb (.ifCond .eq 18) 39, e0 (.aload_n 0) 1, ef (.getfield 11) 8 0, e0 (.iload_n 1) 1, e0 (.aload_n 2) 1, ef (.getfield 11) 8 0, e0 (.iload_n 3) 1, e0 (.iload 4) 2, em (.invokestatic 48) 5 101 bt_m0, e0 .return_ 1]
theorem dt_Sh_copy : bt_dec mi_Sh_copy.2.1 mi_Sh_copy.2.2.1 0 ct_Sh_copy = true := by decide +kernel
theorem kt_Sh_copy : bt_T mi_Sh_copy ct_Sh_copy := ⟨dt_Sh_copy, ⟨trivial, ⟨trivial, ⟨trivial, ⟨trivial, ⟨trivial, ⟨bv_Sh_40, ⟨trivial, ⟨trivial, ⟨trivial, ⟨trivial, ⟨bv_Sh_40, ⟨trivial, ⟨trivial, ⟨lg_Sh_11, ⟨trivial, ⟨trivial, ⟨lg_Sh_11, ⟨trivial, ⟨trivial, ⟨⟨(fun h => by cases h), fun _ => lc_Sh_48⟩, ⟨trivial, trivial⟩⟩⟩⟩⟩⟩⟩⟩⟩⟩⟩⟩⟩⟩⟩⟩⟩⟩⟩⟩⟩⟩
def ct_Sh_minutes : List bt_E := [e0 (.aload_n 0) 1, ef (.getfield 22) 8 3, e1 (.bipush 24) 2 24, em (.invokestatic 25) 2 100 mi_JM_min, e0 .ireturn 1]
theorem dt_Sh_minutes : bt_dec mi_Sh_minutes.2.1 mi_Sh_minutes.2.2.1 0 ct_Sh_minutes = true := by decide +kernel
theorem kt_Sh_minutes : bt_T mi_Sh_minutes ct_Sh_minutes := ⟨dt_Sh_minutes, ⟨trivial, ⟨lg_Sh_22, ⟨trivial, ⟨⟨fun _ => bs_Sh_25, (fun h => by cases h)⟩, ⟨trivial, trivial⟩⟩⟩⟩⟩⟩
def ct_Sh_at : List bt_E := [e0 (.aload_n 0) 1, e0 (.iload_n 1) 1, em (.invokevirtual 54) 2 8 mi_Sh_read, e0 .l2i 1, e0 .ireturn 1]
theorem dt_Sh_at : bt_dec mi_Sh_at.2.1 mi_Sh_at.2.2.1 0 ct_Sh_at = true := by decide +kernel
theorem kt_Sh_at : bt_T mi_Sh_at ct_Sh_at := ⟨dt_Sh_at, ⟨trivial, ⟨trivial, ⟨bv_Sh_54, ⟨trivial, ⟨trivial, trivial⟩⟩⟩⟩⟩⟩
end
section
def ct_M_in : List bt_E := [e0 (.iload_n 0) 1, e0 (.iload_n 1) 1, eb (.if_icmp .lt 12) 14, e0 (.iload_n 0) 1, e0 (.iload_n 2) 1, eb (.if_icmp .gt 7) 14, e1 (.iconst 1) 1 1, eb (.goto 4) 15, e1 (.iconst 0) 1 0, e0 .ireturn 1]
theorem dt_M_in : bt_dec mi_M_in.2.1 mi_M_in.2.2.1 0 ct_M_in = true := by decide +kernel
theorem kt_M_in : bt_T mi_M_in ct_M_in := ⟨dt_M_in, ⟨trivial, ⟨trivial, ⟨trivial, ⟨trivial, ⟨trivial, ⟨trivial, ⟨trivial, ⟨trivial, ⟨trivial, ⟨trivial, trivial⟩⟩⟩⟩⟩⟩⟩⟩⟩⟩⟩
def ct_M_bitsOf : List bt_E := [e1 (.iconst 0) 1 0, e0 (.istore_n 1) 1, e0 (.iload_n 0) 1, e0 (.istore_n 2) 1, e0 (.iload_n 2) 1, eb (.ifCond .eq 15) 20, e1 (.iinc 1 1) 3 1, e0 (.iload_n 2) 1, e0 (.iload_n 2) 1, e1 (.iconst 1) 1 1, e0 .isub 1, e0 .iand 1, e0 (.istore_n 2) 1, eb (.goto (-13)) 4, e0 (.iload_n 1) 1, e0 .ireturn 1]
theorem dt_M_bitsOf : bt_dec mi_M_bitsOf.2.1 mi_M_bitsOf.2.2.1 0 ct_M_bitsOf = true := by decide +kernel
theorem kt_M_bitsOf : bt_T mi_M_bitsOf ct_M_bitsOf := ⟨dt_M_bitsOf, ⟨trivial, ⟨trivial, ⟨trivial, ⟨trivial, ⟨trivial, ⟨trivial, ⟨trivial, ⟨trivial, ⟨trivial, ⟨trivial, ⟨trivial, ⟨trivial, ⟨trivial, ⟨trivial, ⟨trivial, ⟨trivial, trivial⟩⟩⟩⟩⟩⟩⟩⟩⟩⟩⟩⟩⟩⟩⟩⟩⟩
def ct_M_isTree : List bt_E := [e0 (.iload_n 1) 1, e1 (.iconst 0) 1 0, e0 (.aload_n 0) 1, ef (.getfield 122) 9 1, e1 (.iconst 1) 1 1, e0 .isub 1, em (.invokestatic 125) 3 100 mi_M_in, e0 .ireturn 1]
theorem dt_M_isTree : bt_dec mi_M_isTree.2.1 mi_M_isTree.2.2.1 0 ct_M_isTree = true := by decide +kernel
theorem kt_M_isTree : bt_T mi_M_isTree ct_M_isTree := ⟨dt_M_isTree, ⟨trivial, ⟨trivial, ⟨trivial, ⟨lg_M_122, ⟨trivial, ⟨trivial, ⟨⟨fun _ => bs_M_125, (fun h => by cases h)⟩, ⟨trivial, trivial⟩⟩⟩⟩⟩⟩⟩⟩⟩
def ct_M_isSort : List bt_E := [e0 (.iload_n 0) 1, e1 (.iconst 0) 1 0, e1 (.iconst 3) 1 3, em (.invokestatic 125) 3 100 mi_M_in, e0 .ireturn 1]
theorem dt_M_isSort : bt_dec mi_M_isSort.2.1 mi_M_isSort.2.2.1 0 ct_M_isSort = true := by decide +kernel
theorem kt_M_isSort : bt_T mi_M_isSort ct_M_isSort := ⟨dt_M_isSort, ⟨trivial, ⟨trivial, ⟨trivial, ⟨⟨fun _ => bs_M_125, (fun h => by cases h)⟩, ⟨trivial, trivial⟩⟩⟩⟩⟩⟩
def ct_M_isMinute : List bt_E := [e0 (.iload_n 0) 1, e1 (.iconst 0) 1 0, e1 (.bipush 23) 2 23, em (.invokestatic 125) 3 100 mi_M_in, e0 .ireturn 1]
theorem dt_M_isMinute : bt_dec mi_M_isMinute.2.1 mi_M_isMinute.2.2.1 0 ct_M_isMinute = true := by decide +kernel
theorem kt_M_isMinute : bt_T mi_M_isMinute ct_M_isMinute := ⟨dt_M_isMinute, ⟨trivial, ⟨trivial, ⟨trivial, ⟨⟨fun _ => bs_M_125, (fun h => by cases h)⟩, ⟨trivial, trivial⟩⟩⟩⟩⟩⟩
def ct_M_addTree : List bt_E := [e0 (.aload_n 0) 1, ef (.getfield 7) 9 2, e0 (.aload_n 0) 1, ef (.getfield 122) 9 1, e0 (.iload_n 1) 1, e0 .iastore 1, e0 (.aload_n 0) 1, ef (.getfield 13) 9 3, e0 (.aload_n 0) 1, ef (.getfield 122) 9 1, e0 (.iload_n 2) 1, e0 .iastore 1, e0 (.aload_n 0) 1, ef (.getfield 16) 9 4, e0 (.aload_n 0) 1, ef (.getfield 122) 9 1, e0 (.iload_n 3) 1, e0 .iastore 1, e0 (.aload_n 0) 1, ef (.getfield 19) 9 5, e0 (.aload_n 0) 1, ef (.getfield 122) 9 1, e1 (.iconst 1) 1 1, e0 .iastore 1, e0 (.aload_n 0) 1, ef (.getfield 22) 9 6, e0 (.aload_n 0) 1, ef (.getfield 122) 9 1, e1 (.iconst 0) 1 0, e0 .iastore 1, e0 (.aload_n 0) 1, ef (.getfield 25) 9 7, e0 (.aload_n 0) 1, ef (.getfield 122) 9 1, e1 (.iconst 0) 1 0, e0 .iastore 1, e0 (.aload_n 0) 1, e0 .dup 1, ef (.getfield 122) 9 1, e1 (.iconst 1) 1 1, e0 .iadd 1, ef (.putfield 122) 9 1, e0 (.aload_n 0) 1, ef (.getfield 122) 9 1, e1 (.iconst 1) 1 1, e0 .isub 1, e0 .ireturn 1]
theorem dt_M_addTree : bt_dec mi_M_addTree.2.1 mi_M_addTree.2.2.1 0 ct_M_addTree = true := by decide +kernel
theorem kt_M_addTree : bt_T mi_M_addTree ct_M_addTree := ⟨dt_M_addTree, ⟨trivial, ⟨lg_M_7, ⟨trivial, ⟨lg_M_122, ⟨trivial, ⟨trivial, ⟨trivial, ⟨lg_M_13, ⟨trivial, ⟨lg_M_122, ⟨trivial, ⟨trivial, ⟨trivial, ⟨lg_M_16, ⟨trivial, ⟨lg_M_122, ⟨trivial, ⟨trivial, ⟨trivial, ⟨lg_M_19, ⟨trivial, ⟨lg_M_122, ⟨trivial, ⟨trivial, ⟨trivial, ⟨lg_M_22, ⟨trivial, ⟨lg_M_122, ⟨trivial, ⟨trivial, ⟨trivial, ⟨lg_M_25, ⟨trivial, ⟨lg_M_122, ⟨trivial, ⟨trivial, ⟨trivial, ⟨trivial, ⟨lg_M_122, ⟨trivial, ⟨trivial, ⟨lp_M_122, ⟨trivial, ⟨lg_M_122, ⟨trivial, ⟨trivial, ⟨trivial, trivial⟩⟩⟩⟩⟩⟩⟩⟩⟩⟩⟩⟩⟩⟩⟩⟩⟩⟩⟩⟩⟩⟩⟩⟩⟩⟩⟩⟩⟩⟩⟩⟩⟩⟩⟩⟩⟩⟩⟩⟩⟩⟩⟩⟩⟩⟩⟩⟩
def ct_M_tree : List bt_E := [e0 (.iload_n 1) 1, e1 (.iconst 0) 1 0, e1 (.sipush 999) 3 999, em (.invokestatic 125) 3 100 mi_M_in, eb (.ifCond .ne 5) 13, e1 (.iconst (-1)) 1 (-1), e0 .ireturn 1, e0 (.aload_n 0) 1, ef (.getfield 122) 9 1, e1 (.bipush 8) 2 8, eb (.if_icmp .ne 8) 27, e1 (.bipush (-3)) 2 (-3), eb (.goto 22) 46, e0 (.aload_n 0) 1, e0 (.iload_n 1) 1, e1 (.bipush 100) 2 100, e0 .idiv 1, e0 (.iload_n 1) 1, e1 (.bipush 10) 2 10, e0 .idiv 1, e1 (.bipush 10) 2 10, e0 .irem 1, e0 (.iload_n 1) 1, e1 (.bipush 10) 2 10, e0 .irem 1, em (.invokevirtual 129) 4 9 mi_M_addTree, e0 .ireturn 1]
theorem dt_M_tree : bt_dec mi_M_tree.2.1 mi_M_tree.2.2.1 0 ct_M_tree = true := by decide +kernel
theorem kt_M_tree : bt_T mi_M_tree ct_M_tree := ⟨dt_M_tree, ⟨trivial, ⟨trivial, ⟨trivial, ⟨⟨fun _ => bs_M_125, (fun h => by cases h)⟩, ⟨trivial, ⟨trivial, ⟨trivial, ⟨trivial, ⟨lg_M_122, ⟨trivial, ⟨trivial, ⟨trivial, ⟨trivial, ⟨trivial, ⟨trivial, ⟨trivial, ⟨trivial, ⟨trivial, ⟨trivial, ⟨trivial, ⟨trivial, ⟨trivial, ⟨trivial, ⟨trivial, ⟨trivial, ⟨bv_M_129, ⟨trivial, trivial⟩⟩⟩⟩⟩⟩⟩⟩⟩⟩⟩⟩⟩⟩⟩⟩⟩⟩⟩⟩⟩⟩⟩⟩⟩⟩⟩⟩
def ct_M_trees : List bt_E := [e0 (.iload_n 1) 1, em (.invokestatic 133) 1 100 mi_M_isShelf, eb (.ifCond .eq 13) 17, e0 (.iload_n 3) 1, e1 (.iconst 1) 1 1, e1 (.bipush 8) 2 8, em (.invokestatic 125) 3 100 mi_M_in, eb (.ifCond .ne 5) 19, e1 (.iconst (-1)) 1 (-1), e0 .ireturn 1, e0 (.aload_n 0) 1, ef (.getfield 107) 9 49, e0 (.iload_n 1) 1, e0 .iaload 1, e1 (.iconst (-1)) 1 (-1), eb (.if_icmp .eq 17) 43, e0 (.aload_n 0) 1, ef (.getfield 107) 9 49, e0 (.iload_n 1) 1, e0 .iaload 1, e1 (.bipush (-2)) 2 (-2), eb (.if_icmp .eq 6) 43, e1 (.bipush (-12)) 2 (-12), e0 .ireturn 1, e0 (.aload_n 0) 1, ef (.getfield 107) 9 49, e0 (.iload_n 1) 1, e0 .iaload 1, e1 (.iconst (-1)) 1 (-1), eb (.if_icmp .ne 5) 55, e1 (.iconst 0) 1 0, e0 .ireturn 1, e1 (.iconst 0) 1 0, e0 (.istore 4) 2, e0 (.iload 4) 2, e0 (.iload_n 3) 1, eb (.if_icmp .ge 156) 217, e0 (.iload_n 2) 1, e0 .i2l 1, e1 (.iconst 3) 1 3, e0 (.iload 4) 2, e0 .imul 1, e0 .i2l 1, e0 .ladd 1, e0 (.lstore 5) 2, e0 (.lload 5) 2, e2 (.lconst 0) 1 0, e0 .lcmp 1, eb (.ifCond .lt 29) 107, e0 (.lload 5) 2, e2 (.ldc2_w 137) 3 2, e0 .ladd 1, e0 (.aload_n 0) 1, ef (.getfield 110) 9 50, e0 (.iload_n 1) 1, e0 .iaload 1, e0 .i2l 1, e0 .lcmp 1, eb (.ifCond .ge 12) 107, e0 (.aload_n 0) 1, ef (.getfield 122) 9 1, e1 (.bipush 8) 2 8, eb (.if_icmp .ne 6) 110, e0 (.iload 4) 2, e0 .ireturn 1, e1 (.bipush 60) 2 60, e0 (.iload_n 1) 1, e0 .imul 1, e0 (.lload 5) 2, e0 .l2i 1, e0 .iadd 1, e0 (.istore 7) 2, e0 (.aload_n 0) 1, ef (.getfield 113) 9 51, e0 (.iload 7) 2, e0 .laload 1, e0 .l2i 1, e1 (.iconst 0) 1 0, e1 (.bipush 9) 2 9, em (.invokestatic 125) 3 100 mi_M_in, eb (.ifCond .eq 41) 175, e0 (.aload_n 0) 1, ef (.getfield 113) 9 51, e0 (.iload 7) 2, e1 (.iconst 1) 1 1, e0 .iadd 1, e0 .laload 1, e0 .l2i 1, e1 (.iconst 0) 1 0, e1 (.bipush 9) 2 9, em (.invokestatic 125) 3 100 mi_M_in, eb (.ifCond .eq 22) 175, e0 (.aload_n 0) 1, ef (.getfield 113) 9 51, e0 (.iload 7) 2, e1 (.iconst 2) 1 2, e0 .iadd 1, e0 .laload 1, e0 .l2i 1, e1 (.iconst 0) 1 0, e1 (.bipush 9) 2 9, em (.invokestatic 125) 3 100 mi_M_in, eb (.ifCond .ne 6) 178, e0 (.iload 4) 2, e0 .ireturn 1, e0 (.aload_n 0) 1, e0 (.aload_n 0) 1, ef (.getfield 113) 9 51, e0 (.iload 7) 2, e0 .laload 1, e0 .l2i 1, e0 (.aload_n 0) 1, ef (.getfield 113) 9 51, e0 (.iload 7) 2, e1 (.iconst 1) 1 1, e0 .iadd 1, e0 .laload 1, e0 .l2i 1, e0 (.aload_n 0) 1, ef (.getfield 113) 9 51, e0 (.iload 7) 2, e1 (.iconst 2) 1 2, e0 .iadd 1, e0 .laload 1, e0 .l2i 1, em (.invokevirtual 129) 4 9 mi_M_addTree, e0 .pop 1, e1 (.iinc 4 1) 3 1, eb (.goto (-156)) 58, e0 (.iload_n 3) 1, e0 .ireturn 1]
theorem dt_M_trees : bt_dec mi_M_trees.2.1 mi_M_trees.2.2.1 0 ct_M_trees = true := by decide +kernel
theorem kt_M_trees : bt_T mi_M_trees ct_M_trees := ⟨dt_M_trees, ⟨trivial, ⟨⟨fun _ => bs_M_133, (fun h => by cases h)⟩, ⟨trivial, ⟨trivial, ⟨trivial, ⟨trivial, ⟨⟨fun _ => bs_M_125, (fun h => by cases h)⟩, ⟨trivial, ⟨trivial, ⟨trivial, ⟨trivial, ⟨lg_M_107, ⟨trivial, ⟨trivial, ⟨trivial, ⟨trivial, ⟨trivial, ⟨lg_M_107, ⟨trivial, ⟨trivial, ⟨trivial, ⟨trivial, ⟨trivial, ⟨trivial, ⟨trivial, ⟨lg_M_107, ⟨trivial, ⟨trivial, ⟨trivial, ⟨trivial, ⟨trivial, ⟨trivial, ⟨trivial, ⟨trivial, ⟨trivial, ⟨trivial, ⟨trivial, ⟨trivial, ⟨trivial, ⟨trivial, ⟨trivial, ⟨trivial, ⟨trivial, ⟨trivial, ⟨trivial, ⟨trivial, ⟨trivial, ⟨trivial, ⟨trivial, ⟨trivial, ⟨lk_M_137, ⟨trivial, ⟨trivial, ⟨lg_M_110, ⟨trivial, ⟨trivial, ⟨trivial, ⟨trivial, ⟨trivial, ⟨trivial, ⟨lg_M_122, ⟨trivial, ⟨trivial, ⟨trivial, ⟨trivial, ⟨trivial, ⟨trivial, ⟨trivial, ⟨trivial, ⟨trivial, ⟨trivial, ⟨trivial, ⟨trivial, ⟨lg_M_113, ⟨trivial, ⟨trivial, ⟨trivial, ⟨trivial, ⟨trivial, ⟨⟨fun _ => bs_M_125, (fun h => by cases h)⟩, ⟨trivial, ⟨trivial, ⟨lg_M_113, ⟨trivial, ⟨trivial, ⟨trivial, ⟨trivial, ⟨trivial, ⟨trivial, ⟨trivial, ⟨⟨fun _ => bs_M_125, (fun h => by cases h)⟩, ⟨trivial, ⟨trivial, ⟨lg_M_113, ⟨trivial, ⟨trivial, ⟨trivial, ⟨trivial, ⟨trivial, ⟨trivial, ⟨trivial, ⟨⟨fun _ => bs_M_125, (fun h => by cases h)⟩, ⟨trivial, ⟨trivial, ⟨trivial, ⟨trivial, ⟨trivial, ⟨lg_M_113, ⟨trivial, ⟨trivial, ⟨trivial, ⟨trivial, ⟨lg_M_113, ⟨trivial, ⟨trivial, ⟨trivial, ⟨trivial, ⟨trivial, ⟨trivial, ⟨lg_M_113, ⟨trivial, ⟨trivial, ⟨trivial, ⟨trivial, ⟨trivial, ⟨bv_M_129, ⟨trivial, ⟨trivial, ⟨trivial, ⟨trivial, ⟨trivial, trivial⟩⟩⟩⟩⟩⟩⟩⟩⟩⟩⟩⟩⟩⟩⟩⟩⟩⟩⟩⟩⟩⟩⟩⟩⟩⟩⟩⟩⟩⟩⟩⟩⟩⟩⟩⟩⟩⟩⟩⟩⟩⟩⟩⟩⟩⟩⟩⟩⟩⟩⟩⟩⟩⟩⟩⟩⟩⟩⟩⟩⟩⟩⟩⟩⟩⟩⟩⟩⟩⟩⟩⟩⟩⟩⟩⟩⟩⟩⟩⟩⟩⟩⟩⟩⟩⟩⟩⟩⟩⟩⟩⟩⟩⟩⟩⟩⟩⟩⟩⟩⟩⟩⟩⟩⟩⟩⟩⟩⟩⟩⟩⟩⟩⟩⟩⟩⟩⟩⟩⟩⟩⟩⟩⟩⟩⟩⟩⟩⟩⟩⟩⟩
def ct_M_areBeside : List bt_E := [e0 (.aload_n 0) 1, ef (.getfield 22) 9 6, e0 (.iload_n 1) 1, e0 .iaload 1, e0 (.iload_n 2) 1, e0 .ishr 1, e1 (.iconst 1) 1 1, e0 .iand 1, e1 (.iconst 1) 1 1, eb (.if_icmp .ne 7) 18, e1 (.iconst 1) 1 1, eb (.goto 4) 19, e1 (.iconst 0) 1 0, e0 .ireturn 1]
theorem dt_M_areBeside : bt_dec mi_M_areBeside.2.1 mi_M_areBeside.2.2.1 0 ct_M_areBeside = true := by decide +kernel
theorem kt_M_areBeside : bt_T mi_M_areBeside ct_M_areBeside := ⟨dt_M_areBeside, ⟨trivial, ⟨lg_M_22, ⟨trivial, ⟨trivial, ⟨trivial, ⟨trivial, ⟨trivial, ⟨trivial, ⟨trivial, ⟨trivial, ⟨trivial, ⟨trivial, ⟨trivial, ⟨trivial, trivial⟩⟩⟩⟩⟩⟩⟩⟩⟩⟩⟩⟩⟩⟩⟩
def ct_M_path : List bt_E := [e0 (.iload_n 1) 1, eb (.ifCond .lt 51) 52, e0 (.aload_n 0) 1, e0 (.iload_n 1) 1, e1 (.bipush 10) 2 10, e0 .idiv 1, em (.invokevirtual 139) 2 9 mi_M_isTree, eb (.ifCond .eq 40) 52, e0 (.aload_n 0) 1, e0 (.iload_n 1) 1, e1 (.bipush 10) 2 10, e0 .irem 1, em (.invokevirtual 139) 2 9 mi_M_isTree, eb (.ifCond .eq 29) 52, e0 (.iload_n 1) 1, e1 (.bipush 10) 2 10, e0 .idiv 1, e0 (.iload_n 1) 1, e1 (.bipush 10) 2 10, e0 .irem 1, eb (.if_icmp .eq 18) 52, e0 (.aload_n 0) 1, e0 (.iload_n 1) 1, e1 (.bipush 10) 2 10, e0 .idiv 1, e0 (.iload_n 1) 1, e1 (.bipush 10) 2 10, e0 .irem 1, em (.invokevirtual 142) 3 9 mi_M_areBeside, eb (.ifCond .eq 5) 54, e1 (.iconst (-1)) 1 (-1), e0 .ireturn 1, e0 (.aload_n 0) 1, ef (.getfield 146) 9 8, e1 (.bipush 14) 2 14, eb (.if_icmp .ne 6) 66, e1 (.bipush (-3)) 2 (-3), e0 .ireturn 1, e0 (.aload_n 0) 1, ef (.getfield 22) 9 6, e0 (.iload_n 1) 1, e1 (.bipush 10) 2 10, e0 .idiv 1, e0 .dup2 1, e0 .iaload 1, e1 (.iconst 1) 1 1, e0 (.iload_n 1) 1, e1 (.bipush 10) 2 10, e0 .irem 1, e0 .ishl 1, e0 .ior 1, e0 .iastore 1, e0 (.aload_n 0) 1, ef (.getfield 22) 9 6, e0 (.iload_n 1) 1, e1 (.bipush 10) 2 10, e0 .irem 1, e0 .dup2 1, e0 .iaload 1, e1 (.iconst 1) 1 1, e0 (.iload_n 1) 1, e1 (.bipush 10) 2 10, e0 .idiv 1, e0 .ishl 1, e0 .ior 1, e0 .iastore 1, e0 (.aload_n 0) 1, e0 .dup 1, ef (.getfield 146) 9 8, e1 (.iconst 1) 1 1, e0 .iadd 1, ef (.putfield 146) 9 8, e0 (.aload_n 0) 1, ef (.getfield 146) 9 8, e0 .ireturn 1]
theorem dt_M_path : bt_dec mi_M_path.2.1 mi_M_path.2.2.1 0 ct_M_path = true := by decide +kernel
theorem kt_M_path : bt_T mi_M_path ct_M_path := ⟨dt_M_path, ⟨trivial, ⟨trivial, ⟨trivial, ⟨trivial, ⟨trivial, ⟨trivial, ⟨bv_M_139, ⟨trivial, ⟨trivial, ⟨trivial, ⟨trivial, ⟨trivial, ⟨bv_M_139, ⟨trivial, ⟨trivial, ⟨trivial, ⟨trivial, ⟨trivial, ⟨trivial, ⟨trivial, ⟨trivial, ⟨trivial, ⟨trivial, ⟨trivial, ⟨trivial, ⟨trivial, ⟨trivial, ⟨trivial, ⟨bv_M_142, ⟨trivial, ⟨trivial, ⟨trivial, ⟨trivial, ⟨lg_M_146, ⟨trivial, ⟨trivial, ⟨trivial, ⟨trivial, ⟨trivial, ⟨lg_M_22, ⟨trivial, ⟨trivial, ⟨trivial, ⟨trivial, ⟨trivial, ⟨trivial, ⟨trivial, ⟨trivial, ⟨trivial, ⟨trivial, ⟨trivial, ⟨trivial, ⟨trivial, ⟨lg_M_22, ⟨trivial, ⟨trivial, ⟨trivial, ⟨trivial, ⟨trivial, ⟨trivial, ⟨trivial, ⟨trivial, ⟨trivial, ⟨trivial, ⟨trivial, ⟨trivial, ⟨trivial, ⟨trivial, ⟨lg_M_146, ⟨trivial, ⟨trivial, ⟨lp_M_146, ⟨trivial, ⟨lg_M_146, ⟨trivial, trivial⟩⟩⟩⟩⟩⟩⟩⟩⟩⟩⟩⟩⟩⟩⟩⟩⟩⟩⟩⟩⟩⟩⟩⟩⟩⟩⟩⟩⟩⟩⟩⟩⟩⟩⟩⟩⟩⟩⟩⟩⟩⟩⟩⟩⟩⟩⟩⟩⟩⟩⟩⟩⟩⟩⟩⟩⟩⟩⟩⟩⟩⟩⟩⟩⟩⟩⟩⟩⟩⟩⟩⟩⟩⟩⟩⟩
def ct_M_valueAt : List bt_E := [e0 (.iload_n 1) 1, ew (.tableswitch 90 0 6 #[43, 50, 57, 64, 71, 78, 85]) 43 91 [(0, 44), (1, 51), (2, 58), (3, 65), (4, 72), (5, 79), (6, 86)], e0 (.aload_n 0) 1, ef (.getfield 7) 9 2, e0 (.iload_n 2) 1, e0 .iaload 1, e0 .ireturn 1, e0 (.aload_n 0) 1, ef (.getfield 13) 9 3, e0 (.iload_n 2) 1, e0 .iaload 1, e0 .ireturn 1, e0 (.aload_n 0) 1, ef (.getfield 16) 9 4, e0 (.iload_n 2) 1, e0 .iaload 1, e0 .ireturn 1, e0 (.aload_n 0) 1, ef (.getfield 19) 9 5, e0 (.iload_n 2) 1, e0 .iaload 1, e0 .ireturn 1, e0 (.aload_n 0) 1, ef (.getfield 28) 9 10, e0 (.iload_n 2) 1, e0 .iaload 1, e0 .ireturn 1, e0 (.aload_n 0) 1, ef (.getfield 31) 9 11, e0 (.iload_n 2) 1, e0 .iaload 1, e0 .ireturn 1, e0 (.aload_n 0) 1, ef (.getfield 149) 9 12, e0 .ireturn 1, e0 (.aload_n 0) 1, ef (.getfield 152) 9 13, e0 .ireturn 1]
theorem dt_M_valueAt : bt_dec mi_M_valueAt.2.1 mi_M_valueAt.2.2.1 0 ct_M_valueAt = true := by decide +kernel
theorem kt_M_valueAt : bt_T mi_M_valueAt ct_M_valueAt := ⟨dt_M_valueAt, ⟨trivial, ⟨trivial, ⟨trivial, ⟨lg_M_7, ⟨trivial, ⟨trivial, ⟨trivial, ⟨trivial, ⟨lg_M_13, ⟨trivial, ⟨trivial, ⟨trivial, ⟨trivial, ⟨lg_M_16, ⟨trivial, ⟨trivial, ⟨trivial, ⟨trivial, ⟨lg_M_19, ⟨trivial, ⟨trivial, ⟨trivial, ⟨trivial, ⟨lg_M_28, ⟨trivial, ⟨trivial, ⟨trivial, ⟨trivial, ⟨lg_M_31, ⟨trivial, ⟨trivial, ⟨trivial, ⟨trivial, ⟨lg_M_149, ⟨trivial, ⟨trivial, ⟨lg_M_152, ⟨trivial, trivial⟩⟩⟩⟩⟩⟩⟩⟩⟩⟩⟩⟩⟩⟩⟩⟩⟩⟩⟩⟩⟩⟩⟩⟩⟩⟩⟩⟩⟩⟩⟩⟩⟩⟩⟩⟩⟩⟩⟩
def ct_M_lays : List bt_E := [e0 (.iload_n 1) 1, ew (.tableswitch 111 0 6 #[43, 53, 63, 73, 83, 93, 103]) 43 112 [(0, 44), (1, 54), (2, 64), (3, 74), (4, 84), (5, 94), (6, 104)], e0 (.aload_n 0) 1, ef (.getfield 7) 9 2, e0 (.iload_n 2) 1, e0 (.iload_n 3) 1, e0 .iastore 1, eb (.goto 66) 117, e0 (.aload_n 0) 1, ef (.getfield 13) 9 3, e0 (.iload_n 2) 1, e0 (.iload_n 3) 1, e0 .iastore 1, eb (.goto 56) 117, e0 (.aload_n 0) 1, ef (.getfield 16) 9 4, e0 (.iload_n 2) 1, e0 (.iload_n 3) 1, e0 .iastore 1, eb (.goto 46) 117, e0 (.aload_n 0) 1, ef (.getfield 19) 9 5, e0 (.iload_n 2) 1, e0 (.iload_n 3) 1, e0 .iastore 1, eb (.goto 36) 117, e0 (.aload_n 0) 1, ef (.getfield 28) 9 10, e0 (.iload_n 2) 1, e0 (.iload_n 3) 1, e0 .iastore 1, eb (.goto 26) 117, e0 (.aload_n 0) 1, ef (.getfield 31) 9 11, e0 (.iload_n 2) 1, e0 (.iload_n 3) 1, e0 .iastore 1, eb (.goto 16) 117, e0 (.aload_n 0) 1, e0 (.iload_n 3) 1, ef (.putfield 149) 9 12, eb (.goto 8) 117, e0 (.aload_n 0) 1, e0 (.iload_n 3) 1, ef (.putfield 152) 9 13, e0 .return_ 1]
theorem dt_M_lays : bt_dec mi_M_lays.2.1 mi_M_lays.2.2.1 0 ct_M_lays = true := by decide +kernel
theorem kt_M_lays : bt_T mi_M_lays ct_M_lays := ⟨dt_M_lays, ⟨trivial, ⟨trivial, ⟨trivial, ⟨lg_M_7, ⟨trivial, ⟨trivial, ⟨trivial, ⟨trivial, ⟨trivial, ⟨lg_M_13, ⟨trivial, ⟨trivial, ⟨trivial, ⟨trivial, ⟨trivial, ⟨lg_M_16, ⟨trivial, ⟨trivial, ⟨trivial, ⟨trivial, ⟨trivial, ⟨lg_M_19, ⟨trivial, ⟨trivial, ⟨trivial, ⟨trivial, ⟨trivial, ⟨lg_M_28, ⟨trivial, ⟨trivial, ⟨trivial, ⟨trivial, ⟨trivial, ⟨lg_M_31, ⟨trivial, ⟨trivial, ⟨trivial, ⟨trivial, ⟨trivial, ⟨trivial, ⟨lp_M_149, ⟨trivial, ⟨trivial, ⟨trivial, ⟨lp_M_152, ⟨trivial, trivial⟩⟩⟩⟩⟩⟩⟩⟩⟩⟩⟩⟩⟩⟩⟩⟩⟩⟩⟩⟩⟩⟩⟩⟩⟩⟩⟩⟩⟩⟩⟩⟩⟩⟩⟩⟩⟩⟩⟩⟩⟩⟩⟩⟩⟩⟩⟩
def ct_M_changes : List bt_E := [e0 (.aload_n 0) 1, e0 (.iload_n 1) 1, e0 (.iload_n 2) 1, em (.invokevirtual 155) 3 9 mi_M_valueAt, e0 (.istore 4) 2, e0 (.iload 4) 2, e0 (.iload_n 3) 1, eb (.if_icmp .ne 6) 17, e0 (.iload 4) 2, e0 .ireturn 1, e0 (.aload_n 0) 1, e1 (.iconst 0) 1 0, ef (.putfield 159) 9 15, e0 (.aload_n 0) 1, ef (.getfield 162) 9 14, e1 (.bipush 40) 2 40, eb (.if_icmp .ne 93) 121, e1 (.iconst 1) 1 1, e0 (.istore 5) 2, e0 (.iload 5) 2, e1 (.bipush 40) 2 40, eb (.if_icmp .ge 73) 111, e0 (.aload_n 0) 1, ef (.getfield 34) 9 16, e0 (.iload 5) 2, e1 (.iconst 1) 1 1, e0 .isub 1, e0 (.aload_n 0) 1, ef (.getfield 34) 9 16, e0 (.iload 5) 2, e0 .iaload 1, e0 .iastore 1, e0 (.aload_n 0) 1, ef (.getfield 37) 9 17, e0 (.iload 5) 2, e1 (.iconst 1) 1 1, e0 .isub 1, e0 (.aload_n 0) 1, ef (.getfield 37) 9 17, e0 (.iload 5) 2, e0 .iaload 1, e0 .iastore 1, e0 (.aload_n 0) 1, ef (.getfield 40) 9 18, e0 (.iload 5) 2, e1 (.iconst 1) 1 1, e0 .isub 1, e0 (.aload_n 0) 1, ef (.getfield 40) 9 18, e0 (.iload 5) 2, e0 .iaload 1, e0 .iastore 1, e0 (.aload_n 0) 1, ef (.getfield 43) 9 19, e0 (.iload 5) 2, e1 (.iconst 1) 1 1, e0 .isub 1, e0 (.aload_n 0) 1, ef (.getfield 43) 9 19, e0 (.iload 5) 2, e0 .iaload 1, e0 .iastore 1, e1 (.iinc 5 1) 3 1, eb (.goto (-74)) 34, e0 (.aload_n 0) 1, e0 .dup 1, ef (.getfield 162) 9 14, e1 (.iconst 1) 1 1, e0 .isub 1, ef (.putfield 162) 9 14, e0 (.aload_n 0) 1, ef (.getfield 34) 9 16, e0 (.aload_n 0) 1, ef (.getfield 162) 9 14, e0 (.iload_n 1) 1, e0 .iastore 1, e0 (.aload_n 0) 1, ef (.getfield 37) 9 17, e0 (.aload_n 0) 1, ef (.getfield 162) 9 14, e0 (.iload_n 2) 1, e0 .iastore 1, e0 (.aload_n 0) 1, ef (.getfield 40) 9 18, e0 (.aload_n 0) 1, ef (.getfield 162) 9 14, e0 (.iload 4) 2, e0 .iastore 1, e0 (.aload_n 0) 1, ef (.getfield 43) 9 19, e0 (.aload_n 0) 1, ef (.getfield 162) 9 14, e0 (.iload_n 3) 1, e0 .iastore 1, e0 (.aload_n 0) 1, e0 .dup 1, ef (.getfield 162) 9 14, e1 (.iconst 1) 1 1, e0 .iadd 1, ef (.putfield 162) 9 14, e0 (.aload_n 0) 1, e0 (.iload_n 1) 1, e0 (.iload_n 2) 1, e0 (.iload_n 3) 1, em (.invokevirtual 165) 4 9 mi_M_lays, e0 (.iload 4) 2, e0 .ireturn 1]
theorem dt_M_changes : bt_dec mi_M_changes.2.1 mi_M_changes.2.2.1 0 ct_M_changes = true := by decide +kernel
theorem kt_M_changes : bt_T mi_M_changes ct_M_changes := ⟨dt_M_changes, ⟨trivial, ⟨trivial, ⟨trivial, ⟨bv_M_155, ⟨trivial, ⟨trivial, ⟨trivial, ⟨trivial, ⟨trivial, ⟨trivial, ⟨trivial, ⟨trivial, ⟨lp_M_159, ⟨trivial, ⟨lg_M_162, ⟨trivial, ⟨trivial, ⟨trivial, ⟨trivial, ⟨trivial, ⟨trivial, ⟨trivial, ⟨trivial, ⟨lg_M_34, ⟨trivial, ⟨trivial, ⟨trivial, ⟨trivial, ⟨lg_M_34, ⟨trivial, ⟨trivial, ⟨trivial, ⟨trivial, ⟨lg_M_37, ⟨trivial, ⟨trivial, ⟨trivial, ⟨trivial, ⟨lg_M_37, ⟨trivial, ⟨trivial, ⟨trivial, ⟨trivial, ⟨lg_M_40, ⟨trivial, ⟨trivial, ⟨trivial, ⟨trivial, ⟨lg_M_40, ⟨trivial, ⟨trivial, ⟨trivial, ⟨trivial, ⟨lg_M_43, ⟨trivial, ⟨trivial, ⟨trivial, ⟨trivial, ⟨lg_M_43, ⟨trivial, ⟨trivial, ⟨trivial, ⟨trivial, ⟨trivial, ⟨trivial, ⟨trivial, ⟨lg_M_162, ⟨trivial, ⟨trivial, ⟨lp_M_162, ⟨trivial, ⟨lg_M_34, ⟨trivial, ⟨lg_M_162, ⟨trivial, ⟨trivial, ⟨trivial, ⟨lg_M_37, ⟨trivial, ⟨lg_M_162, ⟨trivial, ⟨trivial, ⟨trivial, ⟨lg_M_40, ⟨trivial, ⟨lg_M_162, ⟨trivial, ⟨trivial, ⟨trivial, ⟨lg_M_43, ⟨trivial, ⟨lg_M_162, ⟨trivial, ⟨trivial, ⟨trivial, ⟨trivial, ⟨lg_M_162, ⟨trivial, ⟨trivial, ⟨lp_M_162, ⟨trivial, ⟨trivial, ⟨trivial, ⟨trivial, ⟨bv_M_165, ⟨trivial, ⟨trivial, trivial⟩⟩⟩⟩⟩⟩⟩⟩⟩⟩⟩⟩⟩⟩⟩⟩⟩⟩⟩⟩⟩⟩⟩⟩⟩⟩⟩⟩⟩⟩⟩⟩⟩⟩⟩⟩⟩⟩⟩⟩⟩⟩⟩⟩⟩⟩⟩⟩⟩⟩⟩⟩⟩⟩⟩⟩⟩⟩⟩⟩⟩⟩⟩⟩⟩⟩⟩⟩⟩⟩⟩⟩⟩⟩⟩⟩⟩⟩⟩⟩⟩⟩⟩⟩⟩⟩⟩⟩⟩⟩⟩⟩⟩⟩⟩⟩⟩⟩⟩⟩⟩⟩⟩⟩⟩⟩⟩⟩
def ct_M_undo : List bt_E := [e0 (.aload_n 0) 1, ef (.getfield 162) 9 14, eb (.ifCond .ne 6) 10, e1 (.bipush (-5)) 2 (-5), e0 .ireturn 1, e0 (.aload_n 0) 1, e0 .dup 1, ef (.getfield 162) 9 14, e1 (.iconst 1) 1 1, e0 .isub 1, ef (.putfield 162) 9 14, e0 (.aload_n 0) 1, e0 .dup 1, ef (.getfield 159) 9 15, e1 (.iconst 1) 1 1, e0 .iadd 1, ef (.putfield 159) 9 15, e0 (.aload_n 0) 1, e0 (.aload_n 0) 1, ef (.getfield 34) 9 16, e0 (.aload_n 0) 1, ef (.getfield 162) 9 14, e0 .iaload 1, e0 (.aload_n 0) 1, ef (.getfield 37) 9 17, e0 (.aload_n 0) 1, ef (.getfield 162) 9 14, e0 .iaload 1, e0 (.aload_n 0) 1, ef (.getfield 40) 9 18, e0 (.aload_n 0) 1, ef (.getfield 162) 9 14, e0 .iaload 1, em (.invokevirtual 165) 4 9 mi_M_lays, e0 (.aload_n 0) 1, ef (.getfield 162) 9 14, e0 .ireturn 1]
theorem dt_M_undo : bt_dec mi_M_undo.2.1 mi_M_undo.2.2.1 0 ct_M_undo = true := by decide +kernel
theorem kt_M_undo : bt_T mi_M_undo ct_M_undo := ⟨dt_M_undo, ⟨trivial, ⟨lg_M_162, ⟨trivial, ⟨trivial, ⟨trivial, ⟨trivial, ⟨trivial, ⟨lg_M_162, ⟨trivial, ⟨trivial, ⟨lp_M_162, ⟨trivial, ⟨trivial, ⟨lg_M_159, ⟨trivial, ⟨trivial, ⟨lp_M_159, ⟨trivial, ⟨trivial, ⟨lg_M_34, ⟨trivial, ⟨lg_M_162, ⟨trivial, ⟨trivial, ⟨lg_M_37, ⟨trivial, ⟨lg_M_162, ⟨trivial, ⟨trivial, ⟨lg_M_40, ⟨trivial, ⟨lg_M_162, ⟨trivial, ⟨bv_M_165, ⟨trivial, ⟨lg_M_162, ⟨trivial, trivial⟩⟩⟩⟩⟩⟩⟩⟩⟩⟩⟩⟩⟩⟩⟩⟩⟩⟩⟩⟩⟩⟩⟩⟩⟩⟩⟩⟩⟩⟩⟩⟩⟩⟩⟩⟩⟩⟩
def ct_M_redo : List bt_E := [e0 (.aload_n 0) 1, ef (.getfield 159) 9 15, eb (.ifCond .ne 6) 10, e1 (.bipush (-5)) 2 (-5), e0 .ireturn 1, e0 (.aload_n 0) 1, e0 (.aload_n 0) 1, ef (.getfield 34) 9 16, e0 (.aload_n 0) 1, ef (.getfield 162) 9 14, e0 .iaload 1, e0 (.aload_n 0) 1, ef (.getfield 37) 9 17, e0 (.aload_n 0) 1, ef (.getfield 162) 9 14, e0 .iaload 1, e0 (.aload_n 0) 1, ef (.getfield 43) 9 19, e0 (.aload_n 0) 1, ef (.getfield 162) 9 14, e0 .iaload 1, em (.invokevirtual 165) 4 9 mi_M_lays, e0 (.aload_n 0) 1, e0 .dup 1, ef (.getfield 162) 9 14, e1 (.iconst 1) 1 1, e0 .iadd 1, ef (.putfield 162) 9 14, e0 (.aload_n 0) 1, e0 .dup 1, ef (.getfield 159) 9 15, e1 (.iconst 1) 1 1, e0 .isub 1, ef (.putfield 159) 9 15, e0 (.aload_n 0) 1, ef (.getfield 159) 9 15, e0 .ireturn 1]
theorem dt_M_redo : bt_dec mi_M_redo.2.1 mi_M_redo.2.2.1 0 ct_M_redo = true := by decide +kernel
theorem kt_M_redo : bt_T mi_M_redo ct_M_redo := ⟨dt_M_redo, ⟨trivial, ⟨lg_M_159, ⟨trivial, ⟨trivial, ⟨trivial, ⟨trivial, ⟨trivial, ⟨lg_M_34, ⟨trivial, ⟨lg_M_162, ⟨trivial, ⟨trivial, ⟨lg_M_37, ⟨trivial, ⟨lg_M_162, ⟨trivial, ⟨trivial, ⟨lg_M_43, ⟨trivial, ⟨lg_M_162, ⟨trivial, ⟨bv_M_165, ⟨trivial, ⟨trivial, ⟨lg_M_162, ⟨trivial, ⟨trivial, ⟨lp_M_162, ⟨trivial, ⟨trivial, ⟨lg_M_159, ⟨trivial, ⟨trivial, ⟨lp_M_159, ⟨trivial, ⟨lg_M_159, ⟨trivial, trivial⟩⟩⟩⟩⟩⟩⟩⟩⟩⟩⟩⟩⟩⟩⟩⟩⟩⟩⟩⟩⟩⟩⟩⟩⟩⟩⟩⟩⟩⟩⟩⟩⟩⟩⟩⟩⟩⟩
def ct_M_isThing : List bt_E := [e0 (.iload_n 2) 1, e1 (.iconst 0) 1 0, e1 (.iconst 3) 1 3, em (.invokestatic 125) 3 100 mi_M_in, eb (.ifCond .eq 9) 15, e0 (.aload_n 0) 1, e0 (.iload_n 1) 1, em (.invokevirtual 139) 2 9 mi_M_isTree, e0 .ireturn 1, e0 (.iload_n 2) 1, e1 (.iconst 4) 1 4, eb (.if_icmp .ne 8) 25, e0 (.iload_n 1) 1, em (.invokestatic 169) 1 100 mi_M_isMinute, e0 .ireturn 1, e0 (.iload_n 2) 1, e1 (.iconst 5) 1 5, eb (.if_icmp .ne 8) 35, e0 (.iload_n 1) 1, em (.invokestatic 172) 1 100 mi_M_isSort, e0 .ireturn 1, e0 (.iload_n 2) 1, e1 (.bipush 6) 2 6, e1 (.bipush 7) 2 7, em (.invokestatic 125) 3 100 mi_M_in, eb (.ifCond .eq 11) 54, e0 (.iload_n 1) 1, eb (.ifCond .ne 7) 54, e1 (.iconst 1) 1 1, eb (.goto 4) 55, e1 (.iconst 0) 1 0, e0 .ireturn 1]
theorem dt_M_isThing : bt_dec mi_M_isThing.2.1 mi_M_isThing.2.2.1 0 ct_M_isThing = true := by decide +kernel
theorem kt_M_isThing : bt_T mi_M_isThing ct_M_isThing := ⟨dt_M_isThing, ⟨trivial, ⟨trivial, ⟨trivial, ⟨⟨fun _ => bs_M_125, (fun h => by cases h)⟩, ⟨trivial, ⟨trivial, ⟨trivial, ⟨bv_M_139, ⟨trivial, ⟨trivial, ⟨trivial, ⟨trivial, ⟨trivial, ⟨⟨fun _ => bs_M_169, (fun h => by cases h)⟩, ⟨trivial, ⟨trivial, ⟨trivial, ⟨trivial, ⟨trivial, ⟨⟨fun _ => bs_M_172, (fun h => by cases h)⟩, ⟨trivial, ⟨trivial, ⟨trivial, ⟨trivial, ⟨⟨fun _ => bs_M_125, (fun h => by cases h)⟩, ⟨trivial, ⟨trivial, ⟨trivial, ⟨trivial, ⟨trivial, ⟨trivial, ⟨trivial, trivial⟩⟩⟩⟩⟩⟩⟩⟩⟩⟩⟩⟩⟩⟩⟩⟩⟩⟩⟩⟩⟩⟩⟩⟩⟩⟩⟩⟩⟩⟩⟩⟩⟩
def ct_M_mend : List bt_E := [e0 (.aload_n 0) 1, e0 (.iload_n 1) 1, e0 (.iload_n 2) 1, em (.invokevirtual 175) 3 9 mi_M_isThing, eb (.ifCond .eq 43) 49, e0 (.iload_n 3) 1, e1 (.iconst 0) 1 0, e0 (.iload_n 2) 1, e1 (.iconst 3) 1 3, eb (.if_icmp .ne 7) 20, e1 (.iconst 1) 1 1, eb (.goto 16) 33, e0 (.iload_n 2) 1, e1 (.bipush 7) 2 7, eb (.if_icmp .ne 8) 31, e1 (.bipush 7) 2 7, eb (.goto 5) 33, e1 (.bipush 9) 2 9, em (.invokestatic 125) 3 100 mi_M_in, eb (.ifCond .eq 13) 49, e0 (.aload_n 0) 1, e0 (.iload_n 2) 1, e0 (.iload_n 1) 1, e0 (.iload_n 3) 1, em (.invokevirtual 178) 4 9 mi_M_changes, eb (.goto 4) 50, e1 (.iconst (-1)) 1 (-1), e0 .ireturn 1]
theorem dt_M_mend : bt_dec mi_M_mend.2.1 mi_M_mend.2.2.1 0 ct_M_mend = true := by decide +kernel
theorem kt_M_mend : bt_T mi_M_mend ct_M_mend := ⟨dt_M_mend, ⟨trivial, ⟨trivial, ⟨trivial, ⟨bv_M_175, ⟨trivial, ⟨trivial, ⟨trivial, ⟨trivial, ⟨trivial, ⟨trivial, ⟨trivial, ⟨trivial, ⟨trivial, ⟨trivial, ⟨trivial, ⟨trivial, ⟨trivial, ⟨trivial, ⟨⟨fun _ => bs_M_125, (fun h => by cases h)⟩, ⟨trivial, ⟨trivial, ⟨trivial, ⟨trivial, ⟨trivial, ⟨bv_M_178, ⟨trivial, ⟨trivial, ⟨trivial, trivial⟩⟩⟩⟩⟩⟩⟩⟩⟩⟩⟩⟩⟩⟩⟩⟩⟩⟩⟩⟩⟩⟩⟩⟩⟩⟩⟩⟩⟩
def ct_M_findFar : List bt_E := [e1 (.iconst 0) 1 0, e0 (.istore_n 1) 1, e0 (.iload_n 1) 1, e0 (.aload_n 0) 1, ef (.getfield 122) 9 1, eb (.if_icmp .ge 29) 36, e0 (.aload_n 0) 1, ef (.getfield 46) 9 20, e0 (.iload_n 1) 1, e0 (.iload_n 1) 1, e0 (.aload_n 0) 1, ef (.getfield 152) 9 13, eb (.if_icmp .ne 7) 27, e1 (.iconst 0) 1 0, eb (.goto 5) 29, e1 (.bipush 9) 2 9, e0 .iastore 1, e1 (.iinc 1 1) 3 1, eb (.goto (-31)) 2, e1 (.iconst 0) 1 0, e0 (.istore_n 1) 1, e0 (.iload_n 1) 1, e1 (.bipush 8) 2 8, eb (.if_icmp .ge 81) 122, e1 (.iconst 0) 1 0, e0 (.istore_n 2) 1, e0 (.iload_n 2) 1, e0 (.aload_n 0) 1, ef (.getfield 122) 9 1, eb (.if_icmp .ge 65) 116, e1 (.iconst 0) 1 0, e0 (.istore_n 3) 1, e0 (.iload_n 3) 1, e0 (.aload_n 0) 1, ef (.getfield 122) 9 1, eb (.if_icmp .ge 49) 110, e0 (.aload_n 0) 1, ef (.getfield 46) 9 20, e0 (.iload_n 2) 1, e0 .iaload 1, e0 (.iload_n 1) 1, eb (.if_icmp .ne 33) 104, e0 (.aload_n 0) 1, e0 (.iload_n 2) 1, e0 (.iload_n 3) 1, em (.invokevirtual 142) 3 9 mi_M_areBeside, eb (.ifCond .eq 24) 104, e0 (.aload_n 0) 1, ef (.getfield 46) 9 20, e0 (.iload_n 3) 1, e0 .iaload 1, e0 (.iload_n 1) 1, e1 (.iconst 1) 1 1, e0 .iadd 1, eb (.if_icmp .le 12) 104, e0 (.aload_n 0) 1, ef (.getfield 46) 9 20, e0 (.iload_n 3) 1, e0 (.iload_n 1) 1, e1 (.iconst 1) 1 1, e0 .iadd 1, e0 .iastore 1, e1 (.iinc 3 1) 3 1, eb (.goto (-51)) 56, e1 (.iinc 2 1) 3 1, eb (.goto (-67)) 46, e1 (.iinc 1 1) 3 1, eb (.goto (-81)) 38, e0 .return_ 1]
theorem dt_M_findFar : bt_dec mi_M_findFar.2.1 mi_M_findFar.2.2.1 0 ct_M_findFar = true := by decide +kernel
theorem kt_M_findFar : bt_T mi_M_findFar ct_M_findFar := ⟨dt_M_findFar, ⟨trivial, ⟨trivial, ⟨trivial, ⟨trivial, ⟨lg_M_122, ⟨trivial, ⟨trivial, ⟨lg_M_46, ⟨trivial, ⟨trivial, ⟨trivial, ⟨lg_M_152, ⟨trivial, ⟨trivial, ⟨trivial, ⟨trivial, ⟨trivial, ⟨trivial, ⟨trivial, ⟨trivial, ⟨trivial, ⟨trivial, ⟨trivial, ⟨trivial, ⟨trivial, ⟨trivial, ⟨trivial, ⟨trivial, ⟨lg_M_122, ⟨trivial, ⟨trivial, ⟨trivial, ⟨trivial, ⟨trivial, ⟨lg_M_122, ⟨trivial, ⟨trivial, ⟨lg_M_46, ⟨trivial, ⟨trivial, ⟨trivial, ⟨trivial, ⟨trivial, ⟨trivial, ⟨trivial, ⟨bv_M_142, ⟨trivial, ⟨trivial, ⟨lg_M_46, ⟨trivial, ⟨trivial, ⟨trivial, ⟨trivial, ⟨trivial, ⟨trivial, ⟨trivial, ⟨lg_M_46, ⟨trivial, ⟨trivial, ⟨trivial, ⟨trivial, ⟨trivial, ⟨trivial, ⟨trivial, ⟨trivial, ⟨trivial, ⟨trivial, ⟨trivial, ⟨trivial, trivial⟩⟩⟩⟩⟩⟩⟩⟩⟩⟩⟩⟩⟩⟩⟩⟩⟩⟩⟩⟩⟩⟩⟩⟩⟩⟩⟩⟩⟩⟩⟩⟩⟩⟩⟩⟩⟩⟩⟩⟩⟩⟩⟩⟩⟩⟩⟩⟩⟩⟩⟩⟩⟩⟩⟩⟩⟩⟩⟩⟩⟩⟩⟩⟩⟩⟩⟩⟩⟩⟩
def ct_M_of : List bt_E := [e0 (.iload_n 2) 1, e1 (.iconst 0) 1 0, e1 (.bipush 7) 2 7, em (.invokestatic 125) 3 100 mi_M_in, eb (.ifCond .eq 23) 30, e0 (.aload_n 0) 1, e0 (.iload_n 1) 1, e0 (.iload_n 2) 1, em (.invokevirtual 175) 3 9 mi_M_isThing, eb (.ifCond .eq 12) 28, e0 (.aload_n 0) 1, e0 (.iload_n 2) 1, e0 (.iload_n 1) 1, em (.invokevirtual 155) 3 9 mi_M_valueAt, eb (.goto 4) 29, e1 (.iconst (-1)) 1 (-1), e0 .ireturn 1, e0 (.iload_n 2) 1, e1 (.bipush 12) 2 12, eb (.if_icmp .ne 16) 49, e0 (.iload_n 1) 1, eb (.ifCond .ne 10) 47, e0 (.aload_n 0) 1, ef (.getfield 181) 9 9, eb (.goto 4) 48, e1 (.iconst (-1)) 1 (-1), e0 .ireturn 1, e0 (.iload_n 2) 1, e1 (.bipush 10) 2 10, e1 (.bipush 11) 2 11, em (.invokestatic 125) 3 100 mi_M_in, eb (.ifCond .eq 11) 68, e0 (.aload_n 0) 1, e0 (.iload_n 1) 1, em (.invokevirtual 139) 2 9 mi_M_isTree, eb (.ifCond .ne 5) 70, e1 (.iconst (-1)) 1 (-1), e0 .ireturn 1, e0 (.aload_n 0) 1, em (.invokevirtual 184) 1 9 mi_M_findFar, e0 (.iload_n 2) 1, e1 (.bipush 10) 2 10, eb (.if_icmp .ne 12) 89, e0 (.aload_n 0) 1, ef (.getfield 46) 9 20, e0 (.iload_n 1) 1, e0 .iaload 1, eb (.goto 9) 95, e0 (.aload_n 0) 1, ef (.getfield 25) 9 7, e0 (.iload_n 1) 1, e0 .iaload 1, e0 .ireturn 1]
theorem dt_M_of : bt_dec mi_M_of.2.1 mi_M_of.2.2.1 0 ct_M_of = true := by decide +kernel
theorem kt_M_of : bt_T mi_M_of ct_M_of := ⟨dt_M_of, ⟨trivial, ⟨trivial, ⟨trivial, ⟨⟨fun _ => bs_M_125, (fun h => by cases h)⟩, ⟨trivial, ⟨trivial, ⟨trivial, ⟨trivial, ⟨bv_M_175, ⟨trivial, ⟨trivial, ⟨trivial, ⟨trivial, ⟨bv_M_155, ⟨trivial, ⟨trivial, ⟨trivial, ⟨trivial, ⟨trivial, ⟨trivial, ⟨trivial, ⟨trivial, ⟨trivial, ⟨lg_M_181, ⟨trivial, ⟨trivial, ⟨trivial, ⟨trivial, ⟨trivial, ⟨trivial, ⟨⟨fun _ => bs_M_125, (fun h => by cases h)⟩, ⟨trivial, ⟨trivial, ⟨trivial, ⟨bv_M_139, ⟨trivial, ⟨trivial, ⟨trivial, ⟨trivial, ⟨bv_M_184, ⟨trivial, ⟨trivial, ⟨trivial, ⟨trivial, ⟨lg_M_46, ⟨trivial, ⟨trivial, ⟨trivial, ⟨trivial, ⟨lg_M_25, ⟨trivial, ⟨trivial, ⟨trivial, trivial⟩⟩⟩⟩⟩⟩⟩⟩⟩⟩⟩⟩⟩⟩⟩⟩⟩⟩⟩⟩⟩⟩⟩⟩⟩⟩⟩⟩⟩⟩⟩⟩⟩⟩⟩⟩⟩⟩⟩⟩⟩⟩⟩⟩⟩⟩⟩⟩⟩⟩⟩⟩⟩⟩
def ct_M_feed : List bt_E := [e0 (.iload_n 1) 1, e1 (.iconst 0) 1 0, e1 (.sipush 255) 3 255, em (.invokestatic 125) 3 100 mi_M_in, eb (.ifCond .ne 5) 13, e1 (.iconst (-1)) 1 (-1), e0 .ireturn 1, e0 (.aload_n 0) 1, ef (.getfield 187) 9 22, e1 (.bipush 120) 2 120, eb (.if_icmp .ne 6) 25, e1 (.bipush (-3)) 2 (-3), e0 .ireturn 1, e0 (.aload_n 0) 1, ef (.getfield 49) 9 21, e0 (.aload_n 0) 1, ef (.getfield 187) 9 22, e0 (.iload_n 1) 1, e0 .i2b 1, e0 .bastore 1, e0 (.aload_n 0) 1, e0 .dup 1, ef (.getfield 187) 9 22, e1 (.iconst 1) 1 1, e0 .iadd 1, ef (.putfield 187) 9 22, e0 (.aload_n 0) 1, ef (.getfield 187) 9 22, e0 .ireturn 1]
theorem dt_M_feed : bt_dec mi_M_feed.2.1 mi_M_feed.2.2.1 0 ct_M_feed = true := by decide +kernel
theorem kt_M_feed : bt_T mi_M_feed ct_M_feed := ⟨dt_M_feed, ⟨trivial, ⟨trivial, ⟨trivial, ⟨⟨fun _ => bs_M_125, (fun h => by cases h)⟩, ⟨trivial, ⟨trivial, ⟨trivial, ⟨trivial, ⟨lg_M_187, ⟨trivial, ⟨trivial, ⟨trivial, ⟨trivial, ⟨trivial, ⟨lg_M_49, ⟨trivial, ⟨lg_M_187, ⟨trivial, ⟨trivial, ⟨trivial, ⟨trivial, ⟨trivial, ⟨lg_M_187, ⟨trivial, ⟨trivial, ⟨lp_M_187, ⟨trivial, ⟨lg_M_187, ⟨trivial, trivial⟩⟩⟩⟩⟩⟩⟩⟩⟩⟩⟩⟩⟩⟩⟩⟩⟩⟩⟩⟩⟩⟩⟩⟩⟩⟩⟩⟩⟩⟩
def ct_M_look : List bt_E := [e0 (.aload_n 0) 1, ef (.getfield 190) 9 23, e0 (.aload_n 0) 1, ef (.getfield 187) 9 22, eb (.if_icmp .ge 15) 23, e0 (.aload_n 0) 1, ef (.getfield 49) 9 21, e0 (.aload_n 0) 1, ef (.getfield 190) 9 23, e0 .baload 1, eb (.goto 4) 24, e1 (.iconst (-1)) 1 (-1), e0 .ireturn 1]
theorem dt_M_look : bt_dec mi_M_look.2.1 mi_M_look.2.2.1 0 ct_M_look = true := by decide +kernel
theorem kt_M_look : bt_T mi_M_look ct_M_look := ⟨dt_M_look, ⟨trivial, ⟨lg_M_190, ⟨trivial, ⟨lg_M_187, ⟨trivial, ⟨trivial, ⟨lg_M_49, ⟨trivial, ⟨lg_M_190, ⟨trivial, ⟨trivial, ⟨trivial, ⟨trivial, trivial⟩⟩⟩⟩⟩⟩⟩⟩⟩⟩⟩⟩⟩⟩
def ct_M_faulty : List bt_E := [e0 (.aload_n 0) 1, ef (.getfield 193) 9 24, eb (.ifCond .ge 11) 15, e0 (.aload_n 0) 1, e0 (.aload_n 0) 1, ef (.getfield 190) 9 23, ef (.putfield 193) 9 24, e0 .return_ 1]
theorem dt_M_faulty : bt_dec mi_M_faulty.2.1 mi_M_faulty.2.2.1 0 ct_M_faulty = true := by decide +kernel
theorem kt_M_faulty : bt_T mi_M_faulty ct_M_faulty := ⟨dt_M_faulty, ⟨trivial, ⟨lg_M_193, ⟨trivial, ⟨trivial, ⟨trivial, ⟨lg_M_190, ⟨lp_M_193, ⟨trivial, trivial⟩⟩⟩⟩⟩⟩⟩⟩⟩
def ct_M_addStep : List bt_E := [e0 (.aload_n 0) 1, ef (.getfield 53) 9 27, e1 (.sipush 130) 3 130, e0 (.aload_n 0) 1, ef (.getfield 196) 9 26, e0 .iadd 1, e0 (.iload_n 1) 1, e0 .i2b 1, e0 .bastore 1, e0 (.aload_n 0) 1, ef (.getfield 56) 9 28, e1 (.sipush 130) 3 130, e0 (.aload_n 0) 1, ef (.getfield 196) 9 26, e0 .iadd 1, e0 (.iload_n 2) 1, e0 .iastore 1, e0 (.aload_n 0) 1, e0 .dup 1, ef (.getfield 196) 9 26, e1 (.iconst 1) 1 1, e0 .iadd 1, ef (.putfield 196) 9 26, e0 .return_ 1]
theorem dt_M_addStep : bt_dec mi_M_addStep.2.1 mi_M_addStep.2.2.1 0 ct_M_addStep = true := by decide +kernel
theorem kt_M_addStep : bt_T mi_M_addStep ct_M_addStep := ⟨dt_M_addStep, ⟨trivial, ⟨lg_M_53, ⟨trivial, ⟨trivial, ⟨lg_M_196, ⟨trivial, ⟨trivial, ⟨trivial, ⟨trivial, ⟨trivial, ⟨lg_M_56, ⟨trivial, ⟨trivial, ⟨lg_M_196, ⟨trivial, ⟨trivial, ⟨trivial, ⟨trivial, ⟨trivial, ⟨lg_M_196, ⟨trivial, ⟨trivial, ⟨lp_M_196, ⟨trivial, trivial⟩⟩⟩⟩⟩⟩⟩⟩⟩⟩⟩⟩⟩⟩⟩⟩⟩⟩⟩⟩⟩⟩⟩⟩⟩
def ct_M_nameOf : List bt_E := [e0 (.iload_n 0) 1, ew (.tableswitch 107 100 119 #[97, 107, 107, 107, 107, 107, 107, 105, 95, 107, 107, 107, 101, 107, 107, 103, 107, 107, 107, 99]) 95 108 [(100, 98), (101, 108), (102, 108), (103, 108), (104, 108), (105, 108), (106, 108), (107, 106), (108, 96), (109, 108), (110, 108), (111, 108), (112, 102), (113, 108), (114, 108), (115, 104), (116, 108), (117, 108), (118, 108), (119, 100)], e1 (.iconst 0) 1 0, e0 .ireturn 1, e1 (.iconst 1) 1 1, e0 .ireturn 1, e1 (.iconst 2) 1 2, e0 .ireturn 1, e1 (.iconst 3) 1 3, e0 .ireturn 1, e1 (.iconst 4) 1 4, e0 .ireturn 1, e1 (.iconst 5) 1 5, e0 .ireturn 1, e1 (.iconst (-1)) 1 (-1), e0 .ireturn 1]
theorem dt_M_nameOf : bt_dec mi_M_nameOf.2.1 mi_M_nameOf.2.2.1 0 ct_M_nameOf = true := by decide +kernel
theorem kt_M_nameOf : bt_T mi_M_nameOf ct_M_nameOf := ⟨dt_M_nameOf, ⟨trivial, ⟨trivial, ⟨trivial, ⟨trivial, ⟨trivial, ⟨trivial, ⟨trivial, ⟨trivial, ⟨trivial, ⟨trivial, ⟨trivial, ⟨trivial, ⟨trivial, ⟨trivial, ⟨trivial, ⟨trivial, trivial⟩⟩⟩⟩⟩⟩⟩⟩⟩⟩⟩⟩⟩⟩⟩⟩⟩
def ct_M_opens : List bt_E := [e0 (.aload_n 0) 1, ef (.getfield 199) 9 25, e1 (.bipush 6) 2 6, eb (.if_icmp .ne 9) 15, e0 (.aload_n 0) 1, em (.invokevirtual 202) 1 9 mi_M_faulty, e1 (.iconst 0) 1 0, e0 .ireturn 1, e0 (.aload_n 0) 1, e0 .dup 1, ef (.getfield 199) 9 25, e1 (.iconst 1) 1 1, e0 .iadd 1, ef (.putfield 199) 9 25, e0 (.aload_n 0) 1, e0 .dup 1, ef (.getfield 190) 9 23, e1 (.iconst 1) 1 1, e0 .iadd 1, ef (.putfield 190) 9 23, e1 (.iconst 1) 1 1, e0 .ireturn 1]
theorem dt_M_opens : bt_dec mi_M_opens.2.1 mi_M_opens.2.2.1 0 ct_M_opens = true := by decide +kernel
theorem kt_M_opens : bt_T mi_M_opens ct_M_opens := ⟨dt_M_opens, ⟨trivial, ⟨lg_M_199, ⟨trivial, ⟨trivial, ⟨trivial, ⟨bv_M_202, ⟨trivial, ⟨trivial, ⟨trivial, ⟨trivial, ⟨lg_M_199, ⟨trivial, ⟨trivial, ⟨lp_M_199, ⟨trivial, ⟨trivial, ⟨lg_M_190, ⟨trivial, ⟨trivial, ⟨lp_M_190, ⟨trivial, ⟨trivial, trivial⟩⟩⟩⟩⟩⟩⟩⟩⟩⟩⟩⟩⟩⟩⟩⟩⟩⟩⟩⟩⟩⟩⟩
def ct_M_figure : List bt_E := [e1 (.iconst 0) 1 0, e0 (.istore_n 1) 1, e1 (.iconst 0) 1 0, e0 (.istore_n 2) 1, e0 (.iload_n 2) 1, e1 (.iconst 4) 1 4, eb (.if_icmp .ge 46) 52, e0 (.aload_n 0) 1, em (.invokevirtual 205) 1 9 mi_M_look, e1 (.bipush 48) 2 48, e1 (.bipush 57) 2 57, em (.invokestatic 125) 3 100 mi_M_in, eb (.ifCond .eq 32) 52, e1 (.bipush 10) 2 10, e0 (.iload_n 1) 1, e0 .imul 1, e0 (.aload_n 0) 1, em (.invokevirtual 205) 1 9 mi_M_look, e0 .iadd 1, e1 (.bipush 48) 2 48, e0 .isub 1, e0 (.istore_n 1) 1, e1 (.iinc 2 1) 3 1, e0 (.aload_n 0) 1, e0 .dup 1, ef (.getfield 190) 9 23, e1 (.iconst 1) 1 1, e0 .iadd 1, ef (.putfield 190) 9 23, eb (.goto (-45)) 4, e0 (.iload_n 2) 1, eb (.ifCond .eq 17) 70, e0 (.aload_n 0) 1, em (.invokevirtual 205) 1 9 mi_M_look, e1 (.bipush 48) 2 48, e1 (.bipush 57) 2 57, em (.invokestatic 125) 3 100 mi_M_in, eb (.ifCond .eq 7) 74, e0 (.aload_n 0) 1, em (.invokevirtual 202) 1 9 mi_M_faulty, e0 (.aload_n 0) 1, e1 (.iconst 1) 1 1, e0 (.iload_n 1) 1, em (.invokevirtual 209) 3 9 mi_M_addStep, e0 .return_ 1]
theorem dt_M_figure : bt_dec mi_M_figure.2.1 mi_M_figure.2.2.1 0 ct_M_figure = true := by decide +kernel
theorem kt_M_figure : bt_T mi_M_figure ct_M_figure := ⟨dt_M_figure, ⟨trivial, ⟨trivial, ⟨trivial, ⟨trivial, ⟨trivial, ⟨trivial, ⟨trivial, ⟨trivial, ⟨bv_M_205, ⟨trivial, ⟨trivial, ⟨⟨fun _ => bs_M_125, (fun h => by cases h)⟩, ⟨trivial, ⟨trivial, ⟨trivial, ⟨trivial, ⟨trivial, ⟨bv_M_205, ⟨trivial, ⟨trivial, ⟨trivial, ⟨trivial, ⟨trivial, ⟨trivial, ⟨trivial, ⟨lg_M_190, ⟨trivial, ⟨trivial, ⟨lp_M_190, ⟨trivial, ⟨trivial, ⟨trivial, ⟨trivial, ⟨bv_M_205, ⟨trivial, ⟨trivial, ⟨⟨fun _ => bs_M_125, (fun h => by cases h)⟩, ⟨trivial, ⟨trivial, ⟨bv_M_202, ⟨trivial, ⟨trivial, ⟨trivial, ⟨bv_M_209, ⟨trivial, trivial⟩⟩⟩⟩⟩⟩⟩⟩⟩⟩⟩⟩⟩⟩⟩⟩⟩⟩⟩⟩⟩⟩⟩⟩⟩⟩⟩⟩⟩⟩⟩⟩⟩⟩⟩⟩⟩⟩⟩⟩⟩⟩⟩⟩⟩⟩
def ct_M_operand : List bt_E := [e0 (.aload_n 0) 1, em (.invokevirtual 205) 1 9 mi_M_look, e0 (.istore_n 1) 1, e0 (.iload_n 1) 1, em (.invokestatic 213) 1 100 mi_M_nameOf, eb (.ifCond .lt 25) 34, e0 (.aload_n 0) 1, e1 (.iconst 2) 1 2, e0 (.iload_n 1) 1, em (.invokestatic 213) 1 100 mi_M_nameOf, em (.invokevirtual 209) 3 9 mi_M_addStep, e0 (.aload_n 0) 1, e0 .dup 1, ef (.getfield 190) 9 23, e1 (.iconst 1) 1 1, e0 .iadd 1, ef (.putfield 190) 9 23, eb (.goto 123) 154, e0 (.iload_n 1) 1, e1 (.bipush 33) 2 33, eb (.if_icmp .eq 9) 46, e0 (.iload_n 1) 1, e1 (.bipush 45) 2 45, eb (.if_icmp .ne 44) 87, e0 (.aload_n 0) 1, em (.invokevirtual 217) 1 9 mi_M_opens, eb (.ifCond .ne 4) 54, e0 .return_ 1, e0 (.aload_n 0) 1, em (.invokevirtual 221) 1 9 mi_M_operand, e0 (.aload_n 0) 1, e0 .dup 1, ef (.getfield 199) 9 25, e1 (.iconst 1) 1 1, e0 .isub 1, ef (.putfield 199) 9 25, e0 (.aload_n 0) 1, e0 (.iload_n 1) 1, e1 (.bipush 33) 2 33, eb (.if_icmp .ne 7) 79, e1 (.iconst 3) 1 3, eb (.goto 4) 80, e1 (.iconst 4) 1 4, e1 (.iconst 0) 1 0, em (.invokevirtual 209) 3 9 mi_M_addStep, eb (.goto 70) 154, e0 (.iload_n 1) 1, e1 (.bipush 40) 2 40, eb (.if_icmp .ne 60) 150, e0 (.aload_n 0) 1, em (.invokevirtual 217) 1 9 mi_M_opens, eb (.ifCond .ne 4) 101, e0 .return_ 1, e0 (.aload_n 0) 1, em (.invokevirtual 224) 1 9 mi_M_either, e0 (.aload_n 0) 1, ef (.getfield 193) 9 24, eb (.ifCond .lt 4) 113, e0 .return_ 1, e0 (.aload_n 0) 1, em (.invokevirtual 205) 1 9 mi_M_look, e1 (.bipush 41) 2 41, eb (.if_icmp .eq 8) 127, e0 (.aload_n 0) 1, em (.invokevirtual 202) 1 9 mi_M_faulty, e0 .return_ 1, e0 (.aload_n 0) 1, e0 .dup 1, ef (.getfield 190) 9 23, e1 (.iconst 1) 1 1, e0 .iadd 1, ef (.putfield 190) 9 23, e0 (.aload_n 0) 1, e0 .dup 1, ef (.getfield 199) 9 25, e1 (.iconst 1) 1 1, e0 .isub 1, ef (.putfield 199) 9 25, eb (.goto 7) 154, e0 (.aload_n 0) 1, em (.invokevirtual 227) 1 9 mi_M_figure, e0 .return_ 1]
theorem dt_M_operand : bt_dec mi_M_operand.2.1 mi_M_operand.2.2.1 0 ct_M_operand = true := by decide +kernel
theorem kt_M_operand : bt_T mi_M_operand ct_M_operand := ⟨dt_M_operand, ⟨trivial, ⟨bv_M_205, ⟨trivial, ⟨trivial, ⟨⟨fun _ => bs_M_213, (fun h => by cases h)⟩, ⟨trivial, ⟨trivial, ⟨trivial, ⟨trivial, ⟨⟨fun _ => bs_M_213, (fun h => by cases h)⟩, ⟨bv_M_209, ⟨trivial, ⟨trivial, ⟨lg_M_190, ⟨trivial, ⟨trivial, ⟨lp_M_190, ⟨trivial, ⟨trivial, ⟨trivial, ⟨trivial, ⟨trivial, ⟨trivial, ⟨trivial, ⟨trivial, ⟨bv_M_217, ⟨trivial, ⟨trivial, ⟨trivial, ⟨bv_M_221, ⟨trivial, ⟨trivial, ⟨lg_M_199, ⟨trivial, ⟨trivial, ⟨lp_M_199, ⟨trivial, ⟨trivial, ⟨trivial, ⟨trivial, ⟨trivial, ⟨trivial, ⟨trivial, ⟨trivial, ⟨bv_M_209, ⟨trivial, ⟨trivial, ⟨trivial, ⟨trivial, ⟨trivial, ⟨bv_M_217, ⟨trivial, ⟨trivial, ⟨trivial, ⟨bv_M_224, ⟨trivial, ⟨lg_M_193, ⟨trivial, ⟨trivial, ⟨trivial, ⟨bv_M_205, ⟨trivial, ⟨trivial, ⟨trivial, ⟨bv_M_202, ⟨trivial, ⟨trivial, ⟨trivial, ⟨lg_M_190, ⟨trivial, ⟨trivial, ⟨lp_M_190, ⟨trivial, ⟨trivial, ⟨lg_M_199, ⟨trivial, ⟨trivial, ⟨lp_M_199, ⟨trivial, ⟨trivial, ⟨bv_M_227, ⟨trivial, trivial⟩⟩⟩⟩⟩⟩⟩⟩⟩⟩⟩⟩⟩⟩⟩⟩⟩⟩⟩⟩⟩⟩⟩⟩⟩⟩⟩⟩⟩⟩⟩⟩⟩⟩⟩⟩⟩⟩⟩⟩⟩⟩⟩⟩⟩⟩⟩⟩⟩⟩⟩⟩⟩⟩⟩⟩⟩⟩⟩⟩⟩⟩⟩⟩⟩⟩⟩⟩⟩⟩⟩⟩⟩⟩⟩⟩⟩⟩⟩⟩⟩⟩⟩
def ct_M_product : List bt_E := [e0 (.aload_n 0) 1, em (.invokevirtual 221) 1 9 mi_M_operand, e0 (.aload_n 0) 1, ef (.getfield 193) 9 24, eb (.ifCond .ge 58) 66, e0 (.aload_n 0) 1, em (.invokevirtual 205) 1 9 mi_M_look, e1 (.bipush 42) 2 42, eb (.if_icmp .eq 21) 38, e0 (.aload_n 0) 1, em (.invokevirtual 205) 1 9 mi_M_look, e1 (.bipush 47) 2 47, eb (.if_icmp .eq 12) 38, e0 (.aload_n 0) 1, em (.invokevirtual 205) 1 9 mi_M_look, e1 (.bipush 37) 2 37, eb (.if_icmp .ne 31) 66, e0 (.aload_n 0) 1, em (.invokevirtual 205) 1 9 mi_M_look, e0 (.istore_n 1) 1, e0 (.aload_n 0) 1, e0 .dup 1, ef (.getfield 190) 9 23, e1 (.iconst 1) 1 1, e0 .iadd 1, ef (.putfield 190) 9 23, e0 (.aload_n 0) 1, em (.invokevirtual 221) 1 9 mi_M_operand, e0 (.aload_n 0) 1, e0 (.iload_n 1) 1, e1 (.iconst 0) 1 0, em (.invokevirtual 209) 3 9 mi_M_addStep, eb (.goto (-59)) 4, e0 .return_ 1]
theorem dt_M_product : bt_dec mi_M_product.2.1 mi_M_product.2.2.1 0 ct_M_product = true := by decide +kernel
theorem kt_M_product : bt_T mi_M_product ct_M_product := ⟨dt_M_product, ⟨trivial, ⟨bv_M_221, ⟨trivial, ⟨lg_M_193, ⟨trivial, ⟨trivial, ⟨bv_M_205, ⟨trivial, ⟨trivial, ⟨trivial, ⟨bv_M_205, ⟨trivial, ⟨trivial, ⟨trivial, ⟨bv_M_205, ⟨trivial, ⟨trivial, ⟨trivial, ⟨bv_M_205, ⟨trivial, ⟨trivial, ⟨trivial, ⟨lg_M_190, ⟨trivial, ⟨trivial, ⟨lp_M_190, ⟨trivial, ⟨bv_M_221, ⟨trivial, ⟨trivial, ⟨trivial, ⟨bv_M_209, ⟨trivial, ⟨trivial, trivial⟩⟩⟩⟩⟩⟩⟩⟩⟩⟩⟩⟩⟩⟩⟩⟩⟩⟩⟩⟩⟩⟩⟩⟩⟩⟩⟩⟩⟩⟩⟩⟩⟩⟩⟩
def ct_M_sum : List bt_E := [e0 (.aload_n 0) 1, em (.invokevirtual 230) 1 9 mi_M_product, e0 (.aload_n 0) 1, ef (.getfield 193) 9 24, eb (.ifCond .ge 49) 57, e0 (.aload_n 0) 1, em (.invokevirtual 205) 1 9 mi_M_look, e1 (.bipush 43) 2 43, eb (.if_icmp .eq 12) 29, e0 (.aload_n 0) 1, em (.invokevirtual 205) 1 9 mi_M_look, e1 (.bipush 45) 2 45, eb (.if_icmp .ne 31) 57, e0 (.aload_n 0) 1, em (.invokevirtual 205) 1 9 mi_M_look, e0 (.istore_n 1) 1, e0 (.aload_n 0) 1, e0 .dup 1, ef (.getfield 190) 9 23, e1 (.iconst 1) 1 1, e0 .iadd 1, ef (.putfield 190) 9 23, e0 (.aload_n 0) 1, em (.invokevirtual 230) 1 9 mi_M_product, e0 (.aload_n 0) 1, e0 (.iload_n 1) 1, e1 (.iconst 0) 1 0, em (.invokevirtual 209) 3 9 mi_M_addStep, eb (.goto (-50)) 4, e0 .return_ 1]
theorem dt_M_sum : bt_dec mi_M_sum.2.1 mi_M_sum.2.2.1 0 ct_M_sum = true := by decide +kernel
theorem kt_M_sum : bt_T mi_M_sum ct_M_sum := ⟨dt_M_sum, ⟨trivial, ⟨bv_M_230, ⟨trivial, ⟨lg_M_193, ⟨trivial, ⟨trivial, ⟨bv_M_205, ⟨trivial, ⟨trivial, ⟨trivial, ⟨bv_M_205, ⟨trivial, ⟨trivial, ⟨trivial, ⟨bv_M_205, ⟨trivial, ⟨trivial, ⟨trivial, ⟨lg_M_190, ⟨trivial, ⟨trivial, ⟨lp_M_190, ⟨trivial, ⟨bv_M_230, ⟨trivial, ⟨trivial, ⟨trivial, ⟨bv_M_209, ⟨trivial, ⟨trivial, trivial⟩⟩⟩⟩⟩⟩⟩⟩⟩⟩⟩⟩⟩⟩⟩⟩⟩⟩⟩⟩⟩⟩⟩⟩⟩⟩⟩⟩⟩⟩⟩
def ct_M_compared : List bt_E := [e0 (.aload_n 0) 1, em (.invokevirtual 233) 1 9 mi_M_sum, e0 (.aload_n 0) 1, em (.invokevirtual 205) 1 9 mi_M_look, e0 (.istore_n 1) 1, e0 (.aload_n 0) 1, ef (.getfield 193) 9 24, eb (.ifCond .ge 21) 34, e0 (.iload_n 1) 1, e1 (.bipush 60) 2 60, eb (.if_icmp .eq 16) 35, e0 (.iload_n 1) 1, e1 (.bipush 61) 2 61, eb (.if_icmp .eq 10) 35, e0 (.iload_n 1) 1, e1 (.bipush 62) 2 62, eb (.if_icmp .eq 4) 35, e0 .return_ 1, e0 (.aload_n 0) 1, e0 .dup 1, ef (.getfield 190) 9 23, e1 (.iconst 1) 1 1, e0 .iadd 1, ef (.putfield 190) 9 23, e0 (.aload_n 0) 1, em (.invokevirtual 233) 1 9 mi_M_sum, e0 (.aload_n 0) 1, e0 (.iload_n 1) 1, e1 (.iconst 0) 1 0, em (.invokevirtual 209) 3 9 mi_M_addStep, e0 .return_ 1]
theorem dt_M_compared : bt_dec mi_M_compared.2.1 mi_M_compared.2.2.1 0 ct_M_compared = true := by decide +kernel
theorem kt_M_compared : bt_T mi_M_compared ct_M_compared := ⟨dt_M_compared, ⟨trivial, ⟨bv_M_233, ⟨trivial, ⟨bv_M_205, ⟨trivial, ⟨trivial, ⟨lg_M_193, ⟨trivial, ⟨trivial, ⟨trivial, ⟨trivial, ⟨trivial, ⟨trivial, ⟨trivial, ⟨trivial, ⟨trivial, ⟨trivial, ⟨trivial, ⟨trivial, ⟨trivial, ⟨lg_M_190, ⟨trivial, ⟨trivial, ⟨lp_M_190, ⟨trivial, ⟨bv_M_233, ⟨trivial, ⟨trivial, ⟨trivial, ⟨bv_M_209, ⟨trivial, trivial⟩⟩⟩⟩⟩⟩⟩⟩⟩⟩⟩⟩⟩⟩⟩⟩⟩⟩⟩⟩⟩⟩⟩⟩⟩⟩⟩⟩⟩⟩⟩⟩
def ct_M_both : List bt_E := [e0 (.aload_n 0) 1, em (.invokevirtual 236) 1 9 mi_M_compared, e0 (.aload_n 0) 1, ef (.getfield 193) 9 24, eb (.ifCond .ge 36) 44, e0 (.aload_n 0) 1, em (.invokevirtual 205) 1 9 mi_M_look, e1 (.bipush 38) 2 38, eb (.if_icmp .ne 27) 44, e0 (.aload_n 0) 1, e0 .dup 1, ef (.getfield 190) 9 23, e1 (.iconst 1) 1 1, e0 .iadd 1, ef (.putfield 190) 9 23, e0 (.aload_n 0) 1, em (.invokevirtual 236) 1 9 mi_M_compared, e0 (.aload_n 0) 1, e1 (.bipush 38) 2 38, e1 (.iconst 0) 1 0, em (.invokevirtual 209) 3 9 mi_M_addStep, eb (.goto (-37)) 4, e0 .return_ 1]
theorem dt_M_both : bt_dec mi_M_both.2.1 mi_M_both.2.2.1 0 ct_M_both = true := by decide +kernel
theorem kt_M_both : bt_T mi_M_both ct_M_both := ⟨dt_M_both, ⟨trivial, ⟨bv_M_236, ⟨trivial, ⟨lg_M_193, ⟨trivial, ⟨trivial, ⟨bv_M_205, ⟨trivial, ⟨trivial, ⟨trivial, ⟨trivial, ⟨lg_M_190, ⟨trivial, ⟨trivial, ⟨lp_M_190, ⟨trivial, ⟨bv_M_236, ⟨trivial, ⟨trivial, ⟨trivial, ⟨bv_M_209, ⟨trivial, ⟨trivial, trivial⟩⟩⟩⟩⟩⟩⟩⟩⟩⟩⟩⟩⟩⟩⟩⟩⟩⟩⟩⟩⟩⟩⟩⟩
def ct_M_either : List bt_E := [e0 (.aload_n 0) 1, em (.invokevirtual 239) 1 9 mi_M_both, e0 (.aload_n 0) 1, ef (.getfield 193) 9 24, eb (.ifCond .ge 36) 44, e0 (.aload_n 0) 1, em (.invokevirtual 205) 1 9 mi_M_look, e1 (.bipush 124) 2 124, eb (.if_icmp .ne 27) 44, e0 (.aload_n 0) 1, e0 .dup 1, ef (.getfield 190) 9 23, e1 (.iconst 1) 1 1, e0 .iadd 1, ef (.putfield 190) 9 23, e0 (.aload_n 0) 1, em (.invokevirtual 239) 1 9 mi_M_both, e0 (.aload_n 0) 1, e1 (.bipush 124) 2 124, e1 (.iconst 0) 1 0, em (.invokevirtual 209) 3 9 mi_M_addStep, eb (.goto (-37)) 4, e0 .return_ 1]
theorem dt_M_either : bt_dec mi_M_either.2.1 mi_M_either.2.2.1 0 ct_M_either = true := by decide +kernel
theorem kt_M_either : bt_T mi_M_either ct_M_either := ⟨dt_M_either, ⟨trivial, ⟨bv_M_239, ⟨trivial, ⟨lg_M_193, ⟨trivial, ⟨trivial, ⟨bv_M_205, ⟨trivial, ⟨trivial, ⟨trivial, ⟨trivial, ⟨lg_M_190, ⟨trivial, ⟨trivial, ⟨lp_M_190, ⟨trivial, ⟨bv_M_239, ⟨trivial, ⟨trivial, ⟨trivial, ⟨bv_M_209, ⟨trivial, ⟨trivial, trivial⟩⟩⟩⟩⟩⟩⟩⟩⟩⟩⟩⟩⟩⟩⟩⟩⟩⟩⟩⟩⟩⟩⟩⟩
def ct_M_line : List bt_E := [e1 (.bipush 61) 2 61, e0 (.aload_n 0) 1, ef (.getfield 59) 9 29, e1 (.iconst 1) 1 1, e0 .iaload 1, e0 .iadd 1, e0 (.istore_n 1) 1, e0 (.aload_n 0) 1, ef (.getfield 62) 9 30, e0 (.iload_n 1) 1, e0 (.aload_n 0) 1, ef (.getfield 196) 9 26, e0 .i2s 1, e0 .sastore 1, e0 (.aload_n 0) 1, em (.invokevirtual 224) 1 9 mi_M_either, e0 (.aload_n 0) 1, ef (.getfield 193) 9 24, eb (.ifCond .ge 37) 66, e0 (.aload_n 0) 1, em (.invokevirtual 205) 1 9 mi_M_look, e1 (.bipush 63) 2 63, eb (.if_icmp .ne 28) 66, e0 (.aload_n 0) 1, e0 .dup 1, ef (.getfield 190) 9 23, e1 (.iconst 1) 1 1, e0 .iadd 1, ef (.putfield 190) 9 23, e0 (.aload_n 0) 1, ef (.getfield 62) 9 30, e0 (.iload_n 1) 1, e0 (.aload_n 0) 1, ef (.getfield 196) 9 26, e0 .i2s 1, e0 .sastore 1, e0 (.aload_n 0) 1, em (.invokevirtual 224) 1 9 mi_M_either, e0 (.aload_n 0) 1, ef (.getfield 66) 9 31, e0 (.iload_n 1) 1, e0 (.aload_n 0) 1, ef (.getfield 196) 9 26, e0 .i2s 1, e0 .sastore 1, e0 (.aload_n 0) 1, ef (.getfield 59) 9 29, e1 (.iconst 1) 1 1, e0 .dup2 1, e0 .iaload 1, e1 (.iconst 1) 1 1, e0 .iadd 1, e0 .iastore 1, e0 .return_ 1]
theorem dt_M_line : bt_dec mi_M_line.2.1 mi_M_line.2.2.1 0 ct_M_line = true := by decide +kernel
theorem kt_M_line : bt_T mi_M_line ct_M_line := ⟨dt_M_line, ⟨trivial, ⟨trivial, ⟨lg_M_59, ⟨trivial, ⟨trivial, ⟨trivial, ⟨trivial, ⟨trivial, ⟨lg_M_62, ⟨trivial, ⟨trivial, ⟨lg_M_196, ⟨trivial, ⟨trivial, ⟨trivial, ⟨bv_M_224, ⟨trivial, ⟨lg_M_193, ⟨trivial, ⟨trivial, ⟨bv_M_205, ⟨trivial, ⟨trivial, ⟨trivial, ⟨trivial, ⟨lg_M_190, ⟨trivial, ⟨trivial, ⟨lp_M_190, ⟨trivial, ⟨lg_M_62, ⟨trivial, ⟨trivial, ⟨lg_M_196, ⟨trivial, ⟨trivial, ⟨trivial, ⟨bv_M_224, ⟨trivial, ⟨lg_M_66, ⟨trivial, ⟨trivial, ⟨lg_M_196, ⟨trivial, ⟨trivial, ⟨trivial, ⟨lg_M_59, ⟨trivial, ⟨trivial, ⟨trivial, ⟨trivial, ⟨trivial, ⟨trivial, ⟨trivial, trivial⟩⟩⟩⟩⟩⟩⟩⟩⟩⟩⟩⟩⟩⟩⟩⟩⟩⟩⟩⟩⟩⟩⟩⟩⟩⟩⟩⟩⟩⟩⟩⟩⟩⟩⟩⟩⟩⟩⟩⟩⟩⟩⟩⟩⟩⟩⟩⟩⟩⟩⟩⟩⟩⟩⟩
def ct_M_readText : List bt_E := [e0 (.aload_n 0) 1, e1 (.iconst 0) 1 0, ef (.putfield 190) 9 23, e0 (.aload_n 0) 1, e1 (.iconst (-1)) 1 (-1), ef (.putfield 193) 9 24, e0 (.aload_n 0) 1, e1 (.iconst 0) 1 0, ef (.putfield 199) 9 25, e0 (.aload_n 0) 1, e1 (.iconst 0) 1 0, ef (.putfield 196) 9 26, e0 (.aload_n 0) 1, ef (.getfield 59) 9 29, e1 (.iconst 1) 1 1, e1 (.iconst 0) 1 0, e0 .iastore 1, e0 (.aload_n 0) 1, em (.invokevirtual 242) 1 9 mi_M_line, e0 (.aload_n 0) 1, ef (.getfield 193) 9 24, eb (.ifCond .ge 29) 64, e0 (.aload_n 0) 1, em (.invokevirtual 205) 1 9 mi_M_look, e1 (.bipush 59) 2 59, eb (.if_icmp .ne 20) 64, e0 (.aload_n 0) 1, e0 .dup 1, ef (.getfield 190) 9 23, e1 (.iconst 1) 1 1, e0 .iadd 1, ef (.putfield 190) 9 23, e0 (.aload_n 0) 1, em (.invokevirtual 242) 1 9 mi_M_line, eb (.goto (-30)) 31, e0 (.aload_n 0) 1, ef (.getfield 193) 9 24, eb (.ifCond .ge 18) 86, e0 (.aload_n 0) 1, ef (.getfield 190) 9 23, e0 (.aload_n 0) 1, ef (.getfield 187) 9 22, eb (.if_icmp .ge 7) 86, e0 (.aload_n 0) 1, em (.invokevirtual 202) 1 9 mi_M_faulty, e0 (.aload_n 0) 1, e1 (.iconst 0) 1 0, ef (.putfield 187) 9 22, e0 (.aload_n 0) 1, ef (.getfield 193) 9 24, eb (.ifCond .lt 8) 103, e0 (.aload_n 0) 1, ef (.getfield 193) 9 24, e0 .ireturn 1, e1 (.iconst 0) 1 0, e0 (.istore_n 2) 1, e0 (.iload_n 2) 1, e0 (.aload_n 0) 1, ef (.getfield 196) 9 26, eb (.if_icmp .ge 53) 163, e0 (.aload_n 0) 1, ef (.getfield 53) 9 27, e1 (.sipush 130) 3 130, e0 (.iload_n 1) 1, e0 .imul 1, e0 (.iload_n 2) 1, e0 .iadd 1, e0 (.aload_n 0) 1, ef (.getfield 53) 9 27, e1 (.sipush 130) 3 130, e0 (.iload_n 2) 1, e0 .iadd 1, e0 .baload 1, e0 .bastore 1, e0 (.aload_n 0) 1, ef (.getfield 56) 9 28, e1 (.sipush 130) 3 130, e0 (.iload_n 1) 1, e0 .imul 1, e0 (.iload_n 2) 1, e0 .iadd 1, e0 (.aload_n 0) 1, ef (.getfield 56) 9 28, e1 (.sipush 130) 3 130, e0 (.iload_n 2) 1, e0 .iadd 1, e0 .iaload 1, e0 .iastore 1, e1 (.iinc 2 1) 3 1, eb (.goto (-55)) 105, e0 (.aload_n 0) 1, ef (.getfield 59) 9 29, e0 (.iload_n 1) 1, e0 (.aload_n 0) 1, ef (.getfield 59) 9 29, e1 (.iconst 1) 1 1, e0 .iaload 1, e0 .iastore 1, e1 (.iconst 0) 1 0, e0 (.istore_n 2) 1, e0 (.iload_n 2) 1, e0 (.aload_n 0) 1, ef (.getfield 59) 9 29, e0 (.iload_n 1) 1, e0 .iaload 1, eb (.if_icmp .ge 49) 233, e0 (.aload_n 0) 1, ef (.getfield 62) 9 30, e1 (.bipush 61) 2 61, e0 (.iload_n 1) 1, e0 .imul 1, e0 (.iload_n 2) 1, e0 .iadd 1, e0 (.aload_n 0) 1, ef (.getfield 62) 9 30, e1 (.bipush 61) 2 61, e0 (.iload_n 2) 1, e0 .iadd 1, e0 .saload 1, e0 .sastore 1, e0 (.aload_n 0) 1, ef (.getfield 66) 9 31, e1 (.bipush 61) 2 61, e0 (.iload_n 1) 1, e0 .imul 1, e0 (.iload_n 2) 1, e0 .iadd 1, e0 (.aload_n 0) 1, ef (.getfield 66) 9 31, e1 (.bipush 61) 2 61, e0 (.iload_n 2) 1, e0 .iadd 1, e0 .saload 1, e0 .sastore 1, e1 (.iinc 2 1) 3 1, eb (.goto (-53)) 177, e1 (.iconst (-1)) 1 (-1), e0 .ireturn 1]
theorem dt_M_readText : bt_dec mi_M_readText.2.1 mi_M_readText.2.2.1 0 ct_M_readText = true := by decide +kernel
theorem kt_M_readText : bt_T mi_M_readText ct_M_readText := ⟨dt_M_readText, ⟨trivial, ⟨trivial, ⟨lp_M_190, ⟨trivial, ⟨trivial, ⟨lp_M_193, ⟨trivial, ⟨trivial, ⟨lp_M_199, ⟨trivial, ⟨trivial, ⟨lp_M_196, ⟨trivial, ⟨lg_M_59, ⟨trivial, ⟨trivial, ⟨trivial, ⟨trivial, ⟨bv_M_242, ⟨trivial, ⟨lg_M_193, ⟨trivial, ⟨trivial, ⟨bv_M_205, ⟨trivial, ⟨trivial, ⟨trivial, ⟨trivial, ⟨lg_M_190, ⟨trivial, ⟨trivial, ⟨lp_M_190, ⟨trivial, ⟨bv_M_242, ⟨trivial, ⟨trivial, ⟨lg_M_193, ⟨trivial, ⟨trivial, ⟨lg_M_190, ⟨trivial, ⟨lg_M_187, ⟨trivial, ⟨trivial, ⟨bv_M_202, ⟨trivial, ⟨trivial, ⟨lp_M_187, ⟨trivial, ⟨lg_M_193, ⟨trivial, ⟨trivial, ⟨lg_M_193, ⟨trivial, ⟨trivial, ⟨trivial, ⟨trivial, ⟨trivial, ⟨lg_M_196, ⟨trivial, ⟨trivial, ⟨lg_M_53, ⟨trivial, ⟨trivial, ⟨trivial, ⟨trivial, ⟨trivial, ⟨trivial, ⟨lg_M_53, ⟨trivial, ⟨trivial, ⟨trivial, ⟨trivial, ⟨trivial, ⟨trivial, ⟨lg_M_56, ⟨trivial, ⟨trivial, ⟨trivial, ⟨trivial, ⟨trivial, ⟨trivial, ⟨lg_M_56, ⟨trivial, ⟨trivial, ⟨trivial, ⟨trivial, ⟨trivial, ⟨trivial, ⟨trivial, ⟨trivial, ⟨lg_M_59, ⟨trivial, ⟨trivial, ⟨lg_M_59, ⟨trivial, ⟨trivial, ⟨trivial, ⟨trivial, ⟨trivial, ⟨trivial, ⟨trivial, ⟨lg_M_59, ⟨trivial, ⟨trivial, ⟨trivial, ⟨trivial, ⟨lg_M_62, ⟨trivial, ⟨trivial, ⟨trivial, ⟨trivial, ⟨trivial, ⟨trivial, ⟨lg_M_62, ⟨trivial, ⟨trivial, ⟨trivial, ⟨trivial, ⟨trivial, ⟨trivial, ⟨lg_M_66, ⟨trivial, ⟨trivial, ⟨trivial, ⟨trivial, ⟨trivial, ⟨trivial, ⟨lg_M_66, ⟨trivial, ⟨trivial, ⟨trivial, ⟨trivial, ⟨trivial, ⟨trivial, ⟨trivial, ⟨trivial, ⟨trivial, trivial⟩⟩⟩⟩⟩⟩⟩⟩⟩⟩⟩⟩⟩⟩⟩⟩⟩⟩⟩⟩⟩⟩⟩⟩⟩⟩⟩⟩⟩⟩⟩⟩⟩⟩⟩⟩⟩⟩⟩⟩⟩⟩⟩⟩⟩⟩⟩⟩⟩⟩⟩⟩⟩⟩⟩⟩⟩⟩⟩⟩⟩⟩⟩⟩⟩⟩⟩⟩⟩⟩⟩⟩⟩⟩⟩⟩⟩⟩⟩⟩⟩⟩⟩⟩⟩⟩⟩⟩⟩⟩⟩⟩⟩⟩⟩⟩⟩⟩⟩⟩⟩⟩⟩⟩⟩⟩⟩⟩⟩⟩⟩⟩⟩⟩⟩⟩⟩⟩⟩⟩⟩⟩⟩⟩⟩⟩⟩⟩⟩⟩⟩⟩⟩⟩⟩⟩⟩⟩⟩
def ct_M_twoOf : List bt_E := [e0 (.iload_n 0) 1, ew (.tableswitch 217 37 62 #[153, 203, 217, 217, 217, 127, 119, 217, 123, 217, 131, 217, 217, 217, 217, 217, 217, 217, 217, 217, 217, 217, 217, 170, 181, 192]) 119 218 [(37, 154), (38, 204), (39, 218), (40, 218), (41, 218), (42, 128), (43, 120), (44, 218), (45, 124), (46, 218), (47, 132), (48, 218), (49, 218), (50, 218), (51, 218), (52, 218), (53, 218), (54, 218), (55, 218), (56, 218), (57, 218), (58, 218), (59, 218), (60, 171), (61, 182), (62, 193)], e0 (.iload_n 1) 1, e0 (.iload_n 2) 1, e0 .iadd 1, e0 .ireturn 1, e0 (.iload_n 1) 1, e0 (.iload_n 2) 1, e0 .isub 1, e0 .ireturn 1, e0 (.iload_n 1) 1, e0 (.iload_n 2) 1, e0 .imul 1, e0 .ireturn 1, e0 (.iload_n 2) 1, eb (.ifCond .ne 7) 140, e1 (.iconst 0) 1 0, eb (.goto 16) 153, e0 (.iload_n 2) 1, e1 (.iconst (-1)) 1 (-1), eb (.if_icmp .ne 8) 150, e0 (.iload_n 1) 1, e0 .ineg 1, eb (.goto 6) 153, e0 (.iload_n 1) 1, e0 (.iload_n 2) 1, e0 .idiv 1, e0 .ireturn 1, e0 (.iload_n 2) 1, eb (.ifCond .eq 8) 163, e0 (.iload_n 2) 1, e1 (.iconst (-1)) 1 (-1), eb (.if_icmp .ne 7) 167, e1 (.iconst 0) 1 0, eb (.goto 6) 170, e0 (.iload_n 1) 1, e0 (.iload_n 2) 1, e0 .irem 1, e0 .ireturn 1, e0 (.iload_n 1) 1, e0 (.iload_n 2) 1, eb (.if_icmp .ge 7) 180, e1 (.iconst 1) 1 1, eb (.goto 4) 181, e1 (.iconst 0) 1 0, e0 .ireturn 1, e0 (.iload_n 1) 1, e0 (.iload_n 2) 1, eb (.if_icmp .ne 7) 191, e1 (.iconst 1) 1 1, eb (.goto 4) 192, e1 (.iconst 0) 1 0, e0 .ireturn 1, e0 (.iload_n 1) 1, e0 (.iload_n 2) 1, eb (.if_icmp .le 7) 202, e1 (.iconst 1) 1 1, eb (.goto 4) 203, e1 (.iconst 0) 1 0, e0 .ireturn 1, e0 (.iload_n 1) 1, eb (.ifCond .eq 11) 216, e0 (.iload_n 2) 1, eb (.ifCond .eq 7) 216, e1 (.iconst 1) 1 1, eb (.goto 4) 217, e1 (.iconst 0) 1 0, e0 .ireturn 1, e0 (.iload_n 1) 1, eb (.ifCond .ne 7) 226, e0 (.iload_n 2) 1, eb (.ifCond .eq 7) 230, e1 (.iconst 1) 1 1, eb (.goto 4) 231, e1 (.iconst 0) 1 0, e0 .ireturn 1]
theorem dt_M_twoOf : bt_dec mi_M_twoOf.2.1 mi_M_twoOf.2.2.1 0 ct_M_twoOf = true := by decide +kernel
theorem kt_M_twoOf : bt_T mi_M_twoOf ct_M_twoOf := ⟨dt_M_twoOf, ⟨trivial, ⟨trivial, ⟨trivial, ⟨trivial, ⟨trivial, ⟨trivial, ⟨trivial, ⟨trivial, ⟨trivial, ⟨trivial, ⟨trivial, ⟨trivial, ⟨trivial, ⟨trivial, ⟨trivial, ⟨trivial, ⟨trivial, ⟨trivial, ⟨trivial, ⟨trivial, ⟨trivial, ⟨trivial, ⟨trivial, ⟨trivial, ⟨trivial, ⟨trivial, ⟨trivial, ⟨trivial, ⟨trivial, ⟨trivial, ⟨trivial, ⟨trivial, ⟨trivial, ⟨trivial, ⟨trivial, ⟨trivial, ⟨trivial, ⟨trivial, ⟨trivial, ⟨trivial, ⟨trivial, ⟨trivial, ⟨trivial, ⟨trivial, ⟨trivial, ⟨trivial, ⟨trivial, ⟨trivial, ⟨trivial, ⟨trivial, ⟨trivial, ⟨trivial, ⟨trivial, ⟨trivial, ⟨trivial, ⟨trivial, ⟨trivial, ⟨trivial, ⟨trivial, ⟨trivial, ⟨trivial, ⟨trivial, ⟨trivial, ⟨trivial, ⟨trivial, ⟨trivial, ⟨trivial, ⟨trivial, ⟨trivial, ⟨trivial, ⟨trivial, ⟨trivial, ⟨trivial, ⟨trivial, ⟨trivial, ⟨trivial, trivial⟩⟩⟩⟩⟩⟩⟩⟩⟩⟩⟩⟩⟩⟩⟩⟩⟩⟩⟩⟩⟩⟩⟩⟩⟩⟩⟩⟩⟩⟩⟩⟩⟩⟩⟩⟩⟩⟩⟩⟩⟩⟩⟩⟩⟩⟩⟩⟩⟩⟩⟩⟩⟩⟩⟩⟩⟩⟩⟩⟩⟩⟩⟩⟩⟩⟩⟩⟩⟩⟩⟩⟩⟩⟩⟩⟩⟩
def ct_M_worked : List bt_E := [e1 (.iconst 0) 1 0, e0 (.istore 4) 2, e1 (.sipush 130) 3 130, e0 (.iload_n 1) 1, e0 .imul 1, e0 (.iload_n 2) 1, e0 .iadd 1, e0 (.istore 5) 2, e0 (.iload 5) 2, e1 (.sipush 130) 3 130, e0 (.iload_n 1) 1, e0 .imul 1, e0 (.iload_n 3) 1, e0 .iadd 1, eb (.if_icmp .ge 167) 188, e0 (.aload_n 0) 1, ef (.getfield 53) 9 27, e0 (.iload 5) 2, e0 .baload 1, e0 (.istore 6) 2, e0 (.iload 6) 2, e1 (.iconst 1) 1 1, eb (.if_icmp .eq 9) 45, e0 (.iload 6) 2, e1 (.iconst 2) 1 2, eb (.if_icmp .ne 44) 86, e0 (.aload_n 0) 1, ef (.getfield 72) 9 33, e0 (.iload 4) 2, e0 (.iload 6) 2, e1 (.iconst 1) 1 1, eb (.if_icmp .ne 13) 67, e0 (.aload_n 0) 1, ef (.getfield 56) 9 28, e0 (.iload 5) 2, e0 .iaload 1, eb (.goto 15) 79, e0 (.aload_n 0) 1, ef (.getfield 69) 9 32, e0 (.aload_n 0) 1, ef (.getfield 56) 9 28, e0 (.iload 5) 2, e0 .iaload 1, e0 .iaload 1, e0 .iastore 1, e1 (.iinc 4 1) 3 1, eb (.goto 99) 182, e0 (.iload 6) 2, e1 (.iconst 3) 1 3, eb (.if_icmp .ne 32) 121, e0 (.aload_n 0) 1, ef (.getfield 72) 9 33, e0 (.iload 4) 2, e1 (.iconst 1) 1 1, e0 .isub 1, e0 (.aload_n 0) 1, ef (.getfield 72) 9 33, e0 (.iload 4) 2, e1 (.iconst 1) 1 1, e0 .isub 1, e0 .iaload 1, eb (.ifCond .ne 7) 116, e1 (.iconst 1) 1 1, eb (.goto 4) 117, e1 (.iconst 0) 1 0, e0 .iastore 1, eb (.goto 64) 182, e0 (.iload 6) 2, e1 (.iconst 4) 1 4, eb (.if_icmp .ne 25) 149, e0 (.aload_n 0) 1, ef (.getfield 72) 9 33, e0 (.iload 4) 2, e1 (.iconst 1) 1 1, e0 .isub 1, e0 (.aload_n 0) 1, ef (.getfield 72) 9 33, e0 (.iload 4) 2, e1 (.iconst 1) 1 1, e0 .isub 1, e0 .iaload 1, e0 .ineg 1, e0 .iastore 1, eb (.goto 36) 182, e1 (.iinc 4 (-1)) 3 (-1), e0 (.aload_n 0) 1, ef (.getfield 72) 9 33, e0 (.iload 4) 2, e1 (.iconst 1) 1 1, e0 .isub 1, e0 (.iload 6) 2, e0 (.aload_n 0) 1, ef (.getfield 72) 9 33, e0 (.iload 4) 2, e1 (.iconst 1) 1 1, e0 .isub 1, e0 .iaload 1, e0 (.aload_n 0) 1, ef (.getfield 72) 9 33, e0 (.iload 4) 2, e0 .iaload 1, em (.invokestatic 245) 3 100 mi_M_twoOf, e0 .iastore 1, e1 (.iinc 5 1) 3 1, eb (.goto (-173)) 12, e0 (.aload_n 0) 1, ef (.getfield 72) 9 33, e1 (.iconst 0) 1 0, e0 .iaload 1, e0 .ireturn 1]
theorem dt_M_worked : bt_dec mi_M_worked.2.1 mi_M_worked.2.2.1 0 ct_M_worked = true := by decide +kernel
theorem kt_M_worked : bt_T mi_M_worked ct_M_worked := ⟨dt_M_worked, ⟨trivial, ⟨trivial, ⟨trivial, ⟨trivial, ⟨trivial, ⟨trivial, ⟨trivial, ⟨trivial, ⟨trivial, ⟨trivial, ⟨trivial, ⟨trivial, ⟨trivial, ⟨trivial, ⟨trivial, ⟨trivial, ⟨lg_M_53, ⟨trivial, ⟨trivial, ⟨trivial, ⟨trivial, ⟨trivial, ⟨trivial, ⟨trivial, ⟨trivial, ⟨trivial, ⟨trivial, ⟨lg_M_72, ⟨trivial, ⟨trivial, ⟨trivial, ⟨trivial, ⟨trivial, ⟨lg_M_56, ⟨trivial, ⟨trivial, ⟨trivial, ⟨trivial, ⟨lg_M_69, ⟨trivial, ⟨lg_M_56, ⟨trivial, ⟨trivial, ⟨trivial, ⟨trivial, ⟨trivial, ⟨trivial, ⟨trivial, ⟨trivial, ⟨trivial, ⟨trivial, ⟨lg_M_72, ⟨trivial, ⟨trivial, ⟨trivial, ⟨trivial, ⟨lg_M_72, ⟨trivial, ⟨trivial, ⟨trivial, ⟨trivial, ⟨trivial, ⟨trivial, ⟨trivial, ⟨trivial, ⟨trivial, ⟨trivial, ⟨trivial, ⟨trivial, ⟨trivial, ⟨trivial, ⟨lg_M_72, ⟨trivial, ⟨trivial, ⟨trivial, ⟨trivial, ⟨lg_M_72, ⟨trivial, ⟨trivial, ⟨trivial, ⟨trivial, ⟨trivial, ⟨trivial, ⟨trivial, ⟨trivial, ⟨trivial, ⟨lg_M_72, ⟨trivial, ⟨trivial, ⟨trivial, ⟨trivial, ⟨trivial, ⟨lg_M_72, ⟨trivial, ⟨trivial, ⟨trivial, ⟨trivial, ⟨trivial, ⟨lg_M_72, ⟨trivial, ⟨trivial, ⟨⟨fun _ => bs_M_245, (fun h => by cases h)⟩, ⟨trivial, ⟨trivial, ⟨trivial, ⟨trivial, ⟨lg_M_72, ⟨trivial, ⟨trivial, ⟨trivial, trivial⟩⟩⟩⟩⟩⟩⟩⟩⟩⟩⟩⟩⟩⟩⟩⟩⟩⟩⟩⟩⟩⟩⟩⟩⟩⟩⟩⟩⟩⟩⟩⟩⟩⟩⟩⟩⟩⟩⟩⟩⟩⟩⟩⟩⟩⟩⟩⟩⟩⟩⟩⟩⟩⟩⟩⟩⟩⟩⟩⟩⟩⟩⟩⟩⟩⟩⟩⟩⟩⟩⟩⟩⟩⟩⟩⟩⟩⟩⟩⟩⟩⟩⟩⟩⟩⟩⟩⟩⟩⟩⟩⟩⟩⟩⟩⟩⟩⟩⟩⟩⟩⟩⟩⟩⟩⟩⟩⟩⟩⟩⟩
def ct_M_gives : List bt_E := [e1 (.iconst 0) 1 0, e0 (.istore_n 2) 1, e1 (.bipush 61) 2 61, e0 (.iload_n 1) 1, e0 .imul 1, e0 (.istore_n 3) 1, e0 (.iload_n 3) 1, e1 (.bipush 61) 2 61, e0 (.iload_n 1) 1, e0 .imul 1, e0 (.aload_n 0) 1, ef (.getfield 59) 9 29, e0 (.iload_n 1) 1, e0 .iaload 1, e0 .iadd 1, eb (.if_icmp .ge 59) 78, e0 (.aload_n 0) 1, ef (.getfield 62) 9 30, e0 (.iload_n 3) 1, e0 .saload 1, e0 (.iload_n 2) 1, eb (.if_icmp .eq 18) 47, e0 (.aload_n 0) 1, e0 (.iload_n 1) 1, e0 (.iload_n 2) 1, e0 (.aload_n 0) 1, ef (.getfield 62) 9 30, e0 (.iload_n 3) 1, e0 .saload 1, em (.invokevirtual 248) 4 9 mi_M_worked, eb (.ifCond .eq 21) 65, e0 (.aload_n 0) 1, e0 (.iload_n 1) 1, e0 (.aload_n 0) 1, ef (.getfield 62) 9 30, e0 (.iload_n 3) 1, e0 .saload 1, e0 (.aload_n 0) 1, ef (.getfield 66) 9 31, e0 (.iload_n 3) 1, e0 .saload 1, em (.invokevirtual 248) 4 9 mi_M_worked, e0 .ireturn 1, e0 (.aload_n 0) 1, ef (.getfield 66) 9 31, e0 (.iload_n 3) 1, e0 .saload 1, e0 (.istore_n 2) 1, e1 (.iinc 3 1) 3 1, eb (.goto (-68)) 7, e1 (.iconst 0) 1 0, e0 .ireturn 1]
theorem dt_M_gives : bt_dec mi_M_gives.2.1 mi_M_gives.2.2.1 0 ct_M_gives = true := by decide +kernel
theorem kt_M_gives : bt_T mi_M_gives ct_M_gives := ⟨dt_M_gives, ⟨trivial, ⟨trivial, ⟨trivial, ⟨trivial, ⟨trivial, ⟨trivial, ⟨trivial, ⟨trivial, ⟨trivial, ⟨trivial, ⟨trivial, ⟨lg_M_59, ⟨trivial, ⟨trivial, ⟨trivial, ⟨trivial, ⟨trivial, ⟨lg_M_62, ⟨trivial, ⟨trivial, ⟨trivial, ⟨trivial, ⟨trivial, ⟨trivial, ⟨trivial, ⟨trivial, ⟨lg_M_62, ⟨trivial, ⟨trivial, ⟨bv_M_248, ⟨trivial, ⟨trivial, ⟨trivial, ⟨trivial, ⟨lg_M_62, ⟨trivial, ⟨trivial, ⟨trivial, ⟨lg_M_66, ⟨trivial, ⟨trivial, ⟨bv_M_248, ⟨trivial, ⟨trivial, ⟨lg_M_66, ⟨trivial, ⟨trivial, ⟨trivial, ⟨trivial, ⟨trivial, ⟨trivial, ⟨trivial, trivial⟩⟩⟩⟩⟩⟩⟩⟩⟩⟩⟩⟩⟩⟩⟩⟩⟩⟩⟩⟩⟩⟩⟩⟩⟩⟩⟩⟩⟩⟩⟩⟩⟩⟩⟩⟩⟩⟩⟩⟩⟩⟩⟩⟩⟩⟩⟩⟩⟩⟩⟩⟩⟩
def ct_M_law : List bt_E := [e0 (.aload_n 0) 1, e1 (.iconst 0) 1 0, em (.invokevirtual 251) 2 9 mi_M_readText, e0 (.istore_n 1) 1, e0 (.iload_n 1) 1, eb (.ifCond .lt 8) 15, e1 (.bipush (-100)) 2 (-100), e0 (.iload_n 1) 1, e0 .isub 1, e0 .ireturn 1, e0 (.aload_n 0) 1, e1 (.iconst 1) 1 1, ef (.putfield 254) 9 34, e1 (.iconst 1) 1 1, e0 .ireturn 1]
theorem dt_M_law : bt_dec mi_M_law.2.1 mi_M_law.2.2.1 0 ct_M_law = true := by decide +kernel
theorem kt_M_law : bt_T mi_M_law ct_M_law := ⟨dt_M_law, ⟨trivial, ⟨trivial, ⟨bv_M_251, ⟨trivial, ⟨trivial, ⟨trivial, ⟨trivial, ⟨trivial, ⟨trivial, ⟨trivial, ⟨trivial, ⟨trivial, ⟨lp_M_254, ⟨trivial, ⟨trivial, trivial⟩⟩⟩⟩⟩⟩⟩⟩⟩⟩⟩⟩⟩⟩⟩⟩
def ct_M_isHeard : List bt_E := [e0 (.aload_n 0) 1, ef (.getfield 254) 9 34, eb (.ifCond .ne 38) 42, e0 (.aload_n 0) 1, ef (.getfield 13) 9 3, e0 (.iload_n 2) 1, e0 .iaload 1, e0 (.aload_n 0) 1, ef (.getfield 46) 9 20, e0 (.iload_n 2) 1, e0 .iaload 1, e0 (.aload_n 0) 1, ef (.getfield 28) 9 10, e0 (.iload_n 3) 1, e0 .iaload 1, e1 (.iconst 2) 1 2, e0 .idiv 1, e0 .iadd 1, e0 (.aload_n 0) 1, ef (.getfield 149) 9 12, e0 .iadd 1, eb (.if_icmp .le 7) 40, e1 (.iconst 1) 1 1, eb (.goto 4) 41, e1 (.iconst 0) 1 0, e0 .ireturn 1, e0 (.aload_n 0) 1, ef (.getfield 69) 9 32, e1 (.iconst 0) 1 0, e0 (.aload_n 0) 1, ef (.getfield 13) 9 3, e0 (.iload_n 2) 1, e0 .iaload 1, e0 .iastore 1, e0 (.aload_n 0) 1, ef (.getfield 69) 9 32, e1 (.iconst 1) 1 1, e0 (.aload_n 0) 1, ef (.getfield 46) 9 20, e0 (.iload_n 2) 1, e0 .iaload 1, e0 .iastore 1, e0 (.aload_n 0) 1, ef (.getfield 69) 9 32, e1 (.iconst 2) 1 2, e0 (.aload_n 0) 1, ef (.getfield 28) 9 10, e0 (.iload_n 3) 1, e0 .iaload 1, e0 .iastore 1, e0 (.aload_n 0) 1, ef (.getfield 69) 9 32, e1 (.iconst 3) 1 3, e0 (.aload_n 0) 1, ef (.getfield 7) 9 2, e0 (.iload_n 2) 1, e0 .iaload 1, e0 .iastore 1, e0 (.aload_n 0) 1, ef (.getfield 69) 9 32, e1 (.iconst 4) 1 4, e0 (.aload_n 0) 1, ef (.getfield 149) 9 12, e0 .iastore 1, e0 (.aload_n 0) 1, ef (.getfield 69) 9 32, e1 (.iconst 5) 1 5, e0 (.iload_n 1) 1, e0 .iastore 1, e0 (.aload_n 0) 1, e1 (.iconst 0) 1 0, em (.invokevirtual 258) 2 9 mi_M_gives, eb (.ifCond .eq 7) 119, e1 (.iconst 1) 1 1, eb (.goto 4) 120, e1 (.iconst 0) 1 0, e0 .ireturn 1]
theorem dt_M_isHeard : bt_dec mi_M_isHeard.2.1 mi_M_isHeard.2.2.1 0 ct_M_isHeard = true := by decide +kernel
theorem kt_M_isHeard : bt_T mi_M_isHeard ct_M_isHeard := ⟨dt_M_isHeard, ⟨trivial, ⟨lg_M_254, ⟨trivial, ⟨trivial, ⟨lg_M_13, ⟨trivial, ⟨trivial, ⟨trivial, ⟨lg_M_46, ⟨trivial, ⟨trivial, ⟨trivial, ⟨lg_M_28, ⟨trivial, ⟨trivial, ⟨trivial, ⟨trivial, ⟨trivial, ⟨trivial, ⟨lg_M_149, ⟨trivial, ⟨trivial, ⟨trivial, ⟨trivial, ⟨trivial, ⟨trivial, ⟨trivial, ⟨lg_M_69, ⟨trivial, ⟨trivial, ⟨lg_M_13, ⟨trivial, ⟨trivial, ⟨trivial, ⟨trivial, ⟨lg_M_69, ⟨trivial, ⟨trivial, ⟨lg_M_46, ⟨trivial, ⟨trivial, ⟨trivial, ⟨trivial, ⟨lg_M_69, ⟨trivial, ⟨trivial, ⟨lg_M_28, ⟨trivial, ⟨trivial, ⟨trivial, ⟨trivial, ⟨lg_M_69, ⟨trivial, ⟨trivial, ⟨lg_M_7, ⟨trivial, ⟨trivial, ⟨trivial, ⟨trivial, ⟨lg_M_69, ⟨trivial, ⟨trivial, ⟨lg_M_149, ⟨trivial, ⟨trivial, ⟨lg_M_69, ⟨trivial, ⟨trivial, ⟨trivial, ⟨trivial, ⟨trivial, ⟨bv_M_258, ⟨trivial, ⟨trivial, ⟨trivial, ⟨trivial, ⟨trivial, trivial⟩⟩⟩⟩⟩⟩⟩⟩⟩⟩⟩⟩⟩⟩⟩⟩⟩⟩⟩⟩⟩⟩⟩⟩⟩⟩⟩⟩⟩⟩⟩⟩⟩⟩⟩⟩⟩⟩⟩⟩⟩⟩⟩⟩⟩⟩⟩⟩⟩⟩⟩⟩⟩⟩⟩⟩⟩⟩⟩⟩⟩⟩⟩⟩⟩⟩⟩⟩⟩⟩⟩⟩⟩⟩⟩⟩⟩⟩
def ct_M_soundOf : List bt_E := [e0 (.aload_n 0) 1, ef (.getfield 19) 9 5, e0 (.iload_n 2) 1, e0 .iaload 1, e1 (.iconst 1) 1 1, eb (.if_icmp .ne 47) 54, e0 (.iload 4) 2, e0 (.iload_n 2) 1, e0 .ishr 1, e1 (.iconst 1) 1 1, e0 .iand 1, e1 (.iconst 1) 1 1, eb (.if_icmp .ne 37) 54, e0 (.aload_n 0) 1, ef (.getfield 16) 9 4, e0 (.iload_n 2) 1, e0 .iaload 1, e0 (.aload_n 0) 1, ef (.getfield 31) 9 11, e0 (.iload_n 1) 1, e0 .iaload 1, eb (.if_icmp .gt 22) 54, e0 (.aload_n 0) 1, e0 (.iload_n 1) 1, e0 (.iload_n 2) 1, e0 (.iload_n 3) 1, em (.invokevirtual 261) 4 9 mi_M_isHeard, eb (.ifCond .eq 12) 54, e0 (.aload_n 0) 1, ef (.getfield 7) 9 2, e0 (.iload_n 2) 1, e0 .iaload 1, eb (.goto 4) 55, e1 (.iconst (-1)) 1 (-1), e0 .ireturn 1]
theorem dt_M_soundOf : bt_dec mi_M_soundOf.2.1 mi_M_soundOf.2.2.1 0 ct_M_soundOf = true := by decide +kernel
theorem kt_M_soundOf : bt_T mi_M_soundOf ct_M_soundOf := ⟨dt_M_soundOf, ⟨trivial, ⟨lg_M_19, ⟨trivial, ⟨trivial, ⟨trivial, ⟨trivial, ⟨trivial, ⟨trivial, ⟨trivial, ⟨trivial, ⟨trivial, ⟨trivial, ⟨trivial, ⟨trivial, ⟨lg_M_16, ⟨trivial, ⟨trivial, ⟨trivial, ⟨lg_M_31, ⟨trivial, ⟨trivial, ⟨trivial, ⟨trivial, ⟨trivial, ⟨trivial, ⟨trivial, ⟨bv_M_261, ⟨trivial, ⟨trivial, ⟨lg_M_7, ⟨trivial, ⟨trivial, ⟨trivial, ⟨trivial, ⟨trivial, trivial⟩⟩⟩⟩⟩⟩⟩⟩⟩⟩⟩⟩⟩⟩⟩⟩⟩⟩⟩⟩⟩⟩⟩⟩⟩⟩⟩⟩⟩⟩⟩⟩⟩⟩⟩⟩
def ct_M_every : List bt_E := [e1 (.sipush 255) 3 255, e0 .ireturn 1]
theorem dt_M_every : bt_dec mi_M_every.2.1 mi_M_every.2.2.1 0 ct_M_every = true := by decide +kernel
theorem kt_M_every : bt_T mi_M_every ct_M_every := ⟨dt_M_every, ⟨trivial, ⟨trivial, trivial⟩⟩⟩
def ct_M_sound : List bt_E := [e0 (.iload_n 1) 1, em (.invokestatic 172) 1 100 mi_M_isSort, eb (.ifCond .eq 18) 22, e0 (.aload_n 0) 1, e0 (.iload_n 2) 1, em (.invokevirtual 139) 2 9 mi_M_isTree, eb (.ifCond .eq 10) 22, e0 (.iload_n 3) 1, em (.invokestatic 169) 1 100 mi_M_isMinute, eb (.ifCond .ne 7) 26, e1 (.ldc_w 264) 3 (-2000000000), e0 .ireturn 1, e0 (.aload_n 0) 1, em (.invokevirtual 184) 1 9 mi_M_findFar, e0 (.aload_n 0) 1, e0 (.iload_n 1) 1, e0 (.iload_n 2) 1, e0 (.iload_n 3) 1, em (.invokestatic 265) 0 100 mi_M_every, em (.invokevirtual 268) 5 9 mi_M_soundOf, e0 .ireturn 1]
theorem dt_M_sound : bt_dec mi_M_sound.2.1 mi_M_sound.2.2.1 0 ct_M_sound = true := by decide +kernel
theorem kt_M_sound : bt_T mi_M_sound ct_M_sound := ⟨dt_M_sound, ⟨trivial, ⟨⟨fun _ => bs_M_172, (fun h => by cases h)⟩, ⟨trivial, ⟨trivial, ⟨trivial, ⟨bv_M_139, ⟨trivial, ⟨trivial, ⟨⟨fun _ => bs_M_169, (fun h => by cases h)⟩, ⟨trivial, ⟨lk_M_264, ⟨trivial, ⟨trivial, ⟨bv_M_184, ⟨trivial, ⟨trivial, ⟨trivial, ⟨trivial, ⟨⟨fun _ => bs_M_265, (fun h => by cases h)⟩, ⟨bv_M_268, ⟨trivial, trivial⟩⟩⟩⟩⟩⟩⟩⟩⟩⟩⟩⟩⟩⟩⟩⟩⟩⟩⟩⟩⟩⟩
def ct_M_rowFault : List bt_E := [e0 (.aload_n 0) 1, ef (.getfield 107) 9 49, e0 (.iload_n 1) 1, e0 .iaload 1, e1 (.iconst (-1)) 1 (-1), eb (.if_icmp .ne 8) 15, e1 (.bipush (-11)) 2 (-11), eb (.goto 20) 32, e0 (.aload_n 0) 1, ef (.getfield 107) 9 49, e0 (.iload_n 1) 1, e0 .iaload 1, e1 (.bipush (-2)) 2 (-2), eb (.if_icmp .ne 7) 30, e1 (.iconst 0) 1 0, eb (.goto 5) 32, e1 (.bipush (-12)) 2 (-12), e0 .ireturn 1]
theorem dt_M_rowFault : bt_dec mi_M_rowFault.2.1 mi_M_rowFault.2.2.1 0 ct_M_rowFault = true := by decide +kernel
theorem kt_M_rowFault : bt_T mi_M_rowFault ct_M_rowFault := ⟨dt_M_rowFault, ⟨trivial, ⟨lg_M_107, ⟨trivial, ⟨trivial, ⟨trivial, ⟨trivial, ⟨trivial, ⟨trivial, ⟨trivial, ⟨lg_M_107, ⟨trivial, ⟨trivial, ⟨trivial, ⟨trivial, ⟨trivial, ⟨trivial, ⟨trivial, ⟨trivial, trivial⟩⟩⟩⟩⟩⟩⟩⟩⟩⟩⟩⟩⟩⟩⟩⟩⟩⟩⟩
def ct_M_minutesOf : List bt_E := [e0 (.aload_n 0) 1, ef (.getfield 110) 9 50, e0 (.iload_n 1) 1, e0 .iaload 1, e1 (.bipush 24) 2 24, eb (.if_icmp .ge 12) 20, e0 (.aload_n 0) 1, ef (.getfield 110) 9 50, e0 (.iload_n 1) 1, e0 .iaload 1, eb (.goto 5) 22, e1 (.bipush 24) 2 24, e0 .ireturn 1]
theorem dt_M_minutesOf : bt_dec mi_M_minutesOf.2.1 mi_M_minutesOf.2.2.1 0 ct_M_minutesOf = true := by decide +kernel
theorem kt_M_minutesOf : bt_T mi_M_minutesOf ct_M_minutesOf := ⟨dt_M_minutesOf, ⟨trivial, ⟨lg_M_110, ⟨trivial, ⟨trivial, ⟨trivial, ⟨trivial, ⟨trivial, ⟨lg_M_110, ⟨trivial, ⟨trivial, ⟨trivial, ⟨trivial, ⟨trivial, trivial⟩⟩⟩⟩⟩⟩⟩⟩⟩⟩⟩⟩⟩⟩
def ct_M_told : List bt_E := [e0 (.aload_n 0) 1, ef (.getfield 113) 9 51, e1 (.bipush 60) 2 60, e0 (.iload_n 1) 1, e0 .imul 1, e0 (.iload_n 2) 1, e0 .iadd 1, e0 .laload 1, e0 .lreturn 1]
theorem dt_M_told : bt_dec mi_M_told.2.1 mi_M_told.2.2.1 0 ct_M_told = true := by decide +kernel
theorem kt_M_told : bt_T mi_M_told ct_M_told := ⟨dt_M_told, ⟨trivial, ⟨lg_M_113, ⟨trivial, ⟨trivial, ⟨trivial, ⟨trivial, ⟨trivial, ⟨trivial, ⟨trivial, trivial⟩⟩⟩⟩⟩⟩⟩⟩⟩⟩
def ct_M_mayGo : List bt_E := [e0 (.iload_n 1) 1, e0 (.iload_n 2) 1, eb (.if_icmp .eq 12) 14, e0 (.aload_n 0) 1, e0 (.iload_n 1) 1, e0 (.iload_n 2) 1, em (.invokevirtual 142) 3 9 mi_M_areBeside, eb (.ifCond .eq 7) 18, e1 (.iconst 1) 1 1, eb (.goto 4) 19, e1 (.iconst 0) 1 0, e0 .ireturn 1]
theorem dt_M_mayGo : bt_dec mi_M_mayGo.2.1 mi_M_mayGo.2.2.1 0 ct_M_mayGo = true := by decide +kernel
theorem kt_M_mayGo : bt_T mi_M_mayGo ct_M_mayGo := ⟨dt_M_mayGo, ⟨trivial, ⟨trivial, ⟨trivial, ⟨trivial, ⟨trivial, ⟨trivial, ⟨bv_M_142, ⟨trivial, ⟨trivial, ⟨trivial, ⟨trivial, ⟨trivial, trivial⟩⟩⟩⟩⟩⟩⟩⟩⟩⟩⟩⟩⟩
def ct_M_capped : List bt_E := [e0 (.lload_n 0) 1, e2 (.ldc2_w 272) 3 999999999, e0 .lcmp 1, eb (.ifCond .le 9) 14, e2 (.ldc2_w 272) 3 999999999, eb (.goto 4) 15, e0 (.lload_n 0) 1, e0 .lreturn 1]
theorem dt_M_capped : bt_dec mi_M_capped.2.1 mi_M_capped.2.2.1 0 ct_M_capped = true := by decide +kernel
theorem kt_M_capped : bt_T mi_M_capped ct_M_capped := ⟨dt_M_capped, ⟨trivial, ⟨lk_M_272, ⟨trivial, ⟨trivial, ⟨lk_M_272, ⟨trivial, ⟨trivial, ⟨trivial, trivial⟩⟩⟩⟩⟩⟩⟩⟩⟩
def ct_M_findWalks : List bt_E := [e0 (.aload_n 0) 1, em (.invokevirtual 184) 1 9 mi_M_findFar, e0 (.aload_n 0) 1, e0 (.iload_n 2) 1, em (.invokevirtual 274) 2 9 mi_M_minutesOf, e0 (.istore_n 3) 1, e0 (.iload_n 3) 1, e1 (.iconst 1) 1 1, e0 .isub 1, e0 (.istore 4) 2, e0 (.iload 4) 2, eb (.ifCond .lt 145) 162, e1 (.iconst 0) 1 0, e0 (.istore 5) 2, e0 (.iload 5) 2, e0 (.aload_n 0) 1, ef (.getfield 122) 9 1, eb (.if_icmp .ge 127) 156, e0 (.iload 4) 2, e0 (.iload_n 3) 1, e1 (.iconst 1) 1 1, e0 .isub 1, eb (.if_icmp .ne 7) 44, e2 (.lconst 1) 1 1, eb (.goto 4) 45, e2 (.lconst 0) 1 0, e0 (.lstore 6) 2, e1 (.iconst 0) 1 0, e0 (.istore 8) 2, e0 (.iload 8) 2, e0 (.aload_n 0) 1, ef (.getfield 122) 9 1, eb (.if_icmp .ge 51) 107, e0 (.iload 4) 2, e0 (.iload_n 3) 1, e1 (.iconst 1) 1 1, e0 .isub 1, eb (.if_icmp .ge 43) 107, e0 (.aload_n 0) 1, e0 (.iload 5) 2, e0 (.iload 8) 2, em (.invokevirtual 277) 3 9 mi_M_mayGo, eb (.ifCond .eq 26) 101, e0 (.lload 6) 2, e0 (.aload_n 0) 1, ef (.getfield 75) 9 35, e1 (.bipush 8) 2 8, e0 (.iload 4) 2, e1 (.iconst 1) 1 1, e0 .iadd 1, e0 .imul 1, e0 (.iload 8) 2, e0 .iadd 1, e0 .laload 1, e0 .ladd 1, em (.invokestatic 280) 1 100 mi_M_capped, e0 (.lstore 6) 2, e1 (.iinc 8 1) 3 1, eb (.goto (-54)) 50, e0 (.aload_n 0) 1, ef (.getfield 75) 9 35, e1 (.bipush 8) 2 8, e0 (.iload 4) 2, e0 .imul 1, e0 (.iload 5) 2, e0 .iadd 1, e0 (.aload_n 0) 1, e0 (.iload_n 1) 1, e0 (.iload 5) 2, e0 (.iload 4) 2, em (.invokestatic 265) 0 100 mi_M_every, em (.invokevirtual 268) 5 9 mi_M_soundOf, e0 .i2l 1, e0 (.aload_n 0) 1, e0 (.iload_n 2) 1, e0 (.iload 4) 2, em (.invokevirtual 284) 3 9 mi_M_told, e0 .lcmp 1, eb (.ifCond .ne 8) 148, e0 (.lload 6) 2, eb (.goto 4) 149, e2 (.lconst 0) 1 0, e0 .lastore 1, e1 (.iinc 5 1) 3 1, eb (.goto (-130)) 23, e1 (.iinc 4 (-1)) 3 (-1), eb (.goto (-144)) 15, e1 (.iconst 0) 1 0, e0 (.istore 4) 2, e0 (.iload 4) 2, e0 (.iload_n 3) 1, eb (.if_icmp .ge 139) 307, e1 (.iconst 0) 1 0, e0 (.istore 5) 2, e0 (.iload 5) 2, e0 (.aload_n 0) 1, ef (.getfield 122) 9 1, eb (.if_icmp .ge 121) 301, e0 (.iload 4) 2, eb (.ifCond .ne 7) 192, e2 (.lconst 1) 1 1, eb (.goto 4) 193, e2 (.lconst 0) 1 0, e0 (.lstore 6) 2, e1 (.iconst 0) 1 0, e0 (.istore 8) 2, e0 (.iload 8) 2, e0 (.aload_n 0) 1, ef (.getfield 122) 9 1, eb (.if_icmp .ge 48) 252, e0 (.iload 4) 2, eb (.ifCond .le 43) 252, e0 (.aload_n 0) 1, e0 (.iload 5) 2, e0 (.iload 8) 2, em (.invokevirtual 277) 3 9 mi_M_mayGo, eb (.ifCond .eq 26) 246, e0 (.lload 6) 2, e0 (.aload_n 0) 1, ef (.getfield 79) 9 36, e1 (.bipush 8) 2 8, e0 (.iload 4) 2, e1 (.iconst 1) 1 1, e0 .isub 1, e0 .imul 1, e0 (.iload 8) 2, e0 .iadd 1, e0 .laload 1, e0 .ladd 1, em (.invokestatic 280) 1 100 mi_M_capped, e0 (.lstore 6) 2, e1 (.iinc 8 1) 3 1, eb (.goto (-51)) 198, e0 (.aload_n 0) 1, ef (.getfield 79) 9 36, e1 (.bipush 8) 2 8, e0 (.iload 4) 2, e0 .imul 1, e0 (.iload 5) 2, e0 .iadd 1, e0 (.aload_n 0) 1, e0 (.iload_n 1) 1, e0 (.iload 5) 2, e0 (.iload 4) 2, em (.invokestatic 265) 0 100 mi_M_every, em (.invokevirtual 268) 5 9 mi_M_soundOf, e0 .i2l 1, e0 (.aload_n 0) 1, e0 (.iload_n 2) 1, e0 (.iload 4) 2, em (.invokevirtual 284) 3 9 mi_M_told, e0 .lcmp 1, eb (.ifCond .ne 8) 293, e0 (.lload 6) 2, eb (.goto 4) 294, e2 (.lconst 0) 1 0, e0 .lastore 1, e1 (.iinc 5 1) 3 1, eb (.goto (-124)) 174, e1 (.iinc 4 1) 3 1, eb (.goto (-139)) 165, e0 .return_ 1]
theorem dt_M_findWalks : bt_dec mi_M_findWalks.2.1 mi_M_findWalks.2.2.1 0 ct_M_findWalks = true := by decide +kernel
theorem kt_M_findWalks : bt_T mi_M_findWalks ct_M_findWalks := ⟨dt_M_findWalks, ⟨trivial, ⟨bv_M_184, ⟨trivial, ⟨trivial, ⟨bv_M_274, ⟨trivial, ⟨trivial, ⟨trivial, ⟨trivial, ⟨trivial, ⟨trivial, ⟨trivial, ⟨trivial, ⟨trivial, ⟨trivial, ⟨trivial, ⟨lg_M_122, ⟨trivial, ⟨trivial, ⟨trivial, ⟨trivial, ⟨trivial, ⟨trivial, ⟨trivial, ⟨trivial, ⟨trivial, ⟨trivial, ⟨trivial, ⟨trivial, ⟨trivial, ⟨trivial, ⟨lg_M_122, ⟨trivial, ⟨trivial, ⟨trivial, ⟨trivial, ⟨trivial, ⟨trivial, ⟨trivial, ⟨trivial, ⟨trivial, ⟨bv_M_277, ⟨trivial, ⟨trivial, ⟨trivial, ⟨lg_M_75, ⟨trivial, ⟨trivial, ⟨trivial, ⟨trivial, ⟨trivial, ⟨trivial, ⟨trivial, ⟨trivial, ⟨trivial, ⟨⟨fun _ => bs_M_280, (fun h => by cases h)⟩, ⟨trivial, ⟨trivial, ⟨trivial, ⟨trivial, ⟨lg_M_75, ⟨trivial, ⟨trivial, ⟨trivial, ⟨trivial, ⟨trivial, ⟨trivial, ⟨trivial, ⟨trivial, ⟨trivial, ⟨⟨fun _ => bs_M_265, (fun h => by cases h)⟩, ⟨bv_M_268, ⟨trivial, ⟨trivial, ⟨trivial, ⟨trivial, ⟨bv_M_284, ⟨trivial, ⟨trivial, ⟨trivial, ⟨trivial, ⟨trivial, ⟨trivial, ⟨trivial, ⟨trivial, ⟨trivial, ⟨trivial, ⟨trivial, ⟨trivial, ⟨trivial, ⟨trivial, ⟨trivial, ⟨trivial, ⟨trivial, ⟨trivial, ⟨trivial, ⟨lg_M_122, ⟨trivial, ⟨trivial, ⟨trivial, ⟨trivial, ⟨trivial, ⟨trivial, ⟨trivial, ⟨trivial, ⟨trivial, ⟨trivial, ⟨trivial, ⟨lg_M_122, ⟨trivial, ⟨trivial, ⟨trivial, ⟨trivial, ⟨trivial, ⟨trivial, ⟨bv_M_277, ⟨trivial, ⟨trivial, ⟨trivial, ⟨lg_M_79, ⟨trivial, ⟨trivial, ⟨trivial, ⟨trivial, ⟨trivial, ⟨trivial, ⟨trivial, ⟨trivial, ⟨trivial, ⟨⟨fun _ => bs_M_280, (fun h => by cases h)⟩, ⟨trivial, ⟨trivial, ⟨trivial, ⟨trivial, ⟨lg_M_79, ⟨trivial, ⟨trivial, ⟨trivial, ⟨trivial, ⟨trivial, ⟨trivial, ⟨trivial, ⟨trivial, ⟨trivial, ⟨⟨fun _ => bs_M_265, (fun h => by cases h)⟩, ⟨bv_M_268, ⟨trivial, ⟨trivial, ⟨trivial, ⟨trivial, ⟨bv_M_284, ⟨trivial, ⟨trivial, ⟨trivial, ⟨trivial, ⟨trivial, ⟨trivial, ⟨trivial, ⟨trivial, ⟨trivial, ⟨trivial, ⟨trivial, trivial⟩⟩⟩⟩⟩⟩⟩⟩⟩⟩⟩⟩⟩⟩⟩⟩⟩⟩⟩⟩⟩⟩⟩⟩⟩⟩⟩⟩⟩⟩⟩⟩⟩⟩⟩⟩⟩⟩⟩⟩⟩⟩⟩⟩⟩⟩⟩⟩⟩⟩⟩⟩⟩⟩⟩⟩⟩⟩⟩⟩⟩⟩⟩⟩⟩⟩⟩⟩⟩⟩⟩⟩⟩⟩⟩⟩⟩⟩⟩⟩⟩⟩⟩⟩⟩⟩⟩⟩⟩⟩⟩⟩⟩⟩⟩⟩⟩⟩⟩⟩⟩⟩⟩⟩⟩⟩⟩⟩⟩⟩⟩⟩⟩⟩⟩⟩⟩⟩⟩⟩⟩⟩⟩⟩⟩⟩⟩⟩⟩⟩⟩⟩⟩⟩⟩⟩⟩⟩⟩⟩⟩⟩⟩⟩⟩⟩⟩⟩⟩⟩⟩⟩⟩⟩⟩⟩⟩⟩⟩⟩⟩⟩⟩
def ct_M_walksMany : List bt_E := [e0 (.aload_n 0) 1, e0 (.iload_n 1) 1, em (.invokevirtual 274) 2 9 mi_M_minutesOf, eb (.ifCond .ne 5) 10, e1 (.iconst 1) 1 1, e0 .ireturn 1, e2 (.lconst 0) 1 0, e0 (.lstore_n 2) 1, e1 (.iconst 0) 1 0, e0 (.istore 4) 2, e0 (.iload 4) 2, e0 (.aload_n 0) 1, ef (.getfield 122) 9 1, eb (.if_icmp .ge 22) 43, e0 (.lload_n 2) 1, e0 (.aload_n 0) 1, ef (.getfield 75) 9 35, e0 (.iload 4) 2, e0 .laload 1, e0 .ladd 1, em (.invokestatic 280) 1 100 mi_M_capped, e0 (.lstore_n 2) 1, e1 (.iinc 4 1) 3 1, eb (.goto (-25)) 15, e0 (.lload_n 2) 1, e0 .l2i 1, e0 .ireturn 1]
theorem dt_M_walksMany : bt_dec mi_M_walksMany.2.1 mi_M_walksMany.2.2.1 0 ct_M_walksMany = true := by decide +kernel
theorem kt_M_walksMany : bt_T mi_M_walksMany ct_M_walksMany := ⟨dt_M_walksMany, ⟨trivial, ⟨trivial, ⟨bv_M_274, ⟨trivial, ⟨trivial, ⟨trivial, ⟨trivial, ⟨trivial, ⟨trivial, ⟨trivial, ⟨trivial, ⟨trivial, ⟨lg_M_122, ⟨trivial, ⟨trivial, ⟨trivial, ⟨lg_M_75, ⟨trivial, ⟨trivial, ⟨trivial, ⟨⟨fun _ => bs_M_280, (fun h => by cases h)⟩, ⟨trivial, ⟨trivial, ⟨trivial, ⟨trivial, ⟨trivial, ⟨trivial, trivial⟩⟩⟩⟩⟩⟩⟩⟩⟩⟩⟩⟩⟩⟩⟩⟩⟩⟩⟩⟩⟩⟩⟩⟩⟩⟩⟩⟩
def ct_M_fits : List bt_E := [e0 (.iload_n 1) 1, em (.invokestatic 133) 1 100 mi_M_isShelf, eb (.ifCond .eq 17) 21, e0 (.iload_n 2) 1, eb (.ifCond .lt 13) 21, e0 (.iload_n 2) 1, e1 (.bipush 100) 2 100, e0 .idiv 1, em (.invokestatic 172) 1 100 mi_M_isSort, eb (.ifCond .ne 5) 23, e1 (.iconst (-1)) 1 (-1), e0 .ireturn 1, e0 (.aload_n 0) 1, e0 (.iload_n 1) 1, em (.invokevirtual 288) 2 9 mi_M_rowFault, eb (.ifCond .ge 32) 60, e0 (.iload_n 2) 1, e1 (.bipush 100) 2 100, e0 .irem 1, e1 (.bipush 99) 2 99, eb (.if_icmp .eq 13) 50, e0 (.iload_n 2) 1, e1 (.bipush 100) 2 100, e0 .irem 1, em (.invokestatic 169) 1 100 mi_M_isMinute, eb (.ifCond .eq 11) 58, e0 (.aload_n 0) 1, e0 (.iload_n 1) 1, em (.invokevirtual 288) 2 9 mi_M_rowFault, eb (.goto 4) 59, e1 (.iconst (-1)) 1 (-1), e0 .ireturn 1, e0 (.iload_n 2) 1, e1 (.bipush 100) 2 100, e0 .irem 1, e1 (.bipush 99) 2 99, eb (.if_icmp .eq 17) 83, e0 (.iload_n 2) 1, e1 (.bipush 100) 2 100, e0 .irem 1, e0 (.aload_n 0) 1, e0 (.iload_n 1) 1, em (.invokevirtual 274) 2 9 mi_M_minutesOf, eb (.if_icmp .lt 5) 83, e1 (.iconst (-1)) 1 (-1), e0 .ireturn 1, e0 (.aload_n 0) 1, e0 (.iload_n 2) 1, e1 (.bipush 100) 2 100, e0 .idiv 1, e0 (.iload_n 1) 1, em (.invokevirtual 291) 3 9 mi_M_findWalks, e0 (.aload_n 0) 1, e0 (.iload_n 1) 1, em (.invokevirtual 294) 2 9 mi_M_walksMany, e0 (.istore_n 3) 1, e0 (.iload_n 2) 1, e1 (.bipush 100) 2 100, e0 .irem 1, e1 (.bipush 99) 2 99, eb (.if_icmp .ne 5) 109, e0 (.iload_n 3) 1, e0 .ireturn 1, e0 (.iload_n 3) 1, eb (.ifCond .ne 6) 116, e1 (.bipush (-2)) 2 (-2), e0 .ireturn 1, e1 (.iconst (-1)) 1 (-1), e0 (.istore 4) 2, e1 (.iconst 0) 1 0, e0 (.istore 5) 2, e0 (.iload 5) 2, e0 (.iload_n 2) 1, e1 (.bipush 100) 2 100, e0 .irem 1, eb (.if_icmp .gt 56) 184, e1 (.iconst 0) 1 0, e0 (.istore 6) 2, e0 (.aload_n 0) 1, ef (.getfield 75) 9 35, e1 (.bipush 8) 2 8, e0 (.iload 5) 2, e0 .imul 1, e0 (.iload 6) 2, e0 .iadd 1, e0 .laload 1, e2 (.lconst 0) 1 0, e0 .lcmp 1, eb (.ifCond .eq 19) 168, e0 (.iload 5) 2, eb (.ifCond .le 20) 174, e0 (.aload_n 0) 1, e0 (.iload 4) 2, e0 (.iload 6) 2, em (.invokevirtual 277) 3 9 mi_M_mayGo, eb (.ifCond .ne 9) 174, e1 (.iinc 6 1) 3 1, eb (.goto (-37)) 134, e0 (.iload 6) 2, e0 (.istore 4) 2, e1 (.iinc 5 1) 3 1, eb (.goto (-59)) 122, e0 (.iload 4) 2, e0 .ireturn 1]
theorem dt_M_fits : bt_dec mi_M_fits.2.1 mi_M_fits.2.2.1 0 ct_M_fits = true := by decide +kernel
theorem kt_M_fits : bt_T mi_M_fits ct_M_fits := ⟨dt_M_fits, ⟨trivial, ⟨⟨fun _ => bs_M_133, (fun h => by cases h)⟩, ⟨trivial, ⟨trivial, ⟨trivial, ⟨trivial, ⟨trivial, ⟨trivial, ⟨⟨fun _ => bs_M_172, (fun h => by cases h)⟩, ⟨trivial, ⟨trivial, ⟨trivial, ⟨trivial, ⟨trivial, ⟨bv_M_288, ⟨trivial, ⟨trivial, ⟨trivial, ⟨trivial, ⟨trivial, ⟨trivial, ⟨trivial, ⟨trivial, ⟨trivial, ⟨⟨fun _ => bs_M_169, (fun h => by cases h)⟩, ⟨trivial, ⟨trivial, ⟨trivial, ⟨bv_M_288, ⟨trivial, ⟨trivial, ⟨trivial, ⟨trivial, ⟨trivial, ⟨trivial, ⟨trivial, ⟨trivial, ⟨trivial, ⟨trivial, ⟨trivial, ⟨trivial, ⟨trivial, ⟨bv_M_274, ⟨trivial, ⟨trivial, ⟨trivial, ⟨trivial, ⟨trivial, ⟨trivial, ⟨trivial, ⟨trivial, ⟨bv_M_291, ⟨trivial, ⟨trivial, ⟨bv_M_294, ⟨trivial, ⟨trivial, ⟨trivial, ⟨trivial, ⟨trivial, ⟨trivial, ⟨trivial, ⟨trivial, ⟨trivial, ⟨trivial, ⟨trivial, ⟨trivial, ⟨trivial, ⟨trivial, ⟨trivial, ⟨trivial, ⟨trivial, ⟨trivial, ⟨trivial, ⟨trivial, ⟨trivial, ⟨trivial, ⟨trivial, ⟨trivial, ⟨lg_M_75, ⟨trivial, ⟨trivial, ⟨trivial, ⟨trivial, ⟨trivial, ⟨trivial, ⟨trivial, ⟨trivial, ⟨trivial, ⟨trivial, ⟨trivial, ⟨trivial, ⟨trivial, ⟨trivial, ⟨bv_M_277, ⟨trivial, ⟨trivial, ⟨trivial, ⟨trivial, ⟨trivial, ⟨trivial, ⟨trivial, ⟨trivial, ⟨trivial, trivial⟩⟩⟩⟩⟩⟩⟩⟩⟩⟩⟩⟩⟩⟩⟩⟩⟩⟩⟩⟩⟩⟩⟩⟩⟩⟩⟩⟩⟩⟩⟩⟩⟩⟩⟩⟩⟩⟩⟩⟩⟩⟩⟩⟩⟩⟩⟩⟩⟩⟩⟩⟩⟩⟩⟩⟩⟩⟩⟩⟩⟩⟩⟩⟩⟩⟩⟩⟩⟩⟩⟩⟩⟩⟩⟩⟩⟩⟩⟩⟩⟩⟩⟩⟩⟩⟩⟩⟩⟩⟩⟩⟩⟩⟩⟩⟩⟩⟩⟩⟩⟩⟩⟩⟩⟩
def ct_M_canBe : List bt_E := [e0 (.iload_n 1) 1, em (.invokestatic 133) 1 100 mi_M_isShelf, eb (.ifCond .eq 17) 21, e0 (.iload_n 2) 1, eb (.ifCond .lt 13) 21, e0 (.iload_n 2) 1, e1 (.bipush 100) 2 100, e0 .idiv 1, em (.invokestatic 172) 1 100 mi_M_isSort, eb (.ifCond .ne 5) 23, e1 (.iconst (-1)) 1 (-1), e0 .ireturn 1, e0 (.aload_n 0) 1, e0 (.iload_n 1) 1, em (.invokevirtual 288) 2 9 mi_M_rowFault, eb (.ifCond .ge 23) 51, e0 (.iload_n 2) 1, e1 (.bipush 100) 2 100, e0 .irem 1, em (.invokestatic 169) 1 100 mi_M_isMinute, eb (.ifCond .eq 11) 49, e0 (.aload_n 0) 1, e0 (.iload_n 1) 1, em (.invokevirtual 288) 2 9 mi_M_rowFault, eb (.goto 4) 50, e1 (.iconst (-1)) 1 (-1), e0 .ireturn 1, e0 (.iload_n 2) 1, e1 (.bipush 100) 2 100, e0 .irem 1, e0 (.aload_n 0) 1, e0 (.iload_n 1) 1, em (.invokevirtual 274) 2 9 mi_M_minutesOf, eb (.if_icmp .lt 5) 65, e1 (.iconst (-1)) 1 (-1), e0 .ireturn 1, e0 (.aload_n 0) 1, e0 (.iload_n 2) 1, e1 (.bipush 100) 2 100, e0 .idiv 1, e0 (.iload_n 1) 1, em (.invokevirtual 291) 3 9 mi_M_findWalks, e1 (.iconst 0) 1 0, e0 (.istore_n 3) 1, e1 (.iconst 0) 1 0, e0 (.istore 4) 2, e0 (.iload 4) 2, e0 (.aload_n 0) 1, ef (.getfield 122) 9 1, eb (.if_icmp .ge 56) 141, e0 (.aload_n 0) 1, ef (.getfield 75) 9 35, e1 (.bipush 8) 2 8, e0 (.iload_n 2) 1, e1 (.bipush 100) 2 100, e0 .irem 1, e0 .imul 1, e0 (.iload 4) 2, e0 .iadd 1, e0 .laload 1, e2 (.lconst 0) 1 0, e0 .lcmp 1, eb (.ifCond .le 30) 135, e0 (.aload_n 0) 1, ef (.getfield 79) 9 36, e1 (.bipush 8) 2 8, e0 (.iload_n 2) 1, e1 (.bipush 100) 2 100, e0 .irem 1, e0 .imul 1, e0 (.iload 4) 2, e0 .iadd 1, e0 .laload 1, e2 (.lconst 0) 1 0, e0 .lcmp 1, eb (.ifCond .le 10) 135, e0 (.iload_n 3) 1, e1 (.iconst 1) 1 1, e0 (.iload 4) 2, e0 .ishl 1, e0 .ior 1, e0 (.istore_n 3) 1, e1 (.iinc 4 1) 3 1, eb (.goto (-59)) 79, e0 (.iload_n 3) 1, eb (.ifCond .ne 8) 150, e1 (.bipush (-2)) 2 (-2), eb (.goto 4) 151, e0 (.iload_n 3) 1, e0 .ireturn 1]
theorem dt_M_canBe : bt_dec mi_M_canBe.2.1 mi_M_canBe.2.2.1 0 ct_M_canBe = true := by decide +kernel
theorem kt_M_canBe : bt_T mi_M_canBe ct_M_canBe := ⟨dt_M_canBe, ⟨trivial, ⟨⟨fun _ => bs_M_133, (fun h => by cases h)⟩, ⟨trivial, ⟨trivial, ⟨trivial, ⟨trivial, ⟨trivial, ⟨trivial, ⟨⟨fun _ => bs_M_172, (fun h => by cases h)⟩, ⟨trivial, ⟨trivial, ⟨trivial, ⟨trivial, ⟨trivial, ⟨bv_M_288, ⟨trivial, ⟨trivial, ⟨trivial, ⟨trivial, ⟨⟨fun _ => bs_M_169, (fun h => by cases h)⟩, ⟨trivial, ⟨trivial, ⟨trivial, ⟨bv_M_288, ⟨trivial, ⟨trivial, ⟨trivial, ⟨trivial, ⟨trivial, ⟨trivial, ⟨trivial, ⟨trivial, ⟨bv_M_274, ⟨trivial, ⟨trivial, ⟨trivial, ⟨trivial, ⟨trivial, ⟨trivial, ⟨trivial, ⟨trivial, ⟨bv_M_291, ⟨trivial, ⟨trivial, ⟨trivial, ⟨trivial, ⟨trivial, ⟨trivial, ⟨lg_M_122, ⟨trivial, ⟨trivial, ⟨lg_M_75, ⟨trivial, ⟨trivial, ⟨trivial, ⟨trivial, ⟨trivial, ⟨trivial, ⟨trivial, ⟨trivial, ⟨trivial, ⟨trivial, ⟨trivial, ⟨trivial, ⟨lg_M_79, ⟨trivial, ⟨trivial, ⟨trivial, ⟨trivial, ⟨trivial, ⟨trivial, ⟨trivial, ⟨trivial, ⟨trivial, ⟨trivial, ⟨trivial, ⟨trivial, ⟨trivial, ⟨trivial, ⟨trivial, ⟨trivial, ⟨trivial, ⟨trivial, ⟨trivial, ⟨trivial, ⟨trivial, ⟨trivial, ⟨trivial, ⟨trivial, ⟨trivial, trivial⟩⟩⟩⟩⟩⟩⟩⟩⟩⟩⟩⟩⟩⟩⟩⟩⟩⟩⟩⟩⟩⟩⟩⟩⟩⟩⟩⟩⟩⟩⟩⟩⟩⟩⟩⟩⟩⟩⟩⟩⟩⟩⟩⟩⟩⟩⟩⟩⟩⟩⟩⟩⟩⟩⟩⟩⟩⟩⟩⟩⟩⟩⟩⟩⟩⟩⟩⟩⟩⟩⟩⟩⟩⟩⟩⟩⟩⟩⟩⟩⟩⟩⟩⟩⟩⟩⟩⟩⟩⟩⟩
def ct_M_canBeOf : List bt_E := [e1 (.iconst 0) 1 0, e0 (.istore 5) 2, e0 (.iload 5) 2, e0 (.aload_n 0) 1, ef (.getfield 122) 9 1, eb (.if_icmp .ge 28) 37, e0 (.aload_n 0) 1, e0 (.iload_n 1) 1, e0 (.iload 5) 2, e0 (.iload_n 2) 1, em (.invokestatic 265) 0 100 mi_M_every, em (.invokevirtual 268) 5 9 mi_M_soundOf, e0 .i2l 1, e0 (.lload_n 3) 1, e0 .lcmp 1, eb (.ifCond .ne 5) 31, e1 (.iconst 1) 1 1, e0 .ireturn 1, e1 (.iinc 5 1) 3 1, eb (.goto (-31)) 3, e1 (.iconst 0) 1 0, e0 .ireturn 1]
theorem dt_M_canBeOf : bt_dec mi_M_canBeOf.2.1 mi_M_canBeOf.2.2.1 0 ct_M_canBeOf = true := by decide +kernel
theorem kt_M_canBeOf : bt_T mi_M_canBeOf ct_M_canBeOf := ⟨dt_M_canBeOf, ⟨trivial, ⟨trivial, ⟨trivial, ⟨trivial, ⟨lg_M_122, ⟨trivial, ⟨trivial, ⟨trivial, ⟨trivial, ⟨trivial, ⟨⟨fun _ => bs_M_265, (fun h => by cases h)⟩, ⟨bv_M_268, ⟨trivial, ⟨trivial, ⟨trivial, ⟨trivial, ⟨trivial, ⟨trivial, ⟨trivial, ⟨trivial, ⟨trivial, ⟨trivial, trivial⟩⟩⟩⟩⟩⟩⟩⟩⟩⟩⟩⟩⟩⟩⟩⟩⟩⟩⟩⟩⟩⟩⟩
def ct_M_areSorts : List bt_E := [e0 (.iload_n 0) 1, eb (.ifCond .lt 27) 28, e0 (.iload_n 0) 1, e1 (.bipush 10) 2 10, e0 .idiv 1, em (.invokestatic 172) 1 100 mi_M_isSort, eb (.ifCond .eq 17) 28, e0 (.iload_n 0) 1, e1 (.bipush 10) 2 10, e0 .irem 1, em (.invokestatic 172) 1 100 mi_M_isSort, eb (.ifCond .eq 7) 28, e1 (.iconst 1) 1 1, eb (.goto 4) 29, e1 (.iconst 0) 1 0, e0 .ireturn 1]
theorem dt_M_areSorts : bt_dec mi_M_areSorts.2.1 mi_M_areSorts.2.2.1 0 ct_M_areSorts = true := by decide +kernel
theorem kt_M_areSorts : bt_T mi_M_areSorts ct_M_areSorts := ⟨dt_M_areSorts, ⟨trivial, ⟨trivial, ⟨trivial, ⟨trivial, ⟨trivial, ⟨⟨fun _ => bs_M_172, (fun h => by cases h)⟩, ⟨trivial, ⟨trivial, ⟨trivial, ⟨trivial, ⟨⟨fun _ => bs_M_172, (fun h => by cases h)⟩, ⟨trivial, ⟨trivial, ⟨trivial, ⟨trivial, ⟨trivial, trivial⟩⟩⟩⟩⟩⟩⟩⟩⟩⟩⟩⟩⟩⟩⟩⟩⟩
def ct_M_twoAtOnce : List bt_E := [e0 (.iload_n 1) 1, em (.invokestatic 133) 1 100 mi_M_isShelf, eb (.ifCond .eq 19) 23, e0 (.iload_n 2) 1, em (.invokestatic 297) 1 100 mi_M_areSorts, eb (.ifCond .eq 12) 23, e0 (.iload_n 3) 1, e1 (.iconst 0) 1 0, e1 (.iconst 1) 1 1, em (.invokestatic 125) 3 100 mi_M_in, eb (.ifCond .ne 5) 25, e1 (.iconst (-1)) 1 (-1), e0 .ireturn 1, e0 (.aload_n 0) 1, e0 (.iload_n 1) 1, em (.invokevirtual 288) 2 9 mi_M_rowFault, eb (.ifCond .ge 9) 39, e0 (.aload_n 0) 1, e0 (.iload_n 1) 1, em (.invokevirtual 288) 2 9 mi_M_rowFault, e0 .ireturn 1, e0 (.aload_n 0) 1, em (.invokevirtual 184) 1 9 mi_M_findFar, e1 (.iconst 0) 1 0, e0 (.istore 4) 2, e1 (.bipush (-2)) 2 (-2), e0 (.istore 5) 2, e0 (.aload_n 0) 1, e0 (.iload_n 1) 1, em (.invokevirtual 274) 2 9 mi_M_minutesOf, e1 (.iconst 1) 1 1, e0 .isub 1, e0 (.istore 6) 2, e0 (.iload 6) 2, eb (.ifCond .lt 59) 120, e0 (.aload_n 0) 1, e0 (.iload_n 2) 1, e1 (.bipush 10) 2 10, e0 .idiv 1, e0 (.iload 6) 2, e0 (.aload_n 0) 1, e0 (.iload_n 1) 1, e0 (.iload 6) 2, em (.invokevirtual 284) 3 9 mi_M_told, em (.invokevirtual 300) 4 9 mi_M_canBeOf, eb (.ifCond .ne 33) 114, e0 (.aload_n 0) 1, e0 (.iload_n 2) 1, e1 (.bipush 10) 2 10, e0 .irem 1, e0 (.iload 6) 2, e0 (.aload_n 0) 1, e0 (.iload_n 1) 1, e0 (.iload 6) 2, em (.invokevirtual 284) 3 9 mi_M_told, em (.invokevirtual 300) 4 9 mi_M_canBeOf, eb (.ifCond .ne 6) 107, eb (.goto 10) 114, e1 (.iinc 4 1) 3 1, e0 (.iload 6) 2, e0 (.istore 5) 2, e1 (.iinc 6 (-1)) 3 (-1), eb (.goto (-58)) 59, e0 (.iload_n 3) 1, eb (.ifCond .ne 8) 129, e0 (.iload 4) 2, eb (.goto 5) 131, e0 (.iload 5) 2, e0 .ireturn 1]
theorem dt_M_twoAtOnce : bt_dec mi_M_twoAtOnce.2.1 mi_M_twoAtOnce.2.2.1 0 ct_M_twoAtOnce = true := by decide +kernel
theorem kt_M_twoAtOnce : bt_T mi_M_twoAtOnce ct_M_twoAtOnce := ⟨dt_M_twoAtOnce, ⟨trivial, ⟨⟨fun _ => bs_M_133, (fun h => by cases h)⟩, ⟨trivial, ⟨trivial, ⟨⟨fun _ => bs_M_297, (fun h => by cases h)⟩, ⟨trivial, ⟨trivial, ⟨trivial, ⟨trivial, ⟨⟨fun _ => bs_M_125, (fun h => by cases h)⟩, ⟨trivial, ⟨trivial, ⟨trivial, ⟨trivial, ⟨trivial, ⟨bv_M_288, ⟨trivial, ⟨trivial, ⟨trivial, ⟨bv_M_288, ⟨trivial, ⟨trivial, ⟨bv_M_184, ⟨trivial, ⟨trivial, ⟨trivial, ⟨trivial, ⟨trivial, ⟨trivial, ⟨bv_M_274, ⟨trivial, ⟨trivial, ⟨trivial, ⟨trivial, ⟨trivial, ⟨trivial, ⟨trivial, ⟨trivial, ⟨trivial, ⟨trivial, ⟨trivial, ⟨trivial, ⟨trivial, ⟨bv_M_284, ⟨bv_M_300, ⟨trivial, ⟨trivial, ⟨trivial, ⟨trivial, ⟨trivial, ⟨trivial, ⟨trivial, ⟨trivial, ⟨trivial, ⟨bv_M_284, ⟨bv_M_300, ⟨trivial, ⟨trivial, ⟨trivial, ⟨trivial, ⟨trivial, ⟨trivial, ⟨trivial, ⟨trivial, ⟨trivial, ⟨trivial, ⟨trivial, ⟨trivial, ⟨trivial, trivial⟩⟩⟩⟩⟩⟩⟩⟩⟩⟩⟩⟩⟩⟩⟩⟩⟩⟩⟩⟩⟩⟩⟩⟩⟩⟩⟩⟩⟩⟩⟩⟩⟩⟩⟩⟩⟩⟩⟩⟩⟩⟩⟩⟩⟩⟩⟩⟩⟩⟩⟩⟩⟩⟩⟩⟩⟩⟩⟩⟩⟩⟩⟩⟩⟩⟩⟩⟩⟩⟩
def ct_M_soundIn : List bt_E := [e0 (.aload_n 0) 1, e0 (.iload_n 1) 1, e0 (.iload_n 2) 1, e0 (.iload_n 3) 1, em (.invokestatic 265) 0 100 mi_M_every, em (.invokevirtual 268) 5 9 mi_M_soundOf, e1 (.iconst (-1)) 1 (-1), eb (.if_icmp .ne 7) 18, e1 (.iconst 0) 1 0, eb (.goto 4) 19, e1 (.iconst 1) 1 1, e0 .ireturn 1]
theorem dt_M_soundIn : bt_dec mi_M_soundIn.2.1 mi_M_soundIn.2.2.1 0 ct_M_soundIn = true := by decide +kernel
theorem kt_M_soundIn : bt_T mi_M_soundIn ct_M_soundIn := ⟨dt_M_soundIn, ⟨trivial, ⟨trivial, ⟨trivial, ⟨trivial, ⟨⟨fun _ => bs_M_265, (fun h => by cases h)⟩, ⟨bv_M_268, ⟨trivial, ⟨trivial, ⟨trivial, ⟨trivial, ⟨trivial, ⟨trivial, trivial⟩⟩⟩⟩⟩⟩⟩⟩⟩⟩⟩⟩⟩
def ct_M_findLeast : List bt_E := [e0 (.aload_n 0) 1, em (.invokevirtual 184) 1 9 mi_M_findFar, e1 (.iconst 0) 1 0, e0 (.istore 5) 2, e0 (.iload 5) 2, e0 (.aload_n 0) 1, ef (.getfield 122) 9 1, eb (.if_icmp .ge 43) 56, e0 (.aload_n 0) 1, ef (.getfield 82) 9 37, e1 (.bipush 8) 2 8, e0 (.iload 4) 2, e0 .imul 1, e0 (.iload 5) 2, e0 .iadd 1, e0 (.iload 5) 2, e0 (.iload_n 2) 1, eb (.if_icmp .ne 15) 46, e0 (.aload_n 0) 1, e0 (.iload_n 1) 1, e0 (.iload 5) 2, e0 (.iload 4) 2, em (.invokevirtual 304) 4 9 mi_M_soundIn, eb (.goto 6) 49, e1 (.ldc_w 307) 3 1000000, e0 .iastore 1, e1 (.iinc 5 1) 3 1, eb (.goto (-46)) 7, e0 (.iload 4) 2, e1 (.iconst 1) 1 1, e0 .isub 1, e0 (.istore 5) 2, e0 (.iload 5) 2, e0 (.iload_n 3) 1, eb (.if_icmp .lt 137) 202, e1 (.iconst 0) 1 0, e0 (.istore 6) 2, e0 (.iload 6) 2, e0 (.aload_n 0) 1, ef (.getfield 122) 9 1, eb (.if_icmp .ge 119) 196, e1 (.ldc_w 307) 3 1000000, e0 (.istore 7) 2, e1 (.iconst 0) 1 0, e0 (.istore 8) 2, e0 (.iload 8) 2, e0 (.aload_n 0) 1, ef (.getfield 122) 9 1, eb (.if_icmp .ge 57) 151, e0 (.aload_n 0) 1, e0 (.iload 6) 2, e0 (.iload 8) 2, em (.invokevirtual 277) 3 9 mi_M_mayGo, eb (.ifCond .eq 40) 145, e0 (.aload_n 0) 1, ef (.getfield 82) 9 37, e1 (.bipush 8) 2 8, e0 (.iload 5) 2, e1 (.iconst 1) 1 1, e0 .iadd 1, e0 .imul 1, e0 (.iload 8) 2, e0 .iadd 1, e0 .iaload 1, e0 (.iload 7) 2, eb (.if_icmp .ge 20) 145, e0 (.aload_n 0) 1, ef (.getfield 82) 9 37, e1 (.bipush 8) 2 8, e0 (.iload 5) 2, e1 (.iconst 1) 1 1, e0 .iadd 1, e0 .imul 1, e0 (.iload 8) 2, e0 .iadd 1, e0 .iaload 1, e0 (.istore 7) 2, e1 (.iinc 8 1) 3 1, eb (.goto (-60)) 88, e0 (.aload_n 0) 1, ef (.getfield 82) 9 37, e1 (.bipush 8) 2 8, e0 (.iload 5) 2, e0 .imul 1, e0 (.iload 6) 2, e0 .iadd 1, e0 (.iload 7) 2, e1 (.ldc_w 307) 3 1000000, eb (.if_icmp .ne 9) 177, e1 (.ldc_w 307) 3 1000000, eb (.goto 15) 189, e0 (.iload 7) 2, e0 (.aload_n 0) 1, e0 (.iload_n 1) 1, e0 (.iload 6) 2, e0 (.iload 5) 2, em (.invokevirtual 304) 4 9 mi_M_soundIn, e0 .iadd 1, e0 .iastore 1, e1 (.iinc 6 1) 3 1, eb (.goto (-122)) 71, e1 (.iinc 5 (-1)) 3 (-1), eb (.goto (-137)) 62, e0 .return_ 1]
theorem dt_M_findLeast : bt_dec mi_M_findLeast.2.1 mi_M_findLeast.2.2.1 0 ct_M_findLeast = true := by decide +kernel
theorem kt_M_findLeast : bt_T mi_M_findLeast ct_M_findLeast := ⟨dt_M_findLeast, ⟨trivial, ⟨bv_M_184, ⟨trivial, ⟨trivial, ⟨trivial, ⟨trivial, ⟨lg_M_122, ⟨trivial, ⟨trivial, ⟨lg_M_82, ⟨trivial, ⟨trivial, ⟨trivial, ⟨trivial, ⟨trivial, ⟨trivial, ⟨trivial, ⟨trivial, ⟨trivial, ⟨trivial, ⟨trivial, ⟨trivial, ⟨bv_M_304, ⟨trivial, ⟨lk_M_307, ⟨trivial, ⟨trivial, ⟨trivial, ⟨trivial, ⟨trivial, ⟨trivial, ⟨trivial, ⟨trivial, ⟨trivial, ⟨trivial, ⟨trivial, ⟨trivial, ⟨trivial, ⟨trivial, ⟨lg_M_122, ⟨trivial, ⟨lk_M_307, ⟨trivial, ⟨trivial, ⟨trivial, ⟨trivial, ⟨trivial, ⟨lg_M_122, ⟨trivial, ⟨trivial, ⟨trivial, ⟨trivial, ⟨bv_M_277, ⟨trivial, ⟨trivial, ⟨lg_M_82, ⟨trivial, ⟨trivial, ⟨trivial, ⟨trivial, ⟨trivial, ⟨trivial, ⟨trivial, ⟨trivial, ⟨trivial, ⟨trivial, ⟨trivial, ⟨lg_M_82, ⟨trivial, ⟨trivial, ⟨trivial, ⟨trivial, ⟨trivial, ⟨trivial, ⟨trivial, ⟨trivial, ⟨trivial, ⟨trivial, ⟨trivial, ⟨trivial, ⟨lg_M_82, ⟨trivial, ⟨trivial, ⟨trivial, ⟨trivial, ⟨trivial, ⟨trivial, ⟨lk_M_307, ⟨trivial, ⟨lk_M_307, ⟨trivial, ⟨trivial, ⟨trivial, ⟨trivial, ⟨trivial, ⟨trivial, ⟨bv_M_304, ⟨trivial, ⟨trivial, ⟨trivial, ⟨trivial, ⟨trivial, ⟨trivial, ⟨trivial, trivial⟩⟩⟩⟩⟩⟩⟩⟩⟩⟩⟩⟩⟩⟩⟩⟩⟩⟩⟩⟩⟩⟩⟩⟩⟩⟩⟩⟩⟩⟩⟩⟩⟩⟩⟩⟩⟩⟩⟩⟩⟩⟩⟩⟩⟩⟩⟩⟩⟩⟩⟩⟩⟩⟩⟩⟩⟩⟩⟩⟩⟩⟩⟩⟩⟩⟩⟩⟩⟩⟩⟩⟩⟩⟩⟩⟩⟩⟩⟩⟩⟩⟩⟩⟩⟩⟩⟩⟩⟩⟩⟩⟩⟩⟩⟩⟩⟩⟩⟩⟩⟩⟩⟩⟩⟩
def ct_M_least : List bt_E := [e0 (.iload_n 1) 1, eb (.ifCond .lt 88) 89, e0 (.iload_n 1) 1, e1 (.bipush 100) 2 100, e0 .idiv 1, em (.invokestatic 172) 1 100 mi_M_isSort, eb (.ifCond .eq 78) 89, e0 (.aload_n 0) 1, e0 (.iload_n 1) 1, e1 (.bipush 10) 2 10, e0 .idiv 1, e1 (.bipush 10) 2 10, e0 .irem 1, em (.invokevirtual 139) 2 9 mi_M_isTree, eb (.ifCond .eq 64) 89, e0 (.aload_n 0) 1, e0 (.iload_n 1) 1, e1 (.bipush 10) 2 10, e0 .irem 1, em (.invokevirtual 139) 2 9 mi_M_isTree, eb (.ifCond .eq 53) 89, e0 (.iload_n 2) 1, eb (.ifCond .lt 49) 89, e0 (.iload_n 2) 1, e1 (.bipush 100) 2 100, e0 .idiv 1, em (.invokestatic 169) 1 100 mi_M_isMinute, eb (.ifCond .eq 39) 89, e0 (.iload_n 2) 1, e1 (.bipush 100) 2 100, e0 .irem 1, e0 (.iload_n 2) 1, e1 (.bipush 100) 2 100, e0 .idiv 1, e1 (.bipush 23) 2 23, em (.invokestatic 125) 3 100 mi_M_in, eb (.ifCond .eq 23) 89, e0 (.iload_n 3) 1, e1 (.iconst (-1)) 1 (-1), eb (.if_icmp .eq 20) 91, e0 (.iload_n 3) 1, e0 (.iload_n 2) 1, e1 (.bipush 100) 2 100, e0 .idiv 1, e0 (.iload_n 2) 1, e1 (.bipush 100) 2 100, e0 .irem 1, em (.invokestatic 125) 3 100 mi_M_in, eb (.ifCond .ne 5) 91, e1 (.iconst (-1)) 1 (-1), e0 .ireturn 1, e0 (.iload_n 1) 1, e1 (.bipush 100) 2 100, e0 .idiv 1, e0 (.istore 4) 2, e0 (.iload_n 2) 1, e1 (.bipush 100) 2 100, e0 .idiv 1, e0 (.istore 5) 2, e0 (.aload_n 0) 1, e0 (.iload 4) 2, e0 (.iload_n 1) 1, e1 (.bipush 10) 2 10, e0 .irem 1, e0 (.iload 5) 2, e0 (.iload_n 2) 1, e1 (.bipush 100) 2 100, e0 .irem 1, em (.invokevirtual 308) 5 9 mi_M_findLeast, e0 (.iload_n 1) 1, e1 (.bipush 10) 2 10, e0 .idiv 1, e1 (.bipush 10) 2 10, e0 .irem 1, e0 (.istore 6) 2, e0 (.aload_n 0) 1, ef (.getfield 82) 9 37, e1 (.bipush 8) 2 8, e0 (.iload 5) 2, e0 .imul 1, e0 (.iload 6) 2, e0 .iadd 1, e0 .iaload 1, e1 (.ldc_w 307) 3 1000000, eb (.if_icmp .ne 6) 150, e1 (.bipush (-2)) 2 (-2), e0 .ireturn 1, e0 (.iload_n 3) 1, eb (.ifCond .ge 17) 168, e0 (.aload_n 0) 1, ef (.getfield 82) 9 37, e1 (.bipush 8) 2 8, e0 (.iload 5) 2, e0 .imul 1, e0 (.iload 6) 2, e0 .iadd 1, e0 .iaload 1, e0 .ireturn 1, e0 (.iload 5) 2, e0 (.istore 7) 2, e0 (.iload 7) 2, e0 (.iload_n 3) 1, eb (.if_icmp .ge 79) 254, e0 (.aload_n 0) 1, ef (.getfield 82) 9 37, e1 (.bipush 8) 2 8, e0 (.iload 7) 2, e0 .imul 1, e0 (.iload 6) 2, e0 .iadd 1, e0 .iaload 1, e0 (.aload_n 0) 1, e0 (.iload 4) 2, e0 (.iload 6) 2, e0 (.iload 7) 2, em (.invokevirtual 304) 4 9 mi_M_soundIn, e0 .isub 1, e0 (.istore 8) 2, e1 (.iconst 0) 1 0, e0 (.istore 9) 2, e0 (.aload_n 0) 1, e0 (.iload 6) 2, e0 (.iload 9) 2, em (.invokevirtual 277) 3 9 mi_M_mayGo, eb (.ifCond .eq 23) 238, e0 (.aload_n 0) 1, ef (.getfield 82) 9 37, e1 (.bipush 8) 2 8, e0 (.iload 7) 2, e1 (.iconst 1) 1 1, e0 .iadd 1, e0 .imul 1, e0 (.iload 9) 2, e0 .iadd 1, e0 .iaload 1, e0 (.iload 8) 2, eb (.if_icmp .eq 9) 244, e1 (.iinc 9 1) 3 1, eb (.goto (-34)) 207, e0 (.iload 9) 2, e0 (.istore 6) 2, e1 (.iinc 7 1) 3 1, eb (.goto (-79)) 172, e0 (.iload 6) 2, e0 .ireturn 1]
theorem dt_M_least : bt_dec mi_M_least.2.1 mi_M_least.2.2.1 0 ct_M_least = true := by decide +kernel
theorem kt_M_least : bt_T mi_M_least ct_M_least := ⟨dt_M_least, ⟨trivial, ⟨trivial, ⟨trivial, ⟨trivial, ⟨trivial, ⟨⟨fun _ => bs_M_172, (fun h => by cases h)⟩, ⟨trivial, ⟨trivial, ⟨trivial, ⟨trivial, ⟨trivial, ⟨trivial, ⟨trivial, ⟨bv_M_139, ⟨trivial, ⟨trivial, ⟨trivial, ⟨trivial, ⟨trivial, ⟨bv_M_139, ⟨trivial, ⟨trivial, ⟨trivial, ⟨trivial, ⟨trivial, ⟨trivial, ⟨⟨fun _ => bs_M_169, (fun h => by cases h)⟩, ⟨trivial, ⟨trivial, ⟨trivial, ⟨trivial, ⟨trivial, ⟨trivial, ⟨trivial, ⟨trivial, ⟨⟨fun _ => bs_M_125, (fun h => by cases h)⟩, ⟨trivial, ⟨trivial, ⟨trivial, ⟨trivial, ⟨trivial, ⟨trivial, ⟨trivial, ⟨trivial, ⟨trivial, ⟨trivial, ⟨trivial, ⟨⟨fun _ => bs_M_125, (fun h => by cases h)⟩, ⟨trivial, ⟨trivial, ⟨trivial, ⟨trivial, ⟨trivial, ⟨trivial, ⟨trivial, ⟨trivial, ⟨trivial, ⟨trivial, ⟨trivial, ⟨trivial, ⟨trivial, ⟨trivial, ⟨trivial, ⟨trivial, ⟨trivial, ⟨trivial, ⟨trivial, ⟨trivial, ⟨bv_M_308, ⟨trivial, ⟨trivial, ⟨trivial, ⟨trivial, ⟨trivial, ⟨trivial, ⟨trivial, ⟨lg_M_82, ⟨trivial, ⟨trivial, ⟨trivial, ⟨trivial, ⟨trivial, ⟨trivial, ⟨lk_M_307, ⟨trivial, ⟨trivial, ⟨trivial, ⟨trivial, ⟨trivial, ⟨trivial, ⟨lg_M_82, ⟨trivial, ⟨trivial, ⟨trivial, ⟨trivial, ⟨trivial, ⟨trivial, ⟨trivial, ⟨trivial, ⟨trivial, ⟨trivial, ⟨trivial, ⟨trivial, ⟨trivial, ⟨lg_M_82, ⟨trivial, ⟨trivial, ⟨trivial, ⟨trivial, ⟨trivial, ⟨trivial, ⟨trivial, ⟨trivial, ⟨trivial, ⟨trivial, ⟨bv_M_304, ⟨trivial, ⟨trivial, ⟨trivial, ⟨trivial, ⟨trivial, ⟨trivial, ⟨trivial, ⟨bv_M_277, ⟨trivial, ⟨trivial, ⟨lg_M_82, ⟨trivial, ⟨trivial, ⟨trivial, ⟨trivial, ⟨trivial, ⟨trivial, ⟨trivial, ⟨trivial, ⟨trivial, ⟨trivial, ⟨trivial, ⟨trivial, ⟨trivial, ⟨trivial, ⟨trivial, ⟨trivial, ⟨trivial, ⟨trivial, trivial⟩⟩⟩⟩⟩⟩⟩⟩⟩⟩⟩⟩⟩⟩⟩⟩⟩⟩⟩⟩⟩⟩⟩⟩⟩⟩⟩⟩⟩⟩⟩⟩⟩⟩⟩⟩⟩⟩⟩⟩⟩⟩⟩⟩⟩⟩⟩⟩⟩⟩⟩⟩⟩⟩⟩⟩⟩⟩⟩⟩⟩⟩⟩⟩⟩⟩⟩⟩⟩⟩⟩⟩⟩⟩⟩⟩⟩⟩⟩⟩⟩⟩⟩⟩⟩⟩⟩⟩⟩⟩⟩⟩⟩⟩⟩⟩⟩⟩⟩⟩⟩⟩⟩⟩⟩⟩⟩⟩⟩⟩⟩⟩⟩⟩⟩⟩⟩⟩⟩⟩⟩⟩⟩⟩⟩⟩⟩⟩⟩⟩⟩⟩⟩⟩⟩⟩⟩⟩⟩⟩⟩⟩⟩⟩⟩⟩
def ct_M_isWalk : List bt_E := [e1 (.iconst 0) 1 0, e0 (.istore_n 2) 1, e0 (.iload_n 2) 1, e0 (.aload_n 0) 1, e0 (.iload_n 1) 1, em (.invokevirtual 274) 2 9 mi_M_minutesOf, eb (.if_icmp .ge 66) 74, e0 (.aload_n 0) 1, e0 (.iload_n 1) 1, e0 (.iload_n 2) 1, em (.invokevirtual 284) 3 9 mi_M_told, e2 (.lconst 0) 1 0, e0 .lcmp 1, eb (.ifCond .lt 18) 37, e0 (.aload_n 0) 1, e0 (.iload_n 1) 1, e0 (.iload_n 2) 1, em (.invokevirtual 284) 3 9 mi_M_told, e0 (.aload_n 0) 1, ef (.getfield 122) 9 1, e0 .i2l 1, e0 .lcmp 1, eb (.ifCond .lt 5) 39, e1 (.iconst 0) 1 0, e0 .ireturn 1, e0 (.iload_n 2) 1, eb (.ifCond .le 28) 68, e0 (.aload_n 0) 1, e0 (.aload_n 0) 1, e0 (.iload_n 1) 1, e0 (.iload_n 2) 1, e1 (.iconst 1) 1 1, e0 .isub 1, em (.invokevirtual 284) 3 9 mi_M_told, e0 .l2i 1, e0 (.aload_n 0) 1, e0 (.iload_n 1) 1, e0 (.iload_n 2) 1, em (.invokevirtual 284) 3 9 mi_M_told, e0 .l2i 1, em (.invokevirtual 277) 3 9 mi_M_mayGo, eb (.ifCond .ne 5) 68, e1 (.iconst 0) 1 0, e0 .ireturn 1, e1 (.iinc 2 1) 3 1, eb (.goto (-69)) 2, e1 (.iconst 1) 1 1, e0 .ireturn 1]
theorem dt_M_isWalk : bt_dec mi_M_isWalk.2.1 mi_M_isWalk.2.2.1 0 ct_M_isWalk = true := by decide +kernel
theorem kt_M_isWalk : bt_T mi_M_isWalk ct_M_isWalk := ⟨dt_M_isWalk, ⟨trivial, ⟨trivial, ⟨trivial, ⟨trivial, ⟨trivial, ⟨bv_M_274, ⟨trivial, ⟨trivial, ⟨trivial, ⟨trivial, ⟨bv_M_284, ⟨trivial, ⟨trivial, ⟨trivial, ⟨trivial, ⟨trivial, ⟨trivial, ⟨bv_M_284, ⟨trivial, ⟨lg_M_122, ⟨trivial, ⟨trivial, ⟨trivial, ⟨trivial, ⟨trivial, ⟨trivial, ⟨trivial, ⟨trivial, ⟨trivial, ⟨trivial, ⟨trivial, ⟨trivial, ⟨trivial, ⟨bv_M_284, ⟨trivial, ⟨trivial, ⟨trivial, ⟨trivial, ⟨bv_M_284, ⟨trivial, ⟨bv_M_277, ⟨trivial, ⟨trivial, ⟨trivial, ⟨trivial, ⟨trivial, ⟨trivial, ⟨trivial, trivial⟩⟩⟩⟩⟩⟩⟩⟩⟩⟩⟩⟩⟩⟩⟩⟩⟩⟩⟩⟩⟩⟩⟩⟩⟩⟩⟩⟩⟩⟩⟩⟩⟩⟩⟩⟩⟩⟩⟩⟩⟩⟩⟩⟩⟩⟩⟩⟩⟩
def ct_M_walkedSound : List bt_E := [e0 (.aload_n 0) 1, e0 (.iload_n 1) 1, e0 (.aload_n 0) 1, e0 (.iload_n 2) 1, e0 (.iload_n 3) 1, em (.invokevirtual 284) 3 9 mi_M_told, e0 .l2i 1, e0 (.iload_n 3) 1, e0 (.iload 4) 2, em (.invokevirtual 268) 5 9 mi_M_soundOf, e0 .ireturn 1]
theorem dt_M_walkedSound : bt_dec mi_M_walkedSound.2.1 mi_M_walkedSound.2.2.1 0 ct_M_walkedSound = true := by decide +kernel
theorem kt_M_walkedSound : bt_T mi_M_walkedSound ct_M_walkedSound := ⟨dt_M_walkedSound, ⟨trivial, ⟨trivial, ⟨trivial, ⟨trivial, ⟨trivial, ⟨bv_M_284, ⟨trivial, ⟨trivial, ⟨trivial, ⟨bv_M_268, ⟨trivial, trivial⟩⟩⟩⟩⟩⟩⟩⟩⟩⟩⟩⟩
def ct_M_areShelves : List bt_E := [e0 (.iload_n 0) 1, eb (.ifCond .lt 27) 28, e0 (.iload_n 0) 1, e1 (.bipush 10) 2 10, e0 .idiv 1, em (.invokestatic 133) 1 100 mi_M_isShelf, eb (.ifCond .eq 17) 28, e0 (.iload_n 0) 1, e1 (.bipush 10) 2 10, e0 .irem 1, em (.invokestatic 133) 1 100 mi_M_isShelf, eb (.ifCond .eq 7) 28, e1 (.iconst 1) 1 1, eb (.goto 4) 29, e1 (.iconst 0) 1 0, e0 .ireturn 1]
theorem dt_M_areShelves : bt_dec mi_M_areShelves.2.1 mi_M_areShelves.2.2.1 0 ct_M_areShelves = true := by decide +kernel
theorem kt_M_areShelves : bt_T mi_M_areShelves ct_M_areShelves := ⟨dt_M_areShelves, ⟨trivial, ⟨trivial, ⟨trivial, ⟨trivial, ⟨trivial, ⟨⟨fun _ => bs_M_133, (fun h => by cases h)⟩, ⟨trivial, ⟨trivial, ⟨trivial, ⟨trivial, ⟨⟨fun _ => bs_M_133, (fun h => by cases h)⟩, ⟨trivial, ⟨trivial, ⟨trivial, ⟨trivial, ⟨trivial, trivial⟩⟩⟩⟩⟩⟩⟩⟩⟩⟩⟩⟩⟩⟩⟩⟩⟩
def ct_M_rowsFault : List bt_E := [e0 (.aload_n 0) 1, ef (.getfield 107) 9 49, e0 (.iload_n 1) 1, e1 (.bipush 10) 2 10, e0 .idiv 1, e0 .iaload 1, e1 (.iconst (-1)) 1 (-1), eb (.if_icmp .eq 16) 26, e0 (.aload_n 0) 1, ef (.getfield 107) 9 49, e0 (.iload_n 1) 1, e1 (.bipush 10) 2 10, e0 .irem 1, e0 .iaload 1, e1 (.iconst (-1)) 1 (-1), eb (.if_icmp .ne 6) 29, e1 (.bipush (-11)) 2 (-11), e0 .ireturn 1, e0 (.aload_n 0) 1, e0 (.iload_n 1) 1, e1 (.bipush 10) 2 10, e0 .idiv 1, em (.invokevirtual 288) 2 9 mi_M_rowFault, eb (.ifCond .lt 14) 51, e0 (.aload_n 0) 1, e0 (.iload_n 1) 1, e1 (.bipush 10) 2 10, e0 .irem 1, em (.invokevirtual 288) 2 9 mi_M_rowFault, eb (.ifCond .ge 8) 56, e1 (.bipush (-12)) 2 (-12), eb (.goto 4) 57, e1 (.iconst 0) 1 0, e0 .ireturn 1]
theorem dt_M_rowsFault : bt_dec mi_M_rowsFault.2.1 mi_M_rowsFault.2.2.1 0 ct_M_rowsFault = true := by decide +kernel
theorem kt_M_rowsFault : bt_T mi_M_rowsFault ct_M_rowsFault := ⟨dt_M_rowsFault, ⟨trivial, ⟨lg_M_107, ⟨trivial, ⟨trivial, ⟨trivial, ⟨trivial, ⟨trivial, ⟨trivial, ⟨trivial, ⟨lg_M_107, ⟨trivial, ⟨trivial, ⟨trivial, ⟨trivial, ⟨trivial, ⟨trivial, ⟨trivial, ⟨trivial, ⟨trivial, ⟨trivial, ⟨trivial, ⟨trivial, ⟨bv_M_288, ⟨trivial, ⟨trivial, ⟨trivial, ⟨trivial, ⟨trivial, ⟨bv_M_288, ⟨trivial, ⟨trivial, ⟨trivial, ⟨trivial, ⟨trivial, trivial⟩⟩⟩⟩⟩⟩⟩⟩⟩⟩⟩⟩⟩⟩⟩⟩⟩⟩⟩⟩⟩⟩⟩⟩⟩⟩⟩⟩⟩⟩⟩⟩⟩⟩⟩
def ct_M_bothHave : List bt_E := [e0 (.aload_n 0) 1, e0 (.iload_n 1) 1, e1 (.bipush 10) 2 10, e0 .idiv 1, em (.invokevirtual 274) 2 9 mi_M_minutesOf, e0 (.aload_n 0) 1, e0 (.iload_n 1) 1, e1 (.bipush 10) 2 10, e0 .irem 1, em (.invokevirtual 274) 2 9 mi_M_minutesOf, eb (.if_icmp .ge 14) 30, e0 (.aload_n 0) 1, e0 (.iload_n 1) 1, e1 (.bipush 10) 2 10, e0 .idiv 1, em (.invokevirtual 274) 2 9 mi_M_minutesOf, eb (.goto 11) 38, e0 (.aload_n 0) 1, e0 (.iload_n 1) 1, e1 (.bipush 10) 2 10, e0 .irem 1, em (.invokevirtual 274) 2 9 mi_M_minutesOf, e0 .ireturn 1]
theorem dt_M_bothHave : bt_dec mi_M_bothHave.2.1 mi_M_bothHave.2.2.1 0 ct_M_bothHave = true := by decide +kernel
theorem kt_M_bothHave : bt_T mi_M_bothHave ct_M_bothHave := ⟨dt_M_bothHave, ⟨trivial, ⟨trivial, ⟨trivial, ⟨trivial, ⟨bv_M_274, ⟨trivial, ⟨trivial, ⟨trivial, ⟨trivial, ⟨bv_M_274, ⟨trivial, ⟨trivial, ⟨trivial, ⟨trivial, ⟨trivial, ⟨bv_M_274, ⟨trivial, ⟨trivial, ⟨trivial, ⟨trivial, ⟨trivial, ⟨bv_M_274, ⟨trivial, trivial⟩⟩⟩⟩⟩⟩⟩⟩⟩⟩⟩⟩⟩⟩⟩⟩⟩⟩⟩⟩⟩⟩⟩⟩
def ct_M_gone : List bt_E := [e0 (.iload_n 1) 1, em (.invokestatic 172) 1 100 mi_M_isSort, eb (.ifCond .eq 10) 14, e0 (.iload_n 2) 1, em (.invokestatic 312) 1 100 mi_M_areShelves, eb (.ifCond .ne 5) 16, e1 (.iconst (-1)) 1 (-1), e0 .ireturn 1, e0 (.aload_n 0) 1, e0 (.iload_n 2) 1, em (.invokevirtual 315) 2 9 mi_M_rowsFault, eb (.ifCond .ge 9) 30, e0 (.aload_n 0) 1, e0 (.iload_n 2) 1, em (.invokevirtual 315) 2 9 mi_M_rowsFault, e0 .ireturn 1, e0 (.aload_n 0) 1, e0 (.iload_n 2) 1, e1 (.bipush 10) 2 10, e0 .idiv 1, em (.invokevirtual 318) 2 9 mi_M_isWalk, eb (.ifCond .ne 6) 44, e1 (.bipush (-5)) 2 (-5), e0 .ireturn 1, e0 (.aload_n 0) 1, em (.invokevirtual 184) 1 9 mi_M_findFar, e1 (.iconst 0) 1 0, e0 (.istore_n 3) 1, e1 (.iconst 0) 1 0, e0 (.istore 4) 2, e1 (.iconst 0) 1 0, e0 (.istore 5) 2, e0 (.iload 5) 2, e0 (.aload_n 0) 1, e0 (.iload_n 2) 1, em (.invokevirtual 321) 2 9 mi_M_bothHave, eb (.if_icmp .ge 116) 179, e0 (.aload_n 0) 1, e0 (.iload_n 1) 1, e0 (.iload_n 2) 1, e1 (.bipush 10) 2 10, e0 .idiv 1, e0 (.iload 5) 2, em (.invokestatic 265) 0 100 mi_M_every, em (.invokevirtual 324) 5 9 mi_M_walkedSound, e0 (.istore 6) 2, e0 (.aload_n 0) 1, e0 (.iload_n 2) 1, e1 (.bipush 10) 2 10, e0 .irem 1, e0 (.iload 5) 2, em (.invokevirtual 284) 3 9 mi_M_told, e0 (.lstore 7) 2, e0 (.iload 6) 2, e1 (.iconst (-1)) 1 (-1), eb (.if_icmp .ne 15) 112, e0 (.lload 7) 2, e2 (.ldc2_w 327) 3 (-1), e0 .lcmp 1, eb (.ifCond .eq 67) 173, e1 (.bipush (-2)) 2 (-2), e0 .ireturn 1, e0 (.lload 7) 2, e2 (.ldc2_w 327) 3 (-1), e0 .lcmp 1, eb (.ifCond .ne 22) 140, e0 (.iload_n 3) 1, e1 (.iconst 1) 1 1, e0 (.aload_n 0) 1, e0 (.iload_n 2) 1, e1 (.bipush 10) 2 10, e0 .idiv 1, e0 (.iload 5) 2, em (.invokevirtual 284) 3 9 mi_M_told, e0 .l2i 1, e0 .ishl 1, e0 .ior 1, e0 (.istore_n 3) 1, eb (.goto 36) 173, e0 (.lload 7) 2, e0 (.iload 6) 2, e0 .i2l 1, e0 .lcmp 1, eb (.ifCond .ne 24) 170, e0 (.iload 4) 2, e1 (.iconst 1) 1 1, e0 (.aload_n 0) 1, e0 (.iload_n 2) 1, e1 (.bipush 10) 2 10, e0 .idiv 1, e0 (.iload 5) 2, em (.invokevirtual 284) 3 9 mi_M_told, e0 .l2i 1, e0 .ishl 1, e0 .ior 1, e0 (.istore 4) 2, eb (.goto 6) 173, e1 (.bipush (-2)) 2 (-2), e0 .ireturn 1, e1 (.iinc 5 1) 3 1, eb (.goto (-120)) 56, e0 (.iload_n 3) 1, e0 (.iload 4) 2, e0 .iand 1, eb (.ifCond .ne 7) 190, e0 (.iload_n 3) 1, eb (.goto 5) 192, e1 (.bipush (-2)) 2 (-2), e0 .ireturn 1]
theorem dt_M_gone : bt_dec mi_M_gone.2.1 mi_M_gone.2.2.1 0 ct_M_gone = true := by decide +kernel
theorem kt_M_gone : bt_T mi_M_gone ct_M_gone := ⟨dt_M_gone, ⟨trivial, ⟨⟨fun _ => bs_M_172, (fun h => by cases h)⟩, ⟨trivial, ⟨trivial, ⟨⟨fun _ => bs_M_312, (fun h => by cases h)⟩, ⟨trivial, ⟨trivial, ⟨trivial, ⟨trivial, ⟨trivial, ⟨bv_M_315, ⟨trivial, ⟨trivial, ⟨trivial, ⟨bv_M_315, ⟨trivial, ⟨trivial, ⟨trivial, ⟨trivial, ⟨trivial, ⟨bv_M_318, ⟨trivial, ⟨trivial, ⟨trivial, ⟨trivial, ⟨bv_M_184, ⟨trivial, ⟨trivial, ⟨trivial, ⟨trivial, ⟨trivial, ⟨trivial, ⟨trivial, ⟨trivial, ⟨trivial, ⟨bv_M_321, ⟨trivial, ⟨trivial, ⟨trivial, ⟨trivial, ⟨trivial, ⟨trivial, ⟨trivial, ⟨⟨fun _ => bs_M_265, (fun h => by cases h)⟩, ⟨bv_M_324, ⟨trivial, ⟨trivial, ⟨trivial, ⟨trivial, ⟨trivial, ⟨trivial, ⟨bv_M_284, ⟨trivial, ⟨trivial, ⟨trivial, ⟨trivial, ⟨trivial, ⟨lk_M_327, ⟨trivial, ⟨trivial, ⟨trivial, ⟨trivial, ⟨trivial, ⟨lk_M_327, ⟨trivial, ⟨trivial, ⟨trivial, ⟨trivial, ⟨trivial, ⟨trivial, ⟨trivial, ⟨trivial, ⟨trivial, ⟨bv_M_284, ⟨trivial, ⟨trivial, ⟨trivial, ⟨trivial, ⟨trivial, ⟨trivial, ⟨trivial, ⟨trivial, ⟨trivial, ⟨trivial, ⟨trivial, ⟨trivial, ⟨trivial, ⟨trivial, ⟨trivial, ⟨trivial, ⟨trivial, ⟨bv_M_284, ⟨trivial, ⟨trivial, ⟨trivial, ⟨trivial, ⟨trivial, ⟨trivial, ⟨trivial, ⟨trivial, ⟨trivial, ⟨trivial, ⟨trivial, ⟨trivial, ⟨trivial, ⟨trivial, ⟨trivial, ⟨trivial, ⟨trivial, trivial⟩⟩⟩⟩⟩⟩⟩⟩⟩⟩⟩⟩⟩⟩⟩⟩⟩⟩⟩⟩⟩⟩⟩⟩⟩⟩⟩⟩⟩⟩⟩⟩⟩⟩⟩⟩⟩⟩⟩⟩⟩⟩⟩⟩⟩⟩⟩⟩⟩⟩⟩⟩⟩⟩⟩⟩⟩⟩⟩⟩⟩⟩⟩⟩⟩⟩⟩⟩⟩⟩⟩⟩⟩⟩⟩⟩⟩⟩⟩⟩⟩⟩⟩⟩⟩⟩⟩⟩⟩⟩⟩⟩⟩⟩⟩⟩⟩⟩⟩⟩⟩⟩⟩⟩⟩⟩⟩⟩⟩⟩
def ct_M_unlikeIn : List bt_E := [e1 (.iconst 0) 1 0, e0 (.istore 6) 2, e0 (.iload 6) 2, e0 (.aload_n 0) 1, e1 (.bipush 10) 2 10, e0 (.iload_n 2) 1, e0 .imul 1, e0 (.iload 4) 2, e0 .iadd 1, em (.invokevirtual 321) 2 9 mi_M_bothHave, eb (.if_icmp .ge 36) 52, e0 (.aload_n 0) 1, e0 (.iload_n 1) 1, e0 (.iload_n 2) 1, e0 (.iload 6) 2, e0 (.iload 5) 2, em (.invokevirtual 324) 5 9 mi_M_walkedSound, e0 (.aload_n 0) 1, e0 (.iload_n 3) 1, e0 (.iload 4) 2, e0 (.iload 6) 2, e0 (.iload 5) 2, em (.invokevirtual 324) 5 9 mi_M_walkedSound, eb (.if_icmp .eq 6) 46, e0 (.iload 6) 2, e0 .ireturn 1, e1 (.iinc 6 1) 3 1, eb (.goto (-46)) 3, e1 (.bipush (-2)) 2 (-2), e0 .ireturn 1]
theorem dt_M_unlikeIn : bt_dec mi_M_unlikeIn.2.1 mi_M_unlikeIn.2.2.1 0 ct_M_unlikeIn = true := by decide +kernel
theorem kt_M_unlikeIn : bt_T mi_M_unlikeIn ct_M_unlikeIn := ⟨dt_M_unlikeIn, ⟨trivial, ⟨trivial, ⟨trivial, ⟨trivial, ⟨trivial, ⟨trivial, ⟨trivial, ⟨trivial, ⟨trivial, ⟨bv_M_321, ⟨trivial, ⟨trivial, ⟨trivial, ⟨trivial, ⟨trivial, ⟨trivial, ⟨bv_M_324, ⟨trivial, ⟨trivial, ⟨trivial, ⟨trivial, ⟨trivial, ⟨bv_M_324, ⟨trivial, ⟨trivial, ⟨trivial, ⟨trivial, ⟨trivial, ⟨trivial, ⟨trivial, trivial⟩⟩⟩⟩⟩⟩⟩⟩⟩⟩⟩⟩⟩⟩⟩⟩⟩⟩⟩⟩⟩⟩⟩⟩⟩⟩⟩⟩⟩⟩⟩
def ct_M_apart : List bt_E := [e0 (.iload_n 1) 1, em (.invokestatic 297) 1 100 mi_M_areSorts, eb (.ifCond .eq 10) 14, e0 (.iload_n 2) 1, em (.invokestatic 312) 1 100 mi_M_areShelves, eb (.ifCond .ne 5) 16, e1 (.iconst (-1)) 1 (-1), e0 .ireturn 1, e0 (.aload_n 0) 1, e0 (.iload_n 2) 1, em (.invokevirtual 315) 2 9 mi_M_rowsFault, eb (.ifCond .ge 9) 30, e0 (.aload_n 0) 1, e0 (.iload_n 2) 1, em (.invokevirtual 315) 2 9 mi_M_rowsFault, e0 .ireturn 1, e0 (.aload_n 0) 1, e0 (.iload_n 2) 1, e1 (.bipush 10) 2 10, e0 .idiv 1, em (.invokevirtual 318) 2 9 mi_M_isWalk, eb (.ifCond .eq 14) 52, e0 (.aload_n 0) 1, e0 (.iload_n 2) 1, e1 (.bipush 10) 2 10, e0 .irem 1, em (.invokevirtual 318) 2 9 mi_M_isWalk, eb (.ifCond .ne 6) 55, e1 (.bipush (-5)) 2 (-5), e0 .ireturn 1, e0 (.aload_n 0) 1, em (.invokevirtual 184) 1 9 mi_M_findFar, e0 (.aload_n 0) 1, e0 (.iload_n 1) 1, e1 (.bipush 10) 2 10, e0 .idiv 1, e0 (.iload_n 2) 1, e1 (.bipush 10) 2 10, e0 .idiv 1, e0 (.iload_n 1) 1, e1 (.bipush 10) 2 10, e0 .irem 1, e0 (.iload_n 2) 1, e1 (.bipush 10) 2 10, e0 .irem 1, em (.invokestatic 265) 0 100 mi_M_every, em (.invokevirtual 329) 6 9 mi_M_unlikeIn, e0 .ireturn 1]
theorem dt_M_apart : bt_dec mi_M_apart.2.1 mi_M_apart.2.2.1 0 ct_M_apart = true := by decide +kernel
theorem kt_M_apart : bt_T mi_M_apart ct_M_apart := ⟨dt_M_apart, ⟨trivial, ⟨⟨fun _ => bs_M_297, (fun h => by cases h)⟩, ⟨trivial, ⟨trivial, ⟨⟨fun _ => bs_M_312, (fun h => by cases h)⟩, ⟨trivial, ⟨trivial, ⟨trivial, ⟨trivial, ⟨trivial, ⟨bv_M_315, ⟨trivial, ⟨trivial, ⟨trivial, ⟨bv_M_315, ⟨trivial, ⟨trivial, ⟨trivial, ⟨trivial, ⟨trivial, ⟨bv_M_318, ⟨trivial, ⟨trivial, ⟨trivial, ⟨trivial, ⟨trivial, ⟨bv_M_318, ⟨trivial, ⟨trivial, ⟨trivial, ⟨trivial, ⟨bv_M_184, ⟨trivial, ⟨trivial, ⟨trivial, ⟨trivial, ⟨trivial, ⟨trivial, ⟨trivial, ⟨trivial, ⟨trivial, ⟨trivial, ⟨trivial, ⟨trivial, ⟨trivial, ⟨⟨fun _ => bs_M_265, (fun h => by cases h)⟩, ⟨bv_M_329, ⟨trivial, trivial⟩⟩⟩⟩⟩⟩⟩⟩⟩⟩⟩⟩⟩⟩⟩⟩⟩⟩⟩⟩⟩⟩⟩⟩⟩⟩⟩⟩⟩⟩⟩⟩⟩⟩⟩⟩⟩⟩⟩⟩⟩⟩⟩⟩⟩⟩⟩⟩⟩
def ct_M_hasSound : List bt_E := [e1 (.iconst 0) 1 0, e0 (.istore 4) 2, e0 (.iload 4) 2, e0 (.aload_n 0) 1, e0 (.iload_n 2) 1, em (.invokevirtual 274) 2 9 mi_M_minutesOf, eb (.if_icmp .ge 24) 34, e0 (.aload_n 0) 1, e0 (.iload_n 1) 1, e0 (.iload_n 2) 1, e0 (.iload 4) 2, e0 (.iload_n 3) 1, em (.invokevirtual 324) 5 9 mi_M_walkedSound, e1 (.iconst (-1)) 1 (-1), eb (.if_icmp .eq 5) 28, e1 (.iconst 1) 1 1, e0 .ireturn 1, e1 (.iinc 4 1) 3 1, eb (.goto (-28)) 3, e1 (.iconst 0) 1 0, e0 .ireturn 1]
theorem dt_M_hasSound : bt_dec mi_M_hasSound.2.1 mi_M_hasSound.2.2.1 0 ct_M_hasSound = true := by decide +kernel
theorem kt_M_hasSound : bt_T mi_M_hasSound ct_M_hasSound := ⟨dt_M_hasSound, ⟨trivial, ⟨trivial, ⟨trivial, ⟨trivial, ⟨trivial, ⟨bv_M_274, ⟨trivial, ⟨trivial, ⟨trivial, ⟨trivial, ⟨trivial, ⟨trivial, ⟨bv_M_324, ⟨trivial, ⟨trivial, ⟨trivial, ⟨trivial, ⟨trivial, ⟨trivial, ⟨trivial, ⟨trivial, trivial⟩⟩⟩⟩⟩⟩⟩⟩⟩⟩⟩⟩⟩⟩⟩⟩⟩⟩⟩⟩⟩⟩
def ct_M_areEnough : List bt_E := [e1 (.iconst 0) 1 0, e0 (.istore 4) 2, e0 (.iload 4) 2, e0 (.iload_n 2) 1, eb (.if_icmp .ge 54) 60, e0 (.aload_n 0) 1, e0 (.iload_n 1) 1, e0 (.iload 4) 2, e0 (.iload_n 3) 1, em (.invokevirtual 333) 4 9 mi_M_hasSound, eb (.ifCond .ne 5) 22, e1 (.iconst 0) 1 0, e0 .ireturn 1, e1 (.iconst 0) 1 0, e0 (.istore 5) 2, e0 (.iload 5) 2, e0 (.iload 4) 2, eb (.if_icmp .ge 25) 54, e0 (.aload_n 0) 1, e0 (.iload_n 1) 1, e0 (.iload 4) 2, e0 (.iload_n 1) 1, e0 (.iload 5) 2, e0 (.iload_n 3) 1, em (.invokevirtual 329) 6 9 mi_M_unlikeIn, eb (.ifCond .ge 5) 48, e1 (.iconst 0) 1 0, e0 .ireturn 1, e1 (.iinc 5 1) 3 1, eb (.goto (-26)) 25, e1 (.iinc 4 1) 3 1, eb (.goto (-54)) 3, e1 (.iconst 1) 1 1, e0 .ireturn 1]
theorem dt_M_areEnough : bt_dec mi_M_areEnough.2.1 mi_M_areEnough.2.2.1 0 ct_M_areEnough = true := by decide +kernel
theorem kt_M_areEnough : bt_T mi_M_areEnough ct_M_areEnough := ⟨dt_M_areEnough, ⟨trivial, ⟨trivial, ⟨trivial, ⟨trivial, ⟨trivial, ⟨trivial, ⟨trivial, ⟨trivial, ⟨trivial, ⟨bv_M_333, ⟨trivial, ⟨trivial, ⟨trivial, ⟨trivial, ⟨trivial, ⟨trivial, ⟨trivial, ⟨trivial, ⟨trivial, ⟨trivial, ⟨trivial, ⟨trivial, ⟨trivial, ⟨trivial, ⟨bv_M_329, ⟨trivial, ⟨trivial, ⟨trivial, ⟨trivial, ⟨trivial, ⟨trivial, ⟨trivial, ⟨trivial, ⟨trivial, trivial⟩⟩⟩⟩⟩⟩⟩⟩⟩⟩⟩⟩⟩⟩⟩⟩⟩⟩⟩⟩⟩⟩⟩⟩⟩⟩⟩⟩⟩⟩⟩⟩⟩⟩⟩
def ct_M_walksFault : List bt_E := [e1 (.iconst 0) 1 0, e0 (.istore_n 2) 1, e0 (.iload_n 2) 1, e0 (.iload_n 1) 1, eb (.if_icmp .ge 22) 26, e0 (.aload_n 0) 1, ef (.getfield 107) 9 49, e0 (.iload_n 2) 1, e0 .iaload 1, e1 (.iconst (-1)) 1 (-1), eb (.if_icmp .ne 6) 20, e1 (.bipush (-11)) 2 (-11), e0 .ireturn 1, e1 (.iinc 2 1) 3 1, eb (.goto (-21)) 2, e1 (.iconst 0) 1 0, e0 (.istore_n 2) 1, e0 (.iload_n 2) 1, e0 (.iload_n 1) 1, eb (.if_icmp .ge 20) 50, e0 (.aload_n 0) 1, e0 (.iload_n 2) 1, em (.invokevirtual 288) 2 9 mi_M_rowFault, eb (.ifCond .ge 6) 44, e1 (.bipush (-12)) 2 (-12), e0 .ireturn 1, e1 (.iinc 2 1) 3 1, eb (.goto (-19)) 28, e1 (.iconst 0) 1 0, e0 (.istore_n 2) 1, e0 (.iload_n 2) 1, e0 (.iload_n 1) 1, eb (.if_icmp .ge 20) 74, e0 (.aload_n 0) 1, e0 (.iload_n 2) 1, em (.invokevirtual 318) 2 9 mi_M_isWalk, eb (.ifCond .ne 6) 68, e1 (.bipush (-5)) 2 (-5), e0 .ireturn 1, e1 (.iinc 2 1) 3 1, eb (.goto (-19)) 52, e1 (.iconst 0) 1 0, e0 .ireturn 1]
theorem dt_M_walksFault : bt_dec mi_M_walksFault.2.1 mi_M_walksFault.2.2.1 0 ct_M_walksFault = true := by decide +kernel
theorem kt_M_walksFault : bt_T mi_M_walksFault ct_M_walksFault := ⟨dt_M_walksFault, ⟨trivial, ⟨trivial, ⟨trivial, ⟨trivial, ⟨trivial, ⟨trivial, ⟨lg_M_107, ⟨trivial, ⟨trivial, ⟨trivial, ⟨trivial, ⟨trivial, ⟨trivial, ⟨trivial, ⟨trivial, ⟨trivial, ⟨trivial, ⟨trivial, ⟨trivial, ⟨trivial, ⟨trivial, ⟨trivial, ⟨bv_M_288, ⟨trivial, ⟨trivial, ⟨trivial, ⟨trivial, ⟨trivial, ⟨trivial, ⟨trivial, ⟨trivial, ⟨trivial, ⟨trivial, ⟨trivial, ⟨trivial, ⟨bv_M_318, ⟨trivial, ⟨trivial, ⟨trivial, ⟨trivial, ⟨trivial, ⟨trivial, ⟨trivial, trivial⟩⟩⟩⟩⟩⟩⟩⟩⟩⟩⟩⟩⟩⟩⟩⟩⟩⟩⟩⟩⟩⟩⟩⟩⟩⟩⟩⟩⟩⟩⟩⟩⟩⟩⟩⟩⟩⟩⟩⟩⟩⟩⟩⟩
def ct_M_enough : List bt_E := [e0 (.iload_n 1) 1, em (.invokestatic 172) 1 100 mi_M_isSort, eb (.ifCond .eq 12) 16, e0 (.iload_n 2) 1, e1 (.iconst 1) 1 1, e1 (.iconst 4) 1 4, em (.invokestatic 125) 3 100 mi_M_in, eb (.ifCond .ne 5) 18, e1 (.iconst (-1)) 1 (-1), e0 .ireturn 1, e0 (.aload_n 0) 1, e0 (.iload_n 2) 1, em (.invokevirtual 336) 2 9 mi_M_walksFault, eb (.ifCond .ge 9) 32, e0 (.aload_n 0) 1, e0 (.iload_n 2) 1, em (.invokevirtual 336) 2 9 mi_M_walksFault, e0 .ireturn 1, e0 (.aload_n 0) 1, em (.invokevirtual 184) 1 9 mi_M_findFar, e1 (.iconst 0) 1 0, e0 (.istore_n 3) 1, e1 (.iconst 0) 1 0, e0 (.istore 4) 2, e0 (.iload 4) 2, e0 (.aload_n 0) 1, ef (.getfield 122) 9 1, eb (.if_icmp .ge 22) 69, e0 (.iload_n 3) 1, e0 (.aload_n 0) 1, ef (.getfield 19) 9 5, e0 (.iload 4) 2, e0 .iaload 1, e0 (.iload 4) 2, e0 .ishl 1, e0 .ior 1, e0 (.istore_n 3) 1, e1 (.iinc 4 1) 3 1, eb (.goto (-25)) 41, e1 (.bipush (-2)) 2 (-2), e0 (.istore 4) 2, e1 (.iconst 0) 1 0, e0 (.istore 5) 2, e0 (.iload 5) 2, e0 (.iload_n 3) 1, eb (.if_icmp .gt 51) 130, e0 (.iload 5) 2, e0 (.iload_n 3) 1, e1 (.iconst (-1)) 1 (-1), e0 .ixor 1, e0 .iand 1, eb (.ifCond .ne 36) 124, e0 (.iload 4) 2, eb (.ifCond .lt 16) 109, e0 (.iload 5) 2, em (.invokestatic 339) 1 100 mi_M_bitsOf, e0 (.iload 4) 2, em (.invokestatic 339) 1 100 mi_M_bitsOf, eb (.if_icmp .ge 18) 124, e0 (.aload_n 0) 1, e0 (.iload_n 1) 1, e0 (.iload_n 2) 1, e0 (.iload 5) 2, em (.invokevirtual 342) 4 9 mi_M_areEnough, eb (.ifCond .eq 7) 124, e0 (.iload 5) 2, e0 (.istore 4) 2, e1 (.iinc 5 1) 3 1, eb (.goto (-51)) 76, e0 (.iload 4) 2, e0 .ireturn 1]
theorem dt_M_enough : bt_dec mi_M_enough.2.1 mi_M_enough.2.2.1 0 ct_M_enough = true := by decide +kernel
theorem kt_M_enough : bt_T mi_M_enough ct_M_enough := ⟨dt_M_enough, ⟨trivial, ⟨⟨fun _ => bs_M_172, (fun h => by cases h)⟩, ⟨trivial, ⟨trivial, ⟨trivial, ⟨trivial, ⟨⟨fun _ => bs_M_125, (fun h => by cases h)⟩, ⟨trivial, ⟨trivial, ⟨trivial, ⟨trivial, ⟨trivial, ⟨bv_M_336, ⟨trivial, ⟨trivial, ⟨trivial, ⟨bv_M_336, ⟨trivial, ⟨trivial, ⟨bv_M_184, ⟨trivial, ⟨trivial, ⟨trivial, ⟨trivial, ⟨trivial, ⟨trivial, ⟨lg_M_122, ⟨trivial, ⟨trivial, ⟨trivial, ⟨lg_M_19, ⟨trivial, ⟨trivial, ⟨trivial, ⟨trivial, ⟨trivial, ⟨trivial, ⟨trivial, ⟨trivial, ⟨trivial, ⟨trivial, ⟨trivial, ⟨trivial, ⟨trivial, ⟨trivial, ⟨trivial, ⟨trivial, ⟨trivial, ⟨trivial, ⟨trivial, ⟨trivial, ⟨trivial, ⟨trivial, ⟨trivial, ⟨trivial, ⟨⟨fun _ => bs_M_339, (fun h => by cases h)⟩, ⟨trivial, ⟨⟨fun _ => bs_M_339, (fun h => by cases h)⟩, ⟨trivial, ⟨trivial, ⟨trivial, ⟨trivial, ⟨trivial, ⟨bv_M_342, ⟨trivial, ⟨trivial, ⟨trivial, ⟨trivial, ⟨trivial, ⟨trivial, ⟨trivial, trivial⟩⟩⟩⟩⟩⟩⟩⟩⟩⟩⟩⟩⟩⟩⟩⟩⟩⟩⟩⟩⟩⟩⟩⟩⟩⟩⟩⟩⟩⟩⟩⟩⟩⟩⟩⟩⟩⟩⟩⟩⟩⟩⟩⟩⟩⟩⟩⟩⟩⟩⟩⟩⟩⟩⟩⟩⟩⟩⟩⟩⟩⟩⟩⟩⟩⟩⟩⟩⟩⟩⟩⟩
def ct_M_isTuned : List bt_E := [e1 (.iconst 0) 1 0, e0 (.istore_n 2) 1, e0 (.iload_n 2) 1, e0 (.aload_n 0) 1, ef (.getfield 122) 9 1, eb (.if_icmp .ge 69) 76, e0 (.iload_n 2) 1, e1 (.iconst 1) 1 1, e0 .iadd 1, e0 (.istore_n 3) 1, e0 (.iload_n 3) 1, e0 (.aload_n 0) 1, ef (.getfield 122) 9 1, eb (.if_icmp .ge 51) 70, e0 (.aload_n 0) 1, e0 (.iload_n 2) 1, e0 (.iload_n 3) 1, em (.invokevirtual 142) 3 9 mi_M_areBeside, eb (.ifCond .eq 36) 64, e0 (.aload_n 0) 1, ef (.getfield 7) 9 2, e0 (.iload_n 2) 1, e0 .iaload 1, e0 (.aload_n 0) 1, ef (.getfield 7) 9 2, e0 (.iload_n 3) 1, e0 .iaload 1, eb (.if_icmp .ne 21) 64, e0 (.iload_n 1) 1, e0 (.iload_n 2) 1, e0 .ishr 1, e1 (.iconst 1) 1 1, e0 .iand 1, eb (.ifCond .ne 13) 64, e0 (.iload_n 1) 1, e0 (.iload_n 3) 1, e0 .ishr 1, e1 (.iconst 1) 1 1, e0 .iand 1, eb (.ifCond .ne 5) 64, e1 (.iconst 0) 1 0, e0 .ireturn 1, e1 (.iinc 3 1) 3 1, eb (.goto (-53)) 14, e1 (.iinc 2 1) 3 1, eb (.goto (-71)) 2, e1 (.iconst 1) 1 1, e0 .ireturn 1]
theorem dt_M_isTuned : bt_dec mi_M_isTuned.2.1 mi_M_isTuned.2.2.1 0 ct_M_isTuned = true := by decide +kernel
theorem kt_M_isTuned : bt_T mi_M_isTuned ct_M_isTuned := ⟨dt_M_isTuned, ⟨trivial, ⟨trivial, ⟨trivial, ⟨trivial, ⟨lg_M_122, ⟨trivial, ⟨trivial, ⟨trivial, ⟨trivial, ⟨trivial, ⟨trivial, ⟨trivial, ⟨lg_M_122, ⟨trivial, ⟨trivial, ⟨trivial, ⟨trivial, ⟨bv_M_142, ⟨trivial, ⟨trivial, ⟨lg_M_7, ⟨trivial, ⟨trivial, ⟨trivial, ⟨lg_M_7, ⟨trivial, ⟨trivial, ⟨trivial, ⟨trivial, ⟨trivial, ⟨trivial, ⟨trivial, ⟨trivial, ⟨trivial, ⟨trivial, ⟨trivial, ⟨trivial, ⟨trivial, ⟨trivial, ⟨trivial, ⟨trivial, ⟨trivial, ⟨trivial, ⟨trivial, ⟨trivial, ⟨trivial, ⟨trivial, ⟨trivial, trivial⟩⟩⟩⟩⟩⟩⟩⟩⟩⟩⟩⟩⟩⟩⟩⟩⟩⟩⟩⟩⟩⟩⟩⟩⟩⟩⟩⟩⟩⟩⟩⟩⟩⟩⟩⟩⟩⟩⟩⟩⟩⟩⟩⟩⟩⟩⟩⟩⟩
def ct_M_tuned : List bt_E := [e0 (.iload_n 1) 1, e1 (.iconst 0) 1 0, e1 (.iconst 1) 1 1, em (.invokestatic 125) 3 100 mi_M_in, eb (.ifCond .ne 5) 11, e1 (.iconst (-1)) 1 (-1), e0 .ireturn 1, e1 (.iconst (-1)) 1 (-1), e0 (.istore_n 2) 1, e1 (.iconst 0) 1 0, e0 (.istore_n 3) 1, e0 (.iload_n 3) 1, e1 (.iconst 1) 1 1, e0 (.aload_n 0) 1, ef (.getfield 122) 9 1, e0 .ishl 1, eb (.if_icmp .ge 34) 56, e0 (.iload_n 2) 1, eb (.ifCond .lt 14) 40, e0 (.iload_n 3) 1, em (.invokestatic 339) 1 100 mi_M_bitsOf, e0 (.iload_n 2) 1, em (.invokestatic 339) 1 100 mi_M_bitsOf, eb (.if_icmp .ge 13) 50, e0 (.aload_n 0) 1, e0 (.iload_n 3) 1, em (.invokevirtual 345) 2 9 mi_M_isTuned, eb (.ifCond .eq 5) 50, e0 (.iload_n 3) 1, e0 (.istore_n 2) 1, e1 (.iinc 3 1) 3 1, eb (.goto (-38)) 15, e0 (.iload_n 1) 1, eb (.ifCond .ne 10) 67, e0 (.iload_n 2) 1, em (.invokestatic 339) 1 100 mi_M_bitsOf, eb (.goto 4) 68, e0 (.iload_n 2) 1, e0 .ireturn 1]
theorem dt_M_tuned : bt_dec mi_M_tuned.2.1 mi_M_tuned.2.2.1 0 ct_M_tuned = true := by decide +kernel
theorem kt_M_tuned : bt_T mi_M_tuned ct_M_tuned := ⟨dt_M_tuned, ⟨trivial, ⟨trivial, ⟨trivial, ⟨⟨fun _ => bs_M_125, (fun h => by cases h)⟩, ⟨trivial, ⟨trivial, ⟨trivial, ⟨trivial, ⟨trivial, ⟨trivial, ⟨trivial, ⟨trivial, ⟨trivial, ⟨trivial, ⟨lg_M_122, ⟨trivial, ⟨trivial, ⟨trivial, ⟨trivial, ⟨trivial, ⟨⟨fun _ => bs_M_339, (fun h => by cases h)⟩, ⟨trivial, ⟨⟨fun _ => bs_M_339, (fun h => by cases h)⟩, ⟨trivial, ⟨trivial, ⟨trivial, ⟨bv_M_345, ⟨trivial, ⟨trivial, ⟨trivial, ⟨trivial, ⟨trivial, ⟨trivial, ⟨trivial, ⟨trivial, ⟨⟨fun _ => bs_M_339, (fun h => by cases h)⟩, ⟨trivial, ⟨trivial, ⟨trivial, trivial⟩⟩⟩⟩⟩⟩⟩⟩⟩⟩⟩⟩⟩⟩⟩⟩⟩⟩⟩⟩⟩⟩⟩⟩⟩⟩⟩⟩⟩⟩⟩⟩⟩⟩⟩⟩⟩⟩⟩⟩
def ct_M_draw : List bt_E := [e0 (.aload_n 0) 1, e0 (.aload_n 0) 1, ef (.getfield 348) 9 38, e1 (.ldc_w 351) 3 1103515245, e0 .imul 1, e1 (.sipush 12345) 3 12345, e0 .iadd 1, ef (.putfield 348) 9 38, e0 (.aload_n 0) 1, ef (.getfield 348) 9 38, e1 (.bipush 8) 2 8, e0 .iushr 1, e0 (.iload_n 1) 1, e0 .irem 1, e0 .ireturn 1]
theorem dt_M_draw : bt_dec mi_M_draw.2.1 mi_M_draw.2.2.1 0 ct_M_draw = true := by decide +kernel
theorem kt_M_draw : bt_T mi_M_draw ct_M_draw := ⟨dt_M_draw, ⟨trivial, ⟨trivial, ⟨lg_M_348, ⟨lk_M_351, ⟨trivial, ⟨trivial, ⟨trivial, ⟨lp_M_348, ⟨trivial, ⟨lg_M_348, ⟨trivial, ⟨trivial, ⟨trivial, ⟨trivial, ⟨trivial, trivial⟩⟩⟩⟩⟩⟩⟩⟩⟩⟩⟩⟩⟩⟩⟩⟩
def ct_M_neighbour : List bt_E := [e1 (.iconst 0) 1 0, e0 (.istore_n 3) 1, e0 (.iload_n 2) 1, e0 (.istore 4) 2, e0 (.iload 4) 2, e1 (.iconst 1) 1 1, eb (.if_icmp .gt 12) 20, e0 (.aload_n 0) 1, e0 (.iload_n 1) 1, e0 (.iload_n 3) 1, em (.invokevirtual 142) 3 9 mi_M_areBeside, eb (.ifCond .ne 21) 38, e0 (.aload_n 0) 1, e0 (.iload_n 1) 1, e0 (.iload_n 3) 1, em (.invokevirtual 142) 3 9 mi_M_areBeside, eb (.ifCond .eq 6) 32, e1 (.iinc 4 (-1)) 3 (-1), e1 (.iinc 3 1) 3 1, eb (.goto (-30)) 5, e0 (.iload_n 3) 1, e0 .ireturn 1]
theorem dt_M_neighbour : bt_dec mi_M_neighbour.2.1 mi_M_neighbour.2.2.1 0 ct_M_neighbour = true := by decide +kernel
theorem kt_M_neighbour : bt_T mi_M_neighbour ct_M_neighbour := ⟨dt_M_neighbour, ⟨trivial, ⟨trivial, ⟨trivial, ⟨trivial, ⟨trivial, ⟨trivial, ⟨trivial, ⟨trivial, ⟨trivial, ⟨trivial, ⟨bv_M_142, ⟨trivial, ⟨trivial, ⟨trivial, ⟨trivial, ⟨bv_M_142, ⟨trivial, ⟨trivial, ⟨trivial, ⟨trivial, ⟨trivial, ⟨trivial, trivial⟩⟩⟩⟩⟩⟩⟩⟩⟩⟩⟩⟩⟩⟩⟩⟩⟩⟩⟩⟩⟩⟩⟩
def ct_M_drawn : List bt_E := [e0 (.iload_n 2) 1, eb (.ifCond .lt 51) 52, e0 (.iload_n 2) 1, e1 (.bipush 100) 2 100, e0 .idiv 1, em (.invokestatic 172) 1 100 mi_M_isSort, eb (.ifCond .eq 41) 52, e0 (.iload_n 2) 1, e1 (.bipush 100) 2 100, e0 .irem 1, e1 (.iconst 1) 1 1, e1 (.bipush 30) 2 30, em (.invokestatic 125) 3 100 mi_M_in, eb (.ifCond .eq 28) 52, e0 (.iload_n 3) 1, e1 (.bipush (-2)) 2 (-2), e0 (.aload_n 0) 1, ef (.getfield 122) 9 1, e1 (.iconst 1) 1 1, e0 .isub 1, em (.invokestatic 125) 3 100 mi_M_in, eb (.ifCond .ne 15) 54, e0 (.iload_n 3) 1, e1 (.bipush (-2)) 2 (-2), e1 (.iconst (-1)) 1 (-1), em (.invokestatic 125) 3 100 mi_M_in, eb (.ifCond .ne 5) 54, e1 (.iconst (-1)) 1 (-1), e0 .ireturn 1, e0 (.aload_n 0) 1, ef (.getfield 122) 9 1, eb (.ifCond .ne 6) 64, e1 (.bipush (-5)) 2 (-5), e0 .ireturn 1, e0 (.aload_n 0) 1, em (.invokevirtual 184) 1 9 mi_M_findFar, e0 (.aload_n 0) 1, e0 (.iload_n 1) 1, ef (.putfield 348) 9 38, e1 (.iconst 0) 1 0, e0 (.istore 4) 2, e1 (.iconst 0) 1 0, e0 (.istore 5) 2, e1 (.iconst 0) 1 0, e0 (.istore 6) 2, e1 (.iconst 0) 1 0, e0 (.istore 7) 2, e0 (.iload 7) 2, e0 (.iload_n 2) 1, e1 (.bipush 100) 2 100, e0 .irem 1, eb (.if_icmp .ge 125) 216, e0 (.aload_n 0) 1, e0 (.aload_n 0) 1, ef (.getfield 122) 9 1, em (.invokevirtual 352) 2 9 mi_M_draw, e0 (.istore 8) 2, e1 (.iconst 0) 1 0, e0 (.istore 9) 2, e1 (.iconst 0) 1 0, e0 (.istore 10) 2, e0 (.iload 10) 2, e1 (.bipush 24) 2 24, eb (.if_icmp .ge 81) 195, e0 (.iload 10) 2, eb (.ifCond .le 36) 155, e0 (.aload_n 0) 1, e0 (.aload_n 0) 1, ef (.getfield 22) 9 6, e0 (.iload 8) 2, e0 .iaload 1, em (.invokestatic 339) 1 100 mi_M_bitsOf, e1 (.iconst 1) 1 1, e0 .iadd 1, em (.invokevirtual 352) 2 9 mi_M_draw, e0 (.istore 11) 2, e0 (.iload 11) 2, eb (.ifCond .le 13) 155, e0 (.aload_n 0) 1, e0 (.iload 8) 2, e0 (.iload 11) 2, em (.invokevirtual 355) 3 9 mi_M_neighbour, e0 (.istore 8) 2, e0 (.aload_n 0) 1, e0 (.iload_n 2) 1, e1 (.bipush 100) 2 100, e0 .idiv 1, e0 (.iload 8) 2, e0 (.iload 10) 2, em (.invokestatic 265) 0 100 mi_M_every, em (.invokevirtual 268) 5 9 mi_M_soundOf, e1 (.iconst (-1)) 1 (-1), eb (.if_icmp .ne 6) 177, eb (.goto 15) 189, e1 (.iinc 9 1) 3 1, e0 (.iload 8) 2, e0 (.iload_n 3) 1, eb (.if_icmp .ne 6) 189, e1 (.iinc 6 1) 3 1, e1 (.iinc 10 1) 3 1, eb (.goto (-82)) 110, e0 (.iload 4) 2, e0 (.iload 9) 2, e0 .iadd 1, e0 (.istore 4) 2, e0 (.iload 9) 2, eb (.ifCond .ne 6) 210, e1 (.iinc 5 1) 3 1, e1 (.iinc 7 1) 3 1, eb (.goto (-128)) 85, e0 (.iload_n 3) 1, e1 (.iconst (-1)) 1 (-1), eb (.if_icmp .ne 8) 226, e0 (.iload 4) 2, eb (.goto 16) 239, e0 (.iload_n 3) 1, e1 (.bipush (-2)) 2 (-2), eb (.if_icmp .ne 8) 237, e0 (.iload 5) 2, eb (.goto 5) 239, e0 (.iload 6) 2, e0 .ireturn 1]
theorem dt_M_drawn : bt_dec mi_M_drawn.2.1 mi_M_drawn.2.2.1 0 ct_M_drawn = true := by decide +kernel
theorem kt_M_drawn : bt_T mi_M_drawn ct_M_drawn := ⟨dt_M_drawn, ⟨trivial, ⟨trivial, ⟨trivial, ⟨trivial, ⟨trivial, ⟨⟨fun _ => bs_M_172, (fun h => by cases h)⟩, ⟨trivial, ⟨trivial, ⟨trivial, ⟨trivial, ⟨trivial, ⟨trivial, ⟨⟨fun _ => bs_M_125, (fun h => by cases h)⟩, ⟨trivial, ⟨trivial, ⟨trivial, ⟨trivial, ⟨lg_M_122, ⟨trivial, ⟨trivial, ⟨⟨fun _ => bs_M_125, (fun h => by cases h)⟩, ⟨trivial, ⟨trivial, ⟨trivial, ⟨trivial, ⟨⟨fun _ => bs_M_125, (fun h => by cases h)⟩, ⟨trivial, ⟨trivial, ⟨trivial, ⟨trivial, ⟨lg_M_122, ⟨trivial, ⟨trivial, ⟨trivial, ⟨trivial, ⟨bv_M_184, ⟨trivial, ⟨trivial, ⟨lp_M_348, ⟨trivial, ⟨trivial, ⟨trivial, ⟨trivial, ⟨trivial, ⟨trivial, ⟨trivial, ⟨trivial, ⟨trivial, ⟨trivial, ⟨trivial, ⟨trivial, ⟨trivial, ⟨trivial, ⟨trivial, ⟨lg_M_122, ⟨bv_M_352, ⟨trivial, ⟨trivial, ⟨trivial, ⟨trivial, ⟨trivial, ⟨trivial, ⟨trivial, ⟨trivial, ⟨trivial, ⟨trivial, ⟨trivial, ⟨trivial, ⟨lg_M_22, ⟨trivial, ⟨trivial, ⟨⟨fun _ => bs_M_339, (fun h => by cases h)⟩, ⟨trivial, ⟨trivial, ⟨bv_M_352, ⟨trivial, ⟨trivial, ⟨trivial, ⟨trivial, ⟨trivial, ⟨trivial, ⟨bv_M_355, ⟨trivial, ⟨trivial, ⟨trivial, ⟨trivial, ⟨trivial, ⟨trivial, ⟨trivial, ⟨⟨fun _ => bs_M_265, (fun h => by cases h)⟩, ⟨bv_M_268, ⟨trivial, ⟨trivial, ⟨trivial, ⟨trivial, ⟨trivial, ⟨trivial, ⟨trivial, ⟨trivial, ⟨trivial, ⟨trivial, ⟨trivial, ⟨trivial, ⟨trivial, ⟨trivial, ⟨trivial, ⟨trivial, ⟨trivial, ⟨trivial, ⟨trivial, ⟨trivial, ⟨trivial, ⟨trivial, ⟨trivial, ⟨trivial, ⟨trivial, ⟨trivial, ⟨trivial, ⟨trivial, ⟨trivial, ⟨trivial, ⟨trivial, trivial⟩⟩⟩⟩⟩⟩⟩⟩⟩⟩⟩⟩⟩⟩⟩⟩⟩⟩⟩⟩⟩⟩⟩⟩⟩⟩⟩⟩⟩⟩⟩⟩⟩⟩⟩⟩⟩⟩⟩⟩⟩⟩⟩⟩⟩⟩⟩⟩⟩⟩⟩⟩⟩⟩⟩⟩⟩⟩⟩⟩⟩⟩⟩⟩⟩⟩⟩⟩⟩⟩⟩⟩⟩⟩⟩⟩⟩⟩⟩⟩⟩⟩⟩⟩⟩⟩⟩⟩⟩⟩⟩⟩⟩⟩⟩⟩⟩⟩⟩⟩⟩⟩⟩⟩⟩⟩⟩⟩⟩⟩⟩⟩⟩⟩⟩⟩⟩⟩⟩⟩⟩⟩⟩
def ct_M_years : List bt_E := [e0 (.iload_n 2) 1, e1 (.iconst 1) 1 1, e1 (.bipush 30) 2 30, em (.invokestatic 125) 3 100 mi_M_in, eb (.ifCond .ne 5) 12, e1 (.iconst (-1)) 1 (-1), e0 .ireturn 1, e0 (.aload_n 0) 1, e0 (.iload_n 1) 1, ef (.putfield 348) 9 38, e1 (.iconst 0) 1 0, e0 (.istore_n 3) 1, e0 (.iload_n 3) 1, e0 (.iload_n 2) 1, eb (.if_icmp .ge 91) 112, e1 (.iconst 0) 1 0, e0 (.istore 4) 2, e0 (.iload 4) 2, e0 (.aload_n 0) 1, ef (.getfield 122) 9 1, eb (.if_icmp .ge 73) 106, e0 (.aload_n 0) 1, e1 (.bipush 12) 2 12, em (.invokevirtual 352) 2 9 mi_M_draw, e0 (.istore 5) 2, e0 (.iload 5) 2, eb (.ifCond .ne 24) 70, e0 (.aload_n 0) 1, ef (.getfield 7) 9 2, e0 (.iload 4) 2, e0 .iaload 1, eb (.ifCond .le 14) 70, e0 (.aload_n 0) 1, ef (.getfield 7) 9 2, e0 (.iload 4) 2, e0 .dup2 1, e0 .iaload 1, e1 (.iconst 1) 1 1, e0 .isub 1, e0 .iastore 1, e0 (.iload 5) 2, e1 (.bipush 11) 2 11, eb (.if_icmp .ne 26) 100, e0 (.aload_n 0) 1, ef (.getfield 16) 9 4, e0 (.iload 4) 2, e0 .iaload 1, e1 (.bipush 9) 2 9, eb (.if_icmp .ge 14) 100, e0 (.aload_n 0) 1, ef (.getfield 16) 9 4, e0 (.iload 4) 2, e0 .dup2 1, e0 .iaload 1, e1 (.iconst 1) 1 1, e0 .iadd 1, e0 .iastore 1, e1 (.iinc 4 1) 3 1, eb (.goto (-76)) 27, e1 (.iinc 3 1) 3 1, eb (.goto (-90)) 19, e1 (.iconst 0) 1 0, e0 (.istore_n 3) 1, e1 (.iconst 0) 1 0, e0 (.istore 4) 2, e0 (.iload 4) 2, e0 (.aload_n 0) 1, ef (.getfield 122) 9 1, eb (.if_icmp .ge 19) 142, e0 (.iload_n 3) 1, e0 (.aload_n 0) 1, ef (.getfield 7) 9 2, e0 (.iload 4) 2, e0 .iaload 1, e0 .iadd 1, e0 (.istore_n 3) 1, e1 (.iinc 4 1) 3 1, eb (.goto (-22)) 117, e0 (.iload_n 3) 1, e0 .ireturn 1]
theorem dt_M_years : bt_dec mi_M_years.2.1 mi_M_years.2.2.1 0 ct_M_years = true := by decide +kernel
theorem kt_M_years : bt_T mi_M_years ct_M_years := ⟨dt_M_years, ⟨trivial, ⟨trivial, ⟨trivial, ⟨⟨fun _ => bs_M_125, (fun h => by cases h)⟩, ⟨trivial, ⟨trivial, ⟨trivial, ⟨trivial, ⟨trivial, ⟨lp_M_348, ⟨trivial, ⟨trivial, ⟨trivial, ⟨trivial, ⟨trivial, ⟨trivial, ⟨trivial, ⟨trivial, ⟨trivial, ⟨lg_M_122, ⟨trivial, ⟨trivial, ⟨trivial, ⟨bv_M_352, ⟨trivial, ⟨trivial, ⟨trivial, ⟨trivial, ⟨lg_M_7, ⟨trivial, ⟨trivial, ⟨trivial, ⟨trivial, ⟨lg_M_7, ⟨trivial, ⟨trivial, ⟨trivial, ⟨trivial, ⟨trivial, ⟨trivial, ⟨trivial, ⟨trivial, ⟨trivial, ⟨trivial, ⟨lg_M_16, ⟨trivial, ⟨trivial, ⟨trivial, ⟨trivial, ⟨trivial, ⟨lg_M_16, ⟨trivial, ⟨trivial, ⟨trivial, ⟨trivial, ⟨trivial, ⟨trivial, ⟨trivial, ⟨trivial, ⟨trivial, ⟨trivial, ⟨trivial, ⟨trivial, ⟨trivial, ⟨trivial, ⟨trivial, ⟨trivial, ⟨lg_M_122, ⟨trivial, ⟨trivial, ⟨trivial, ⟨lg_M_7, ⟨trivial, ⟨trivial, ⟨trivial, ⟨trivial, ⟨trivial, ⟨trivial, ⟨trivial, ⟨trivial, trivial⟩⟩⟩⟩⟩⟩⟩⟩⟩⟩⟩⟩⟩⟩⟩⟩⟩⟩⟩⟩⟩⟩⟩⟩⟩⟩⟩⟩⟩⟩⟩⟩⟩⟩⟩⟩⟩⟩⟩⟩⟩⟩⟩⟩⟩⟩⟩⟩⟩⟩⟩⟩⟩⟩⟩⟩⟩⟩⟩⟩⟩⟩⟩⟩⟩⟩⟩⟩⟩⟩⟩⟩⟩⟩⟩⟩⟩⟩⟩⟩⟩
def ct_M_walk : List bt_E := [e0 (.iload_n 1) 1, em (.invokestatic 172) 1 100 mi_M_isSort, eb (.ifCond .eq 10) 14, e0 (.iload_n 2) 1, em (.invokestatic 133) 1 100 mi_M_isShelf, eb (.ifCond .ne 5) 16, e1 (.iconst (-1)) 1 (-1), e0 .ireturn 1, e0 (.aload_n 0) 1, e0 (.iload_n 2) 1, em (.invokevirtual 288) 2 9 mi_M_rowFault, eb (.ifCond .ge 9) 30, e0 (.aload_n 0) 1, e0 (.iload_n 2) 1, em (.invokevirtual 288) 2 9 mi_M_rowFault, e0 .ireturn 1, e0 (.aload_n 0) 1, e0 (.iload_n 2) 1, em (.invokevirtual 318) 2 9 mi_M_isWalk, eb (.ifCond .ne 6) 41, e1 (.bipush (-5)) 2 (-5), e0 .ireturn 1, e0 (.aload_n 0) 1, em (.invokevirtual 184) 1 9 mi_M_findFar, e1 (.iconst 0) 1 0, e0 (.istore_n 3) 1, e1 (.iconst 0) 1 0, e0 (.istore 4) 2, e0 (.iload 4) 2, e0 (.aload_n 0) 1, e0 (.iload_n 2) 1, em (.invokevirtual 274) 2 9 mi_M_minutesOf, eb (.if_icmp .ge 47) 104, e0 (.aload_n 0) 1, e0 (.iload_n 1) 1, e0 (.iload_n 2) 1, e0 (.iload 4) 2, em (.invokestatic 265) 0 100 mi_M_every, em (.invokevirtual 324) 5 9 mi_M_walkedSound, e1 (.iconst (-1)) 1 (-1), eb (.if_icmp .ne 6) 78, eb (.goto 23) 98, e1 (.iinc 3 1) 3 1, e0 (.aload_n 0) 1, ef (.getfield 25) 9 7, e0 (.aload_n 0) 1, e0 (.iload_n 2) 1, e0 (.iload 4) 2, em (.invokevirtual 284) 3 9 mi_M_told, e0 .l2i 1, e0 .dup2 1, e0 .iaload 1, e1 (.iconst 1) 1 1, e0 .iadd 1, e0 .iastore 1, e1 (.iinc 4 1) 3 1, eb (.goto (-51)) 50, e0 (.aload_n 0) 1, e0 .dup 1, ef (.getfield 181) 9 9, e1 (.iconst 1) 1 1, e0 .iadd 1, ef (.putfield 181) 9 9, e0 (.iload_n 3) 1, e0 .ireturn 1]
theorem dt_M_walk : bt_dec mi_M_walk.2.1 mi_M_walk.2.2.1 0 ct_M_walk = true := by decide +kernel
theorem kt_M_walk : bt_T mi_M_walk ct_M_walk := ⟨dt_M_walk, ⟨trivial, ⟨⟨fun _ => bs_M_172, (fun h => by cases h)⟩, ⟨trivial, ⟨trivial, ⟨⟨fun _ => bs_M_133, (fun h => by cases h)⟩, ⟨trivial, ⟨trivial, ⟨trivial, ⟨trivial, ⟨trivial, ⟨bv_M_288, ⟨trivial, ⟨trivial, ⟨trivial, ⟨bv_M_288, ⟨trivial, ⟨trivial, ⟨trivial, ⟨bv_M_318, ⟨trivial, ⟨trivial, ⟨trivial, ⟨trivial, ⟨bv_M_184, ⟨trivial, ⟨trivial, ⟨trivial, ⟨trivial, ⟨trivial, ⟨trivial, ⟨trivial, ⟨bv_M_274, ⟨trivial, ⟨trivial, ⟨trivial, ⟨trivial, ⟨trivial, ⟨⟨fun _ => bs_M_265, (fun h => by cases h)⟩, ⟨bv_M_324, ⟨trivial, ⟨trivial, ⟨trivial, ⟨trivial, ⟨trivial, ⟨lg_M_25, ⟨trivial, ⟨trivial, ⟨trivial, ⟨bv_M_284, ⟨trivial, ⟨trivial, ⟨trivial, ⟨trivial, ⟨trivial, ⟨trivial, ⟨trivial, ⟨trivial, ⟨trivial, ⟨trivial, ⟨lg_M_181, ⟨trivial, ⟨trivial, ⟨lp_M_181, ⟨trivial, ⟨trivial, trivial⟩⟩⟩⟩⟩⟩⟩⟩⟩⟩⟩⟩⟩⟩⟩⟩⟩⟩⟩⟩⟩⟩⟩⟩⟩⟩⟩⟩⟩⟩⟩⟩⟩⟩⟩⟩⟩⟩⟩⟩⟩⟩⟩⟩⟩⟩⟩⟩⟩⟩⟩⟩⟩⟩⟩⟩⟩⟩⟩⟩⟩⟩⟩⟩⟩⟩
def ct_M_judge : List bt_E := [e0 (.iload_n 1) 1, em (.invokestatic 172) 1 100 mi_M_isSort, eb (.ifCond .eq 10) 14, e0 (.iload_n 2) 1, em (.invokestatic 312) 1 100 mi_M_areShelves, eb (.ifCond .ne 5) 16, e1 (.iconst (-1)) 1 (-1), e0 .ireturn 1, e0 (.aload_n 0) 1, e0 (.iload_n 2) 1, em (.invokevirtual 315) 2 9 mi_M_rowsFault, eb (.ifCond .ge 9) 30, e0 (.aload_n 0) 1, e0 (.iload_n 2) 1, em (.invokevirtual 315) 2 9 mi_M_rowsFault, e0 .ireturn 1, e0 (.aload_n 0) 1, e0 (.iload_n 2) 1, e1 (.bipush 10) 2 10, e0 .idiv 1, em (.invokevirtual 318) 2 9 mi_M_isWalk, eb (.ifCond .ne 6) 44, e1 (.bipush (-5)) 2 (-5), e0 .ireturn 1, e0 (.aload_n 0) 1, em (.invokevirtual 184) 1 9 mi_M_findFar, e1 (.iconst 0) 1 0, e0 (.istore_n 3) 1, e0 (.iload_n 3) 1, e0 (.aload_n 0) 1, e0 (.iload_n 2) 1, em (.invokevirtual 321) 2 9 mi_M_bothHave, eb (.if_icmp .ge 38) 94, e0 (.aload_n 0) 1, e0 (.iload_n 1) 1, e0 (.iload_n 2) 1, e1 (.bipush 10) 2 10, e0 .idiv 1, e0 (.iload_n 3) 1, em (.invokestatic 265) 0 100 mi_M_every, em (.invokevirtual 324) 5 9 mi_M_walkedSound, e0 .i2l 1, e0 (.aload_n 0) 1, e0 (.iload_n 2) 1, e1 (.bipush 10) 2 10, e0 .irem 1, e0 (.iload_n 3) 1, em (.invokevirtual 284) 3 9 mi_M_told, e0 .lcmp 1, eb (.ifCond .eq 5) 88, e0 (.iload_n 3) 1, e0 .ireturn 1, e1 (.iinc 3 1) 3 1, eb (.goto (-41)) 50, e1 (.bipush (-2)) 2 (-2), e0 .ireturn 1]
theorem dt_M_judge : bt_dec mi_M_judge.2.1 mi_M_judge.2.2.1 0 ct_M_judge = true := by decide +kernel
theorem kt_M_judge : bt_T mi_M_judge ct_M_judge := ⟨dt_M_judge, ⟨trivial, ⟨⟨fun _ => bs_M_172, (fun h => by cases h)⟩, ⟨trivial, ⟨trivial, ⟨⟨fun _ => bs_M_312, (fun h => by cases h)⟩, ⟨trivial, ⟨trivial, ⟨trivial, ⟨trivial, ⟨trivial, ⟨bv_M_315, ⟨trivial, ⟨trivial, ⟨trivial, ⟨bv_M_315, ⟨trivial, ⟨trivial, ⟨trivial, ⟨trivial, ⟨trivial, ⟨bv_M_318, ⟨trivial, ⟨trivial, ⟨trivial, ⟨trivial, ⟨bv_M_184, ⟨trivial, ⟨trivial, ⟨trivial, ⟨trivial, ⟨trivial, ⟨bv_M_321, ⟨trivial, ⟨trivial, ⟨trivial, ⟨trivial, ⟨trivial, ⟨trivial, ⟨trivial, ⟨⟨fun _ => bs_M_265, (fun h => by cases h)⟩, ⟨bv_M_324, ⟨trivial, ⟨trivial, ⟨trivial, ⟨trivial, ⟨trivial, ⟨trivial, ⟨bv_M_284, ⟨trivial, ⟨trivial, ⟨trivial, ⟨trivial, ⟨trivial, ⟨trivial, ⟨trivial, ⟨trivial, trivial⟩⟩⟩⟩⟩⟩⟩⟩⟩⟩⟩⟩⟩⟩⟩⟩⟩⟩⟩⟩⟩⟩⟩⟩⟩⟩⟩⟩⟩⟩⟩⟩⟩⟩⟩⟩⟩⟩⟩⟩⟩⟩⟩⟩⟩⟩⟩⟩⟩⟩⟩⟩⟩⟩⟩⟩⟩
def ct_M_image : List bt_E := [e0 (.aload_n 0) 1, e0 (.aload_n 0) 1, ef (.getfield 122) 9 1, ef (.putfield 85) 9 39, e0 (.aload_n 0) 1, e0 (.aload_n 0) 1, ef (.getfield 181) 9 9, ef (.putfield 358) 9 40, e1 (.iconst 0) 1 0, e0 (.istore_n 1) 1, e0 (.iload_n 1) 1, e0 (.aload_n 0) 1, ef (.getfield 122) 9 1, eb (.if_icmp .ge 57) 80, e0 (.aload_n 0) 1, ef (.getfield 89) 9 41, e0 (.iload_n 1) 1, e0 (.aload_n 0) 1, ef (.getfield 7) 9 2, e0 (.iload_n 1) 1, e0 .iaload 1, e0 .iastore 1, e0 (.aload_n 0) 1, ef (.getfield 92) 9 42, e0 (.iload_n 1) 1, e0 (.aload_n 0) 1, ef (.getfield 16) 9 4, e0 (.iload_n 1) 1, e0 .iaload 1, e0 .iastore 1, e0 (.aload_n 0) 1, ef (.getfield 95) 9 43, e0 (.iload_n 1) 1, e0 (.aload_n 0) 1, ef (.getfield 19) 9 5, e0 (.iload_n 1) 1, e0 .iaload 1, e0 .iastore 1, e0 (.aload_n 0) 1, ef (.getfield 98) 9 44, e0 (.iload_n 1) 1, e0 (.aload_n 0) 1, ef (.getfield 25) 9 7, e0 (.iload_n 1) 1, e0 .iaload 1, e0 .iastore 1, e1 (.iinc 1 1) 3 1, eb (.goto (-59)) 18, e0 (.aload_n 0) 1, ef (.getfield 122) 9 1, e0 .ireturn 1]
theorem dt_M_image : bt_dec mi_M_image.2.1 mi_M_image.2.2.1 0 ct_M_image = true := by decide +kernel
theorem kt_M_image : bt_T mi_M_image ct_M_image := ⟨dt_M_image, ⟨trivial, ⟨trivial, ⟨lg_M_122, ⟨lp_M_85, ⟨trivial, ⟨trivial, ⟨lg_M_181, ⟨lp_M_358, ⟨trivial, ⟨trivial, ⟨trivial, ⟨trivial, ⟨lg_M_122, ⟨trivial, ⟨trivial, ⟨lg_M_89, ⟨trivial, ⟨trivial, ⟨lg_M_7, ⟨trivial, ⟨trivial, ⟨trivial, ⟨trivial, ⟨lg_M_92, ⟨trivial, ⟨trivial, ⟨lg_M_16, ⟨trivial, ⟨trivial, ⟨trivial, ⟨trivial, ⟨lg_M_95, ⟨trivial, ⟨trivial, ⟨lg_M_19, ⟨trivial, ⟨trivial, ⟨trivial, ⟨trivial, ⟨lg_M_98, ⟨trivial, ⟨trivial, ⟨lg_M_25, ⟨trivial, ⟨trivial, ⟨trivial, ⟨trivial, ⟨trivial, ⟨trivial, ⟨lg_M_122, ⟨trivial, trivial⟩⟩⟩⟩⟩⟩⟩⟩⟩⟩⟩⟩⟩⟩⟩⟩⟩⟩⟩⟩⟩⟩⟩⟩⟩⟩⟩⟩⟩⟩⟩⟩⟩⟩⟩⟩⟩⟩⟩⟩⟩⟩⟩⟩⟩⟩⟩⟩⟩⟩⟩⟩
def ct_M_back : List bt_E := [e0 (.aload_n 0) 1, ef (.getfield 85) 9 39, eb (.ifCond .ge 6) 10, e1 (.bipush (-5)) 2 (-5), e0 .ireturn 1, e0 (.aload_n 0) 1, e0 (.aload_n 0) 1, ef (.getfield 358) 9 40, ef (.putfield 181) 9 9, e1 (.iconst 0) 1 0, e0 (.istore_n 1) 1, e0 (.iload_n 1) 1, e0 (.aload_n 0) 1, ef (.getfield 122) 9 1, eb (.if_icmp .ge 80) 105, e0 (.aload_n 0) 1, ef (.getfield 25) 9 7, e0 (.iload_n 1) 1, e0 (.iload_n 1) 1, e0 (.aload_n 0) 1, ef (.getfield 85) 9 39, eb (.if_icmp .ge 12) 50, e0 (.aload_n 0) 1, ef (.getfield 98) 9 44, e0 (.iload_n 1) 1, e0 .iaload 1, eb (.goto 4) 51, e1 (.iconst 0) 1 0, e0 .iastore 1, e0 (.iload_n 1) 1, e0 (.aload_n 0) 1, ef (.getfield 85) 9 39, eb (.if_icmp .lt 6) 63, eb (.goto 39) 99, e0 (.aload_n 0) 1, ef (.getfield 7) 9 2, e0 (.iload_n 1) 1, e0 (.aload_n 0) 1, ef (.getfield 89) 9 41, e0 (.iload_n 1) 1, e0 .iaload 1, e0 .iastore 1, e0 (.aload_n 0) 1, ef (.getfield 16) 9 4, e0 (.iload_n 1) 1, e0 (.aload_n 0) 1, ef (.getfield 92) 9 42, e0 (.iload_n 1) 1, e0 .iaload 1, e0 .iastore 1, e0 (.aload_n 0) 1, ef (.getfield 19) 9 5, e0 (.iload_n 1) 1, e0 (.aload_n 0) 1, ef (.getfield 95) 9 43, e0 (.iload_n 1) 1, e0 .iaload 1, e0 .iastore 1, e1 (.iinc 1 1) 3 1, eb (.goto (-82)) 20, e0 (.aload_n 0) 1, ef (.getfield 85) 9 39, e0 .ireturn 1]
theorem dt_M_back : bt_dec mi_M_back.2.1 mi_M_back.2.2.1 0 ct_M_back = true := by decide +kernel
theorem kt_M_back : bt_T mi_M_back ct_M_back := ⟨dt_M_back, ⟨trivial, ⟨lg_M_85, ⟨trivial, ⟨trivial, ⟨trivial, ⟨trivial, ⟨trivial, ⟨lg_M_358, ⟨lp_M_181, ⟨trivial, ⟨trivial, ⟨trivial, ⟨trivial, ⟨lg_M_122, ⟨trivial, ⟨trivial, ⟨lg_M_25, ⟨trivial, ⟨trivial, ⟨trivial, ⟨lg_M_85, ⟨trivial, ⟨trivial, ⟨lg_M_98, ⟨trivial, ⟨trivial, ⟨trivial, ⟨trivial, ⟨trivial, ⟨trivial, ⟨trivial, ⟨lg_M_85, ⟨trivial, ⟨trivial, ⟨trivial, ⟨lg_M_7, ⟨trivial, ⟨trivial, ⟨lg_M_89, ⟨trivial, ⟨trivial, ⟨trivial, ⟨trivial, ⟨lg_M_16, ⟨trivial, ⟨trivial, ⟨lg_M_92, ⟨trivial, ⟨trivial, ⟨trivial, ⟨trivial, ⟨lg_M_19, ⟨trivial, ⟨trivial, ⟨lg_M_95, ⟨trivial, ⟨trivial, ⟨trivial, ⟨trivial, ⟨trivial, ⟨trivial, ⟨lg_M_85, ⟨trivial, trivial⟩⟩⟩⟩⟩⟩⟩⟩⟩⟩⟩⟩⟩⟩⟩⟩⟩⟩⟩⟩⟩⟩⟩⟩⟩⟩⟩⟩⟩⟩⟩⟩⟩⟩⟩⟩⟩⟩⟩⟩⟩⟩⟩⟩⟩⟩⟩⟩⟩⟩⟩⟩⟩⟩⟩⟩⟩⟩⟩⟩⟩⟩⟩⟩
def ct_M_isBody : List bt_E := [e0 (.iload_n 1) 1, e1 (.iconst 0) 1 0, e0 (.aload_n 0) 1, ef (.getfield 361) 9 45, e1 (.iconst 1) 1 1, e0 .isub 1, em (.invokestatic 125) 3 100 mi_M_in, e0 .ireturn 1]
theorem dt_M_isBody : bt_dec mi_M_isBody.2.1 mi_M_isBody.2.2.1 0 ct_M_isBody = true := by decide +kernel
theorem kt_M_isBody : bt_T mi_M_isBody ct_M_isBody := ⟨dt_M_isBody, ⟨trivial, ⟨trivial, ⟨trivial, ⟨lg_M_361, ⟨trivial, ⟨trivial, ⟨⟨fun _ => bs_M_125, (fun h => by cases h)⟩, ⟨trivial, trivial⟩⟩⟩⟩⟩⟩⟩⟩⟩
def ct_M_ran : List bt_E := [e0 (.aload_n 0) 1, ef (.getfield 364) 9 47, e1 (.bipush 24) 2 24, eb (.if_icmp .ge 13) 19, e0 (.aload_n 0) 1, ef (.getfield 104) 9 48, e0 (.aload_n 0) 1, ef (.getfield 364) 9 47, e0 (.iload_n 1) 1, e0 .iastore 1, e0 (.aload_n 0) 1, e0 .dup 1, ef (.getfield 364) 9 47, e1 (.iconst 1) 1 1, e0 .iadd 1, ef (.putfield 364) 9 47, e0 .return_ 1]
theorem dt_M_ran : bt_dec mi_M_ran.2.1 mi_M_ran.2.2.1 0 ct_M_ran = true := by decide +kernel
theorem kt_M_ran : bt_T mi_M_ran ct_M_ran := ⟨dt_M_ran, ⟨trivial, ⟨lg_M_364, ⟨trivial, ⟨trivial, ⟨trivial, ⟨lg_M_104, ⟨trivial, ⟨lg_M_364, ⟨trivial, ⟨trivial, ⟨trivial, ⟨trivial, ⟨lg_M_364, ⟨trivial, ⟨trivial, ⟨lp_M_364, ⟨trivial, trivial⟩⟩⟩⟩⟩⟩⟩⟩⟩⟩⟩⟩⟩⟩⟩⟩⟩⟩
def ct_M_trace : List bt_E := [e0 (.iload_n 1) 1, eb (.ifCond .lt 26) 27, e0 (.iload_n 1) 1, e0 (.aload_n 0) 1, ef (.getfield 364) 9 47, eb (.if_icmp .ge 18) 27, e0 (.iload_n 1) 1, e1 (.bipush 24) 2 24, eb (.if_icmp .ge 12) 27, e0 (.aload_n 0) 1, ef (.getfield 104) 9 48, e0 (.iload_n 1) 1, e0 .iaload 1, eb (.goto 4) 28, e1 (.iconst (-1)) 1 (-1), e0 .ireturn 1]
theorem dt_M_trace : bt_dec mi_M_trace.2.1 mi_M_trace.2.2.1 0 ct_M_trace = true := by decide +kernel
theorem kt_M_trace : bt_T mi_M_trace ct_M_trace := ⟨dt_M_trace, ⟨trivial, ⟨trivial, ⟨trivial, ⟨trivial, ⟨lg_M_364, ⟨trivial, ⟨trivial, ⟨trivial, ⟨trivial, ⟨trivial, ⟨lg_M_104, ⟨trivial, ⟨trivial, ⟨trivial, ⟨trivial, ⟨trivial, trivial⟩⟩⟩⟩⟩⟩⟩⟩⟩⟩⟩⟩⟩⟩⟩⟩⟩
def ct_M_body : List bt_E := [e0 (.iload_n 1) 1, e1 (.iconst 0) 1 0, e1 (.bipush 7) 2 7, em (.invokestatic 125) 3 100 mi_M_in, eb (.ifCond .ne 5) 12, e1 (.iconst (-1)) 1 (-1), e0 .ireturn 1, e0 (.aload_n 0) 1, ef (.getfield 361) 9 45, e1 (.bipush 50) 2 50, eb (.if_icmp .ne 6) 24, e1 (.bipush (-3)) 2 (-3), e0 .ireturn 1, e0 (.aload_n 0) 1, ef (.getfield 101) 9 46, e0 (.aload_n 0) 1, ef (.getfield 361) 9 45, e0 (.iload_n 1) 1, e0 .iastore 1, e0 (.aload_n 0) 1, e0 .dup 1, ef (.getfield 361) 9 45, e1 (.iconst 1) 1 1, e0 .iadd 1, ef (.putfield 361) 9 45, e0 (.aload_n 0) 1, ef (.getfield 361) 9 45, e1 (.iconst 1) 1 1, e0 .isub 1, e0 .ireturn 1]
theorem dt_M_body : bt_dec mi_M_body.2.1 mi_M_body.2.2.1 0 ct_M_body = true := by decide +kernel
theorem kt_M_body : bt_T mi_M_body ct_M_body := ⟨dt_M_body, ⟨trivial, ⟨trivial, ⟨trivial, ⟨⟨fun _ => bs_M_125, (fun h => by cases h)⟩, ⟨trivial, ⟨trivial, ⟨trivial, ⟨trivial, ⟨lg_M_361, ⟨trivial, ⟨trivial, ⟨trivial, ⟨trivial, ⟨trivial, ⟨lg_M_101, ⟨trivial, ⟨lg_M_361, ⟨trivial, ⟨trivial, ⟨trivial, ⟨trivial, ⟨lg_M_361, ⟨trivial, ⟨trivial, ⟨lp_M_361, ⟨trivial, ⟨lg_M_361, ⟨trivial, ⟨trivial, ⟨trivial, trivial⟩⟩⟩⟩⟩⟩⟩⟩⟩⟩⟩⟩⟩⟩⟩⟩⟩⟩⟩⟩⟩⟩⟩⟩⟩⟩⟩⟩⟩⟩⟩
def ct_M_isUnder : List bt_E := [e0 (.iload_n 1) 1, eb (.ifCond .eq 55) 56, e0 (.iload_n 0) 1, e0 (.iload_n 1) 1, eb (.if_icmp .eq 50) 56, e0 (.iload_n 1) 1, e1 (.iconst 1) 1 1, eb (.if_icmp .ne 8) 19, e0 (.iload_n 0) 1, e1 (.iconst 4) 1 4, eb (.if_icmp .eq 40) 56, e0 (.iload_n 1) 1, e1 (.iconst 2) 1 2, eb (.if_icmp .ne 13) 34, e0 (.iload_n 0) 1, e1 (.iconst 3) 1 3, eb (.if_icmp .eq 30) 56, e0 (.iload_n 0) 1, e1 (.iconst 5) 1 5, eb (.if_icmp .eq 25) 56, e0 (.iload_n 1) 1, e1 (.iconst 3) 1 3, eb (.if_icmp .ne 8) 44, e0 (.iload_n 0) 1, e1 (.iconst 5) 1 5, eb (.if_icmp .eq 15) 56, e0 (.iload_n 1) 1, e1 (.bipush 6) 2 6, eb (.if_icmp .ne 13) 60, e0 (.iload_n 0) 1, e1 (.bipush 7) 2 7, eb (.if_icmp .ne 7) 60, e1 (.iconst 1) 1 1, eb (.goto 4) 61, e1 (.iconst 0) 1 0, e0 .ireturn 1]
theorem dt_M_isUnder : bt_dec mi_M_isUnder.2.1 mi_M_isUnder.2.2.1 0 ct_M_isUnder = true := by decide +kernel
theorem kt_M_isUnder : bt_T mi_M_isUnder ct_M_isUnder := ⟨dt_M_isUnder, ⟨trivial, ⟨trivial, ⟨trivial, ⟨trivial, ⟨trivial, ⟨trivial, ⟨trivial, ⟨trivial, ⟨trivial, ⟨trivial, ⟨trivial, ⟨trivial, ⟨trivial, ⟨trivial, ⟨trivial, ⟨trivial, ⟨trivial, ⟨trivial, ⟨trivial, ⟨trivial, ⟨trivial, ⟨trivial, ⟨trivial, ⟨trivial, ⟨trivial, ⟨trivial, ⟨trivial, ⟨trivial, ⟨trivial, ⟨trivial, ⟨trivial, ⟨trivial, ⟨trivial, ⟨trivial, ⟨trivial, ⟨trivial, trivial⟩⟩⟩⟩⟩⟩⟩⟩⟩⟩⟩⟩⟩⟩⟩⟩⟩⟩⟩⟩⟩⟩⟩⟩⟩⟩⟩⟩⟩⟩⟩⟩⟩⟩⟩⟩⟩
def ct_M_plainRings : List bt_E := [e0 (.aload_n 0) 1, e1 (.iconst 1) 1 1, em (.invokevirtual 367) 2 9 mi_M_ran, e0 (.iload_n 2) 1, e0 (.iload_n 1) 1, e0 .iadd 1, e0 .ireturn 1]
theorem dt_M_plainRings : bt_dec mi_M_plainRings.2.1 mi_M_plainRings.2.2.1 0 ct_M_plainRings = true := by decide +kernel
theorem kt_M_plainRings : bt_T mi_M_plainRings ct_M_plainRings := ⟨dt_M_plainRings, ⟨trivial, ⟨trivial, ⟨bv_M_367, ⟨trivial, ⟨trivial, ⟨trivial, ⟨trivial, trivial⟩⟩⟩⟩⟩⟩⟩⟩
def ct_M_stolenRings : List bt_E := [e0 (.aload_n 0) 1, e1 (.bipush 70) 2 70, em (.invokevirtual 367) 2 9 mi_M_ran, e0 (.aload_n 0) 1, e0 (.iload_n 1) 1, e0 (.iload_n 2) 1, em (.invokevirtual 371) 3 9 mi_M_plainRings, e1 (.iconst 2) 1 2, e0 .imul 1, e0 .ireturn 1]
theorem dt_M_stolenRings : bt_dec mi_M_stolenRings.2.1 mi_M_stolenRings.2.2.1 0 ct_M_stolenRings = true := by decide +kernel
theorem kt_M_stolenRings : bt_T mi_M_stolenRings ct_M_stolenRings := ⟨dt_M_stolenRings, ⟨trivial, ⟨trivial, ⟨bv_M_367, ⟨trivial, ⟨trivial, ⟨trivial, ⟨bv_M_371, ⟨trivial, ⟨trivial, ⟨trivial, trivial⟩⟩⟩⟩⟩⟩⟩⟩⟩⟩⟩
def ct_M_ringing : List bt_E := [e0 (.aload_n 0) 1, ef (.getfield 101) 9 46, e0 (.iload_n 1) 1, e0 .iaload 1, e1 (.iconst 1) 1 1, em (.invokestatic 374) 2 100 mi_M_isUnder, eb (.ifCond .eq 18) 28, e0 (.aload_n 0) 1, e1 (.bipush 20) 2 20, em (.invokevirtual 367) 2 9 mi_M_ran, e0 (.aload_n 0) 1, e0 (.iload_n 1) 1, e0 (.iload_n 2) 1, em (.invokevirtual 371) 3 9 mi_M_plainRings, e1 (.iconst 3) 1 3, e0 .iadd 1, e0 .ireturn 1, e0 (.aload_n 0) 1, ef (.getfield 101) 9 46, e0 (.iload_n 1) 1, e0 .iaload 1, e1 (.bipush 7) 2 7, eb (.if_icmp .ne 18) 54, e0 (.aload_n 0) 1, e1 (.bipush 81) 2 81, em (.invokevirtual 367) 2 9 mi_M_ran, e0 (.aload_n 0) 1, e0 (.iload_n 1) 1, e0 (.iload_n 2) 1, em (.invokevirtual 377) 3 9 mi_M_stolenRings, e1 (.iconst 1) 1 1, e0 .isub 1, e0 .ireturn 1, e0 (.aload_n 0) 1, ef (.getfield 101) 9 46, e0 (.iload_n 1) 1, e0 .iaload 1, e1 (.bipush 6) 2 6, eb (.if_icmp .ne 12) 74, e0 (.aload_n 0) 1, e0 (.iload_n 1) 1, e0 (.iload_n 2) 1, em (.invokevirtual 377) 3 9 mi_M_stolenRings, eb (.goto 9) 80, e0 (.aload_n 0) 1, e0 (.iload_n 1) 1, e0 (.iload_n 2) 1, em (.invokevirtual 371) 3 9 mi_M_plainRings, e0 .ireturn 1]
theorem dt_M_ringing : bt_dec mi_M_ringing.2.1 mi_M_ringing.2.2.1 0 ct_M_ringing = true := by decide +kernel
theorem kt_M_ringing : bt_T mi_M_ringing ct_M_ringing := ⟨dt_M_ringing, ⟨trivial, ⟨lg_M_101, ⟨trivial, ⟨trivial, ⟨trivial, ⟨⟨fun _ => bs_M_374, (fun h => by cases h)⟩, ⟨trivial, ⟨trivial, ⟨trivial, ⟨bv_M_367, ⟨trivial, ⟨trivial, ⟨trivial, ⟨bv_M_371, ⟨trivial, ⟨trivial, ⟨trivial, ⟨trivial, ⟨lg_M_101, ⟨trivial, ⟨trivial, ⟨trivial, ⟨trivial, ⟨trivial, ⟨trivial, ⟨bv_M_367, ⟨trivial, ⟨trivial, ⟨trivial, ⟨bv_M_377, ⟨trivial, ⟨trivial, ⟨trivial, ⟨trivial, ⟨lg_M_101, ⟨trivial, ⟨trivial, ⟨trivial, ⟨trivial, ⟨trivial, ⟨trivial, ⟨trivial, ⟨bv_M_377, ⟨trivial, ⟨trivial, ⟨trivial, ⟨trivial, ⟨bv_M_371, ⟨trivial, trivial⟩⟩⟩⟩⟩⟩⟩⟩⟩⟩⟩⟩⟩⟩⟩⟩⟩⟩⟩⟩⟩⟩⟩⟩⟩⟩⟩⟩⟩⟩⟩⟩⟩⟩⟩⟩⟩⟩⟩⟩⟩⟩⟩⟩⟩⟩⟩⟩⟩⟩
def ct_M_plainBrushes : List bt_E := [e0 (.aload_n 0) 1, e1 (.bipush 10) 2 10, em (.invokevirtual 367) 2 9 mi_M_ran, e0 (.aload_n 0) 1, e0 (.iload_n 1) 1, e0 (.iload_n 2) 1, em (.invokevirtual 380) 3 9 mi_M_ringing, e1 (.iconst 2) 1 2, e0 .imul 1, e0 .ireturn 1]
theorem dt_M_plainBrushes : bt_dec mi_M_plainBrushes.2.1 mi_M_plainBrushes.2.2.1 0 ct_M_plainBrushes = true := by decide +kernel
theorem kt_M_plainBrushes : bt_T mi_M_plainBrushes ct_M_plainBrushes := ⟨dt_M_plainBrushes, ⟨trivial, ⟨trivial, ⟨bv_M_367, ⟨trivial, ⟨trivial, ⟨trivial, ⟨bv_M_380, ⟨trivial, ⟨trivial, ⟨trivial, trivial⟩⟩⟩⟩⟩⟩⟩⟩⟩⟩⟩
def ct_M_gustBrushes : List bt_E := [e0 (.aload_n 0) 1, e1 (.bipush 30) 2 30, em (.invokevirtual 367) 2 9 mi_M_ran, e0 (.aload_n 0) 1, e0 (.iload_n 1) 1, e0 (.iload_n 2) 1, em (.invokevirtual 383) 3 9 mi_M_plainBrushes, e0 .ineg 1, e0 .ireturn 1]
theorem dt_M_gustBrushes : bt_dec mi_M_gustBrushes.2.1 mi_M_gustBrushes.2.2.1 0 ct_M_gustBrushes = true := by decide +kernel
theorem kt_M_gustBrushes : bt_T mi_M_gustBrushes ct_M_gustBrushes := ⟨dt_M_gustBrushes, ⟨trivial, ⟨trivial, ⟨bv_M_367, ⟨trivial, ⟨trivial, ⟨trivial, ⟨bv_M_383, ⟨trivial, ⟨trivial, trivial⟩⟩⟩⟩⟩⟩⟩⟩⟩⟩
def ct_M_brushing : List bt_E := [e0 (.aload_n 0) 1, ef (.getfield 101) 9 46, e0 (.iload_n 1) 1, e0 .iaload 1, e1 (.iconst 3) 1 3, em (.invokestatic 374) 2 100 mi_M_isUnder, eb (.ifCond .eq 18) 28, e0 (.aload_n 0) 1, e1 (.bipush 41) 2 41, em (.invokevirtual 367) 2 9 mi_M_ran, e0 (.aload_n 0) 1, e0 (.iload_n 1) 1, e0 (.iload_n 2) 1, e1 (.iconst 1) 1 1, e0 .iadd 1, em (.invokevirtual 386) 3 9 mi_M_gustBrushes, e0 .ireturn 1, e0 (.aload_n 0) 1, ef (.getfield 101) 9 46, e0 (.iload_n 1) 1, e0 .iaload 1, e1 (.bipush 7) 2 7, eb (.if_icmp .ne 25) 61, e0 (.aload_n 0) 1, e1 (.bipush 80) 2 80, em (.invokevirtual 367) 2 9 mi_M_ran, e0 (.aload_n 0) 1, e0 (.iload_n 1) 1, e0 (.iload_n 2) 1, em (.invokevirtual 383) 3 9 mi_M_plainBrushes, e0 (.istore_n 3) 1, e0 (.iload_n 3) 1, e0 (.aload_n 0) 1, e0 (.iload_n 1) 1, e1 (.iconst 2) 1 2, em (.invokevirtual 389) 3 9 mi_M_hearing, e0 .iadd 1, e0 .ireturn 1, e0 (.aload_n 0) 1, ef (.getfield 101) 9 46, e0 (.iload_n 1) 1, e0 .iaload 1, e1 (.iconst 2) 1 2, eb (.if_icmp .ne 12) 80, e0 (.aload_n 0) 1, e0 (.iload_n 1) 1, e0 (.iload_n 2) 1, em (.invokevirtual 386) 3 9 mi_M_gustBrushes, eb (.goto 9) 86, e0 (.aload_n 0) 1, e0 (.iload_n 1) 1, e0 (.iload_n 2) 1, em (.invokevirtual 383) 3 9 mi_M_plainBrushes, e0 .ireturn 1]
theorem dt_M_brushing : bt_dec mi_M_brushing.2.1 mi_M_brushing.2.2.1 0 ct_M_brushing = true := by decide +kernel
theorem kt_M_brushing : bt_T mi_M_brushing ct_M_brushing := ⟨dt_M_brushing, ⟨trivial, ⟨lg_M_101, ⟨trivial, ⟨trivial, ⟨trivial, ⟨⟨fun _ => bs_M_374, (fun h => by cases h)⟩, ⟨trivial, ⟨trivial, ⟨trivial, ⟨bv_M_367, ⟨trivial, ⟨trivial, ⟨trivial, ⟨trivial, ⟨trivial, ⟨bv_M_386, ⟨trivial, ⟨trivial, ⟨lg_M_101, ⟨trivial, ⟨trivial, ⟨trivial, ⟨trivial, ⟨trivial, ⟨trivial, ⟨bv_M_367, ⟨trivial, ⟨trivial, ⟨trivial, ⟨bv_M_383, ⟨trivial, ⟨trivial, ⟨trivial, ⟨trivial, ⟨trivial, ⟨bv_M_389, ⟨trivial, ⟨trivial, ⟨trivial, ⟨lg_M_101, ⟨trivial, ⟨trivial, ⟨trivial, ⟨trivial, ⟨trivial, ⟨trivial, ⟨trivial, ⟨bv_M_386, ⟨trivial, ⟨trivial, ⟨trivial, ⟨trivial, ⟨bv_M_383, ⟨trivial, trivial⟩⟩⟩⟩⟩⟩⟩⟩⟩⟩⟩⟩⟩⟩⟩⟩⟩⟩⟩⟩⟩⟩⟩⟩⟩⟩⟩⟩⟩⟩⟩⟩⟩⟩⟩⟩⟩⟩⟩⟩⟩⟩⟩⟩⟩⟩⟩⟩⟩⟩⟩⟩⟩⟩⟩
def ct_M_plainHears : List bt_E := [e0 (.aload_n 0) 1, e1 (.bipush 11) 2 11, em (.invokevirtual 367) 2 9 mi_M_ran, e0 (.iload_n 2) 1, e0 (.iload_n 1) 1, e0 .ixor 1, e0 .ireturn 1]
theorem dt_M_plainHears : bt_dec mi_M_plainHears.2.1 mi_M_plainHears.2.2.1 0 ct_M_plainHears = true := by decide +kernel
theorem kt_M_plainHears : bt_T mi_M_plainHears ct_M_plainHears := ⟨dt_M_plainHears, ⟨trivial, ⟨trivial, ⟨bv_M_367, ⟨trivial, ⟨trivial, ⟨trivial, ⟨trivial, trivial⟩⟩⟩⟩⟩⟩⟩⟩
def ct_M_owlHears : List bt_E := [e0 (.aload_n 0) 1, e1 (.bipush 40) 2 40, em (.invokevirtual 367) 2 9 mi_M_ran, e0 (.aload_n 0) 1, e0 (.iload_n 1) 1, e0 (.iload_n 2) 1, em (.invokevirtual 392) 3 9 mi_M_plainHears, e1 (.iconst 3) 1 3, e0 .imul 1, e0 .ireturn 1]
theorem dt_M_owlHears : bt_dec mi_M_owlHears.2.1 mi_M_owlHears.2.2.1 0 ct_M_owlHears = true := by decide +kernel
theorem kt_M_owlHears : bt_T mi_M_owlHears ct_M_owlHears := ⟨dt_M_owlHears, ⟨trivial, ⟨trivial, ⟨bv_M_367, ⟨trivial, ⟨trivial, ⟨trivial, ⟨bv_M_392, ⟨trivial, ⟨trivial, ⟨trivial, trivial⟩⟩⟩⟩⟩⟩⟩⟩⟩⟩⟩
def ct_M_hearing : List bt_E := [e0 (.aload_n 0) 1, ef (.getfield 101) 9 46, e0 (.iload_n 1) 1, e0 .iaload 1, e1 (.iconst 5) 1 5, eb (.if_icmp .ne 25) 32, e0 (.aload_n 0) 1, e1 (.bipush 60) 2 60, em (.invokevirtual 367) 2 9 mi_M_ran, e0 (.aload_n 0) 1, e0 (.iload_n 1) 1, e0 (.iload_n 2) 1, em (.invokevirtual 395) 3 9 mi_M_owlHears, e0 (.istore_n 3) 1, e0 (.iload_n 3) 1, e0 (.aload_n 0) 1, e0 (.iload_n 1) 1, e1 (.iconst 2) 1 2, em (.invokevirtual 380) 3 9 mi_M_ringing, e0 .isub 1, e0 .ireturn 1, e0 (.aload_n 0) 1, ef (.getfield 101) 9 46, e0 (.iload_n 1) 1, e0 .iaload 1, e1 (.iconst 3) 1 3, eb (.if_icmp .ne 12) 51, e0 (.aload_n 0) 1, e0 (.iload_n 1) 1, e0 (.iload_n 2) 1, em (.invokevirtual 395) 3 9 mi_M_owlHears, eb (.goto 9) 57, e0 (.aload_n 0) 1, e0 (.iload_n 1) 1, e0 (.iload_n 2) 1, em (.invokevirtual 392) 3 9 mi_M_plainHears, e0 .ireturn 1]
theorem dt_M_hearing : bt_dec mi_M_hearing.2.1 mi_M_hearing.2.2.1 0 ct_M_hearing = true := by decide +kernel
theorem kt_M_hearing : bt_T mi_M_hearing ct_M_hearing := ⟨dt_M_hearing, ⟨trivial, ⟨lg_M_101, ⟨trivial, ⟨trivial, ⟨trivial, ⟨trivial, ⟨trivial, ⟨trivial, ⟨bv_M_367, ⟨trivial, ⟨trivial, ⟨trivial, ⟨bv_M_395, ⟨trivial, ⟨trivial, ⟨trivial, ⟨trivial, ⟨trivial, ⟨bv_M_380, ⟨trivial, ⟨trivial, ⟨trivial, ⟨lg_M_101, ⟨trivial, ⟨trivial, ⟨trivial, ⟨trivial, ⟨trivial, ⟨trivial, ⟨trivial, ⟨bv_M_395, ⟨trivial, ⟨trivial, ⟨trivial, ⟨trivial, ⟨bv_M_392, ⟨trivial, trivial⟩⟩⟩⟩⟩⟩⟩⟩⟩⟩⟩⟩⟩⟩⟩⟩⟩⟩⟩⟩⟩⟩⟩⟩⟩⟩⟩⟩⟩⟩⟩⟩⟩⟩⟩⟩⟩⟩
def ct_M_plainWrites : List bt_E := [e0 (.aload_n 0) 1, e1 (.iconst 2) 1 2, em (.invokevirtual 367) 2 9 mi_M_ran, e0 (.aload_n 0) 1, e0 (.iload_n 1) 1, e0 (.iload_n 2) 1, em (.invokevirtual 398) 3 9 mi_M_brushing, e0 (.istore_n 3) 1, e0 (.iload_n 3) 1, e0 (.aload_n 0) 1, e0 (.iload_n 1) 1, e1 (.iconst 1) 1 1, em (.invokevirtual 389) 3 9 mi_M_hearing, e0 .isub 1, e0 .ireturn 1]
theorem dt_M_plainWrites : bt_dec mi_M_plainWrites.2.1 mi_M_plainWrites.2.2.1 0 ct_M_plainWrites = true := by decide +kernel
theorem kt_M_plainWrites : bt_T mi_M_plainWrites ct_M_plainWrites := ⟨dt_M_plainWrites, ⟨trivial, ⟨trivial, ⟨bv_M_367, ⟨trivial, ⟨trivial, ⟨trivial, ⟨bv_M_398, ⟨trivial, ⟨trivial, ⟨trivial, ⟨trivial, ⟨trivial, ⟨bv_M_389, ⟨trivial, ⟨trivial, trivial⟩⟩⟩⟩⟩⟩⟩⟩⟩⟩⟩⟩⟩⟩⟩⟩
def ct_M_writing : List bt_E := [e0 (.aload_n 0) 1, ef (.getfield 101) 9 46, e0 (.iload_n 1) 1, e0 .iaload 1, e1 (.iconst 4) 1 4, eb (.if_icmp .ne 18) 25, e0 (.aload_n 0) 1, e1 (.bipush 50) 2 50, em (.invokevirtual 367) 2 9 mi_M_ran, e0 (.aload_n 0) 1, e0 (.iload_n 1) 1, e0 (.iload_n 2) 1, em (.invokevirtual 401) 3 9 mi_M_plainWrites, e1 (.iconst 5) 1 5, e0 .ixor 1, e0 .ireturn 1, e0 (.aload_n 0) 1, ef (.getfield 101) 9 46, e0 (.iload_n 1) 1, e0 .iaload 1, e1 (.iconst 5) 1 5, eb (.if_icmp .ne 18) 50, e0 (.aload_n 0) 1, e1 (.bipush 61) 2 61, em (.invokevirtual 367) 2 9 mi_M_ran, e0 (.aload_n 0) 1, e0 (.iload_n 1) 1, e0 (.iload_n 2) 1, em (.invokevirtual 401) 3 9 mi_M_plainWrites, e1 (.iconst 1) 1 1, e0 .iadd 1, e0 .ireturn 1, e0 (.aload_n 0) 1, e0 (.iload_n 1) 1, e0 (.iload_n 2) 1, em (.invokevirtual 401) 3 9 mi_M_plainWrites, e0 .ireturn 1]
theorem dt_M_writing : bt_dec mi_M_writing.2.1 mi_M_writing.2.2.1 0 ct_M_writing = true := by decide +kernel
theorem kt_M_writing : bt_T mi_M_writing ct_M_writing := ⟨dt_M_writing, ⟨trivial, ⟨lg_M_101, ⟨trivial, ⟨trivial, ⟨trivial, ⟨trivial, ⟨trivial, ⟨trivial, ⟨bv_M_367, ⟨trivial, ⟨trivial, ⟨trivial, ⟨bv_M_401, ⟨trivial, ⟨trivial, ⟨trivial, ⟨trivial, ⟨lg_M_101, ⟨trivial, ⟨trivial, ⟨trivial, ⟨trivial, ⟨trivial, ⟨trivial, ⟨bv_M_367, ⟨trivial, ⟨trivial, ⟨trivial, ⟨bv_M_401, ⟨trivial, ⟨trivial, ⟨trivial, ⟨trivial, ⟨trivial, ⟨trivial, ⟨bv_M_401, ⟨trivial, trivial⟩⟩⟩⟩⟩⟩⟩⟩⟩⟩⟩⟩⟩⟩⟩⟩⟩⟩⟩⟩⟩⟩⟩⟩⟩⟩⟩⟩⟩⟩⟩⟩⟩⟩⟩⟩⟩⟩
def ct_M_act : List bt_E := [e0 (.aload_n 0) 1, e1 (.iconst 0) 1 0, ef (.putfield 364) 9 47, e0 (.aload_n 0) 1, e0 (.iload_n 1) 1, em (.invokevirtual 404) 2 9 mi_M_isBody, eb (.ifCond .eq 12) 22, e0 (.iload_n 2) 1, e1 (.iconst 0) 1 0, e1 (.iconst 3) 1 3, em (.invokestatic 125) 3 100 mi_M_in, eb (.ifCond .ne 5) 24, e1 (.iconst 0) 1 0, e0 .ireturn 1, e0 (.iload_n 2) 1, eb (.ifCond .ne 12) 37, e0 (.aload_n 0) 1, e0 (.iload_n 1) 1, e0 (.iload_n 3) 1, em (.invokevirtual 380) 3 9 mi_M_ringing, eb (.goto 37) 71, e0 (.iload_n 2) 1, e1 (.iconst 1) 1 1, eb (.if_icmp .ne 12) 51, e0 (.aload_n 0) 1, e0 (.iload_n 1) 1, e0 (.iload_n 3) 1, em (.invokevirtual 398) 3 9 mi_M_brushing, eb (.goto 23) 71, e0 (.iload_n 2) 1, e1 (.iconst 2) 1 2, eb (.if_icmp .ne 12) 65, e0 (.aload_n 0) 1, e0 (.iload_n 1) 1, e0 (.iload_n 3) 1, em (.invokevirtual 389) 3 9 mi_M_hearing, eb (.goto 9) 71, e0 (.aload_n 0) 1, e0 (.iload_n 1) 1, e0 (.iload_n 3) 1, em (.invokevirtual 407) 3 9 mi_M_writing, e0 .ireturn 1]
theorem dt_M_act : bt_dec mi_M_act.2.1 mi_M_act.2.2.1 0 ct_M_act = true := by decide +kernel
theorem kt_M_act : bt_T mi_M_act ct_M_act := ⟨dt_M_act, ⟨trivial, ⟨trivial, ⟨lp_M_364, ⟨trivial, ⟨trivial, ⟨bv_M_404, ⟨trivial, ⟨trivial, ⟨trivial, ⟨trivial, ⟨⟨fun _ => bs_M_125, (fun h => by cases h)⟩, ⟨trivial, ⟨trivial, ⟨trivial, ⟨trivial, ⟨trivial, ⟨trivial, ⟨trivial, ⟨trivial, ⟨bv_M_380, ⟨trivial, ⟨trivial, ⟨trivial, ⟨trivial, ⟨trivial, ⟨trivial, ⟨trivial, ⟨bv_M_398, ⟨trivial, ⟨trivial, ⟨trivial, ⟨trivial, ⟨trivial, ⟨trivial, ⟨trivial, ⟨bv_M_389, ⟨trivial, ⟨trivial, ⟨trivial, ⟨trivial, ⟨bv_M_407, ⟨trivial, trivial⟩⟩⟩⟩⟩⟩⟩⟩⟩⟩⟩⟩⟩⟩⟩⟩⟩⟩⟩⟩⟩⟩⟩⟩⟩⟩⟩⟩⟩⟩⟩⟩⟩⟩⟩⟩⟩⟩⟩⟩⟩⟩⟩
def ct_M_count : List bt_E := [e0 (.iload_n 1) 1, ew (.tableswitch 69 0 5 #[39, 44, 49, 54, 59, 64]) 39 70 [(0, 40), (1, 45), (2, 50), (3, 55), (4, 60), (5, 65)], e0 (.aload_n 0) 1, ef (.getfield 122) 9 1, e0 .ireturn 1, e0 (.aload_n 0) 1, ef (.getfield 146) 9 8, e0 .ireturn 1, e0 (.aload_n 0) 1, ef (.getfield 187) 9 22, e0 .ireturn 1, e0 (.aload_n 0) 1, ef (.getfield 162) 9 14, e0 .ireturn 1, e0 (.aload_n 0) 1, ef (.getfield 361) 9 45, e0 .ireturn 1, e0 (.aload_n 0) 1, ef (.getfield 364) 9 47, e0 .ireturn 1, e1 (.iconst (-1)) 1 (-1), e0 .ireturn 1]
theorem dt_M_count : bt_dec mi_M_count.2.1 mi_M_count.2.2.1 0 ct_M_count = true := by decide +kernel
theorem kt_M_count : bt_T mi_M_count ct_M_count := ⟨dt_M_count, ⟨trivial, ⟨trivial, ⟨trivial, ⟨lg_M_122, ⟨trivial, ⟨trivial, ⟨lg_M_146, ⟨trivial, ⟨trivial, ⟨lg_M_187, ⟨trivial, ⟨trivial, ⟨lg_M_162, ⟨trivial, ⟨trivial, ⟨lg_M_361, ⟨trivial, ⟨trivial, ⟨lg_M_364, ⟨trivial, ⟨trivial, ⟨trivial, trivial⟩⟩⟩⟩⟩⟩⟩⟩⟩⟩⟩⟩⟩⟩⟩⟩⟩⟩⟩⟩⟩⟩⟩
def ct_M_isShelf : List bt_E := [e0 (.iload_n 0) 1, e1 (.iconst 0) 1 0, e1 (.iconst 5) 1 5, em (.invokestatic 125) 3 100 mi_M_in, e0 .ireturn 1]
theorem dt_M_isShelf : bt_dec mi_M_isShelf.2.1 mi_M_isShelf.2.2.1 0 ct_M_isShelf = true := by decide +kernel
theorem kt_M_isShelf : bt_T mi_M_isShelf ct_M_isShelf := ⟨dt_M_isShelf, ⟨trivial, ⟨trivial, ⟨trivial, ⟨⟨fun _ => bs_M_125, (fun h => by cases h)⟩, ⟨trivial, trivial⟩⟩⟩⟩⟩⟩
def ct_M_keep : List bt_E := [e0 (.iload_n 1) 1, em (.invokestatic 133) 1 100 mi_M_isShelf, eb (.ifCond .eq 16) 20, e0 (.iload_n 2) 1, e1 (.iconst (-1)) 1 (-1), eb (.if_icmp .eq 13) 22, e0 (.aload_n 0) 1, e0 (.iload_n 2) 1, em (.invokevirtual 404) 2 9 mi_M_isBody, eb (.ifCond .ne 5) 22, e1 (.iconst (-1)) 1 (-1), e0 .ireturn 1, e0 (.aload_n 0) 1, ef (.getfield 107) 9 49, e0 (.iload_n 1) 1, e0 (.iload_n 2) 1, e0 .iastore 1, e1 (.iconst 1) 1 1, e0 .ireturn 1]
theorem dt_M_keep : bt_dec mi_M_keep.2.1 mi_M_keep.2.2.1 0 ct_M_keep = true := by decide +kernel
theorem kt_M_keep : bt_T mi_M_keep ct_M_keep := ⟨dt_M_keep, ⟨trivial, ⟨⟨fun _ => bs_M_133, (fun h => by cases h)⟩, ⟨trivial, ⟨trivial, ⟨trivial, ⟨trivial, ⟨trivial, ⟨trivial, ⟨bv_M_404, ⟨trivial, ⟨trivial, ⟨trivial, ⟨trivial, ⟨lg_M_107, ⟨trivial, ⟨trivial, ⟨trivial, ⟨trivial, ⟨trivial, trivial⟩⟩⟩⟩⟩⟩⟩⟩⟩⟩⟩⟩⟩⟩⟩⟩⟩⟩⟩⟩
def ct_M_row : List bt_E := [e0 (.iload_n 1) 1, em (.invokestatic 133) 1 100 mi_M_isShelf, eb (.ifCond .eq 18) 22, e0 (.iload_n 2) 1, e1 (.iconst 0) 1 0, e1 (.iconst 4) 1 4, em (.invokestatic 125) 3 100 mi_M_in, eb (.ifCond .eq 9) 22, e0 (.iload_n 3) 1, e1 (.bipush 60) 2 60, eb (.if_icmp .le 5) 24, e1 (.iconst (-1)) 1 (-1), e0 .ireturn 1, e0 (.iload_n 3) 1, eb (.ifCond .ge 6) 31, e1 (.bipush (-14)) 2 (-14), e0 .ireturn 1, e0 (.aload_n 0) 1, ef (.getfield 107) 9 49, e0 (.iload_n 1) 1, e1 (.bipush (-2)) 2 (-2), e0 (.iload_n 2) 1, e0 .isub 1, e0 .iastore 1, e0 (.aload_n 0) 1, ef (.getfield 110) 9 50, e0 (.iload_n 1) 1, e0 (.iload_n 3) 1, e0 .iastore 1, e1 (.bipush 60) 2 60, e0 (.iload_n 1) 1, e0 .imul 1, e0 (.istore 4) 2, e0 (.iload 4) 2, e1 (.bipush 60) 2 60, e0 (.iload_n 1) 1, e0 .imul 1, e1 (.bipush 60) 2 60, e0 .iadd 1, eb (.if_icmp .ge 17) 80, e0 (.aload_n 0) 1, ef (.getfield 113) 9 51, e0 (.iload 4) 2, e2 (.lconst 0) 1 0, e0 .lastore 1, e1 (.iinc 4 1) 3 1, eb (.goto (-23)) 54, e1 (.iconst 1) 1 1, e0 .ireturn 1]
theorem dt_M_row : bt_dec mi_M_row.2.1 mi_M_row.2.2.1 0 ct_M_row = true := by decide +kernel
theorem kt_M_row : bt_T mi_M_row ct_M_row := ⟨dt_M_row, ⟨trivial, ⟨⟨fun _ => bs_M_133, (fun h => by cases h)⟩, ⟨trivial, ⟨trivial, ⟨trivial, ⟨trivial, ⟨⟨fun _ => bs_M_125, (fun h => by cases h)⟩, ⟨trivial, ⟨trivial, ⟨trivial, ⟨trivial, ⟨trivial, ⟨trivial, ⟨trivial, ⟨trivial, ⟨trivial, ⟨trivial, ⟨trivial, ⟨lg_M_107, ⟨trivial, ⟨trivial, ⟨trivial, ⟨trivial, ⟨trivial, ⟨trivial, ⟨lg_M_110, ⟨trivial, ⟨trivial, ⟨trivial, ⟨trivial, ⟨trivial, ⟨trivial, ⟨trivial, ⟨trivial, ⟨trivial, ⟨trivial, ⟨trivial, ⟨trivial, ⟨trivial, ⟨trivial, ⟨trivial, ⟨lg_M_113, ⟨trivial, ⟨trivial, ⟨trivial, ⟨trivial, ⟨trivial, ⟨trivial, ⟨trivial, trivial⟩⟩⟩⟩⟩⟩⟩⟩⟩⟩⟩⟩⟩⟩⟩⟩⟩⟩⟩⟩⟩⟩⟩⟩⟩⟩⟩⟩⟩⟩⟩⟩⟩⟩⟩⟩⟩⟩⟩⟩⟩⟩⟩⟩⟩⟩⟩⟩⟩⟩
def ct_M_whyNoPlace : List bt_E := [e0 (.iload_n 1) 1, em (.invokestatic 133) 1 100 mi_M_isShelf, eb (.ifCond .ne 5) 9, e1 (.iconst (-1)) 1 (-1), e0 .ireturn 1, e0 (.aload_n 0) 1, ef (.getfield 107) 9 49, e0 (.iload_n 1) 1, e0 .iaload 1, e1 (.iconst (-1)) 1 (-1), eb (.if_icmp .ne 6) 22, e1 (.bipush (-11)) 2 (-11), e0 .ireturn 1, e0 (.aload_n 0) 1, ef (.getfield 107) 9 49, e0 (.iload_n 1) 1, e0 .iaload 1, eb (.ifCond .lt 6) 34, e1 (.bipush (-12)) 2 (-12), e0 .ireturn 1, e0 (.iload_n 2) 1, e1 (.iconst 0) 1 0, e0 (.aload_n 0) 1, ef (.getfield 110) 9 50, e0 (.iload_n 1) 1, e0 .iaload 1, e1 (.iconst 1) 1 1, e0 .isub 1, em (.invokestatic 125) 3 100 mi_M_in, eb (.ifCond .eq 7) 54, e1 (.iconst 0) 1 0, eb (.goto 5) 56, e1 (.bipush (-13)) 2 (-13), e0 .ireturn 1]
theorem dt_M_whyNoPlace : bt_dec mi_M_whyNoPlace.2.1 mi_M_whyNoPlace.2.2.1 0 ct_M_whyNoPlace = true := by decide +kernel
theorem kt_M_whyNoPlace : bt_T mi_M_whyNoPlace ct_M_whyNoPlace := ⟨dt_M_whyNoPlace, ⟨trivial, ⟨⟨fun _ => bs_M_133, (fun h => by cases h)⟩, ⟨trivial, ⟨trivial, ⟨trivial, ⟨trivial, ⟨lg_M_107, ⟨trivial, ⟨trivial, ⟨trivial, ⟨trivial, ⟨trivial, ⟨trivial, ⟨trivial, ⟨lg_M_107, ⟨trivial, ⟨trivial, ⟨trivial, ⟨trivial, ⟨trivial, ⟨trivial, ⟨trivial, ⟨trivial, ⟨lg_M_110, ⟨trivial, ⟨trivial, ⟨trivial, ⟨trivial, ⟨⟨fun _ => bs_M_125, (fun h => by cases h)⟩, ⟨trivial, ⟨trivial, ⟨trivial, ⟨trivial, ⟨trivial, trivial⟩⟩⟩⟩⟩⟩⟩⟩⟩⟩⟩⟩⟩⟩⟩⟩⟩⟩⟩⟩⟩⟩⟩⟩⟩⟩⟩⟩⟩⟩⟩⟩⟩⟩⟩
def ct_M_put : List bt_E := [e0 (.aload_n 0) 1, e0 (.iload_n 1) 1, e0 (.iload_n 2) 1, em (.invokevirtual 410) 3 9 mi_M_whyNoPlace, e0 (.istore 5) 2, e0 (.iload 5) 2, eb (.ifCond .ge 6) 16, e0 (.iload 5) 2, e0 .ireturn 1, e1 (.bipush (-2)) 2 (-2), e0 (.aload_n 0) 1, ef (.getfield 107) 9 49, e0 (.iload_n 1) 1, e0 .iaload 1, e0 .isub 1, e0 (.istore 6) 2, e0 (.aload_n 0) 1, ef (.getfield 113) 9 51, e1 (.bipush 60) 2 60, e0 (.iload_n 1) 1, e0 .imul 1, e0 (.iload_n 2) 1, e0 .iadd 1, e0 (.iload 6) 2, eb (.ifCond .ne 10) 49, e0 (.lload_n 3) 1, e0 .l2i 1, e0 .i2b 1, e0 .i2l 1, eb (.goto 49) 95, e0 (.iload 6) 2, e1 (.iconst 1) 1 1, eb (.if_icmp .ne 10) 62, e0 (.lload_n 3) 1, e0 .l2i 1, e0 .i2s 1, e0 .i2l 1, eb (.goto 36) 95, e0 (.iload 6) 2, e1 (.iconst 2) 1 2, eb (.if_icmp .ne 9) 74, e0 (.lload_n 3) 1, e0 .l2i 1, e0 .i2l 1, eb (.goto 24) 95, e0 (.iload 6) 2, e1 (.iconst 3) 1 3, eb (.if_icmp .ne 7) 84, e0 (.lload_n 3) 1, eb (.goto 14) 95, e0 (.lload_n 3) 1, e2 (.lconst 0) 1 0, e0 .lcmp 1, eb (.ifCond .eq 7) 94, e2 (.lconst 1) 1 1, eb (.goto 4) 95, e2 (.lconst 0) 1 0, e0 .lastore 1, e1 (.iconst 1) 1 1, e0 .ireturn 1]
theorem dt_M_put : bt_dec mi_M_put.2.1 mi_M_put.2.2.1 0 ct_M_put = true := by decide +kernel
theorem kt_M_put : bt_T mi_M_put ct_M_put := ⟨dt_M_put, ⟨trivial, ⟨trivial, ⟨trivial, ⟨bv_M_410, ⟨trivial, ⟨trivial, ⟨trivial, ⟨trivial, ⟨trivial, ⟨trivial, ⟨trivial, ⟨lg_M_107, ⟨trivial, ⟨trivial, ⟨trivial, ⟨trivial, ⟨trivial, ⟨lg_M_113, ⟨trivial, ⟨trivial, ⟨trivial, ⟨trivial, ⟨trivial, ⟨trivial, ⟨trivial, ⟨trivial, ⟨trivial, ⟨trivial, ⟨trivial, ⟨trivial, ⟨trivial, ⟨trivial, ⟨trivial, ⟨trivial, ⟨trivial, ⟨trivial, ⟨trivial, ⟨trivial, ⟨trivial, ⟨trivial, ⟨trivial, ⟨trivial, ⟨trivial, ⟨trivial, ⟨trivial, ⟨trivial, ⟨trivial, ⟨trivial, ⟨trivial, ⟨trivial, ⟨trivial, ⟨trivial, ⟨trivial, ⟨trivial, ⟨trivial, ⟨trivial, ⟨trivial, ⟨trivial, ⟨trivial, ⟨trivial, trivial⟩⟩⟩⟩⟩⟩⟩⟩⟩⟩⟩⟩⟩⟩⟩⟩⟩⟩⟩⟩⟩⟩⟩⟩⟩⟩⟩⟩⟩⟩⟩⟩⟩⟩⟩⟩⟩⟩⟩⟩⟩⟩⟩⟩⟩⟩⟩⟩⟩⟩⟩⟩⟩⟩⟩⟩⟩⟩⟩⟩⟩
def ct_M_element : List bt_E := [e0 (.aload_n 0) 1, e0 (.iload_n 1) 1, e0 (.iload_n 2) 1, em (.invokevirtual 410) 3 9 mi_M_whyNoPlace, eb (.ifCond .ge 9) 15, e2 (.ldc2_w 415) 3 (-9223372036854775808), eb (.goto 14) 26, e0 (.aload_n 0) 1, ef (.getfield 113) 9 51, e1 (.bipush 60) 2 60, e0 (.iload_n 1) 1, e0 .imul 1, e0 (.iload_n 2) 1, e0 .iadd 1, e0 .laload 1, e0 .lreturn 1]
theorem dt_M_element : bt_dec mi_M_element.2.1 mi_M_element.2.2.1 0 ct_M_element = true := by decide +kernel
theorem kt_M_element : bt_T mi_M_element ct_M_element := ⟨dt_M_element, ⟨trivial, ⟨trivial, ⟨trivial, ⟨bv_M_410, ⟨trivial, ⟨lk_M_415, ⟨trivial, ⟨trivial, ⟨lg_M_113, ⟨trivial, ⟨trivial, ⟨trivial, ⟨trivial, ⟨trivial, ⟨trivial, ⟨trivial, trivial⟩⟩⟩⟩⟩⟩⟩⟩⟩⟩⟩⟩⟩⟩⟩⟩⟩
def ct_M_shift : List bt_E := [e0 (.iload_n 1) 1, em (.invokestatic 133) 1 100 mi_M_isShelf, eb (.ifCond .eq 10) 14, e0 (.iload_n 3) 1, em (.invokestatic 133) 1 100 mi_M_isShelf, eb (.ifCond .ne 5) 16, e1 (.iconst (-1)) 1 (-1), e0 .ireturn 1, e0 (.aload_n 0) 1, ef (.getfield 107) 9 49, e0 (.iload_n 1) 1, e0 .iaload 1, e1 (.iconst (-1)) 1 (-1), eb (.if_icmp .eq 13) 36, e0 (.aload_n 0) 1, ef (.getfield 107) 9 49, e0 (.iload_n 3) 1, e0 .iaload 1, e1 (.iconst (-1)) 1 (-1), eb (.if_icmp .ne 6) 39, e1 (.bipush (-11)) 2 (-11), e0 .ireturn 1, e0 (.aload_n 0) 1, ef (.getfield 107) 9 49, e0 (.iload_n 1) 1, e0 .iaload 1, eb (.ifCond .ge 18) 63, e0 (.aload_n 0) 1, ef (.getfield 107) 9 49, e0 (.iload_n 1) 1, e0 .iaload 1, e0 (.aload_n 0) 1, ef (.getfield 107) 9 49, e0 (.iload_n 3) 1, e0 .iaload 1, eb (.if_icmp .eq 6) 66, e1 (.bipush (-12)) 2 (-12), e0 .ireturn 1, e0 (.iload 5) 2, eb (.ifCond .lt 39) 107, e0 (.iload_n 2) 1, eb (.ifCond .lt 35) 107, e0 (.iload 4) 2, eb (.ifCond .lt 30) 107, e0 (.iload_n 2) 1, e0 (.aload_n 0) 1, ef (.getfield 110) 9 50, e0 (.iload_n 1) 1, e0 .iaload 1, e0 (.iload 5) 2, e0 .isub 1, eb (.if_icmp .gt 17) 107, e0 (.iload 4) 2, e0 (.aload_n 0) 1, ef (.getfield 110) 9 50, e0 (.iload_n 3) 1, e0 .iaload 1, e0 (.iload 5) 2, e0 .isub 1, eb (.if_icmp .le 6) 110, e1 (.bipush (-13)) 2 (-13), e0 .ireturn 1, e1 (.iconst 0) 1 0, e0 (.istore 6) 2, e0 (.iload 6) 2, e0 (.iload 5) 2, eb (.if_icmp .ge 30) 147, e0 (.aload_n 0) 1, ef (.getfield 116) 9 52, e0 (.iload 6) 2, e0 (.aload_n 0) 1, ef (.getfield 113) 9 51, e1 (.bipush 60) 2 60, e0 (.iload_n 1) 1, e0 .imul 1, e0 (.iload_n 2) 1, e0 .iadd 1, e0 (.iload 6) 2, e0 .iadd 1, e0 .laload 1, e0 .lastore 1, e1 (.iinc 6 1) 3 1, eb (.goto (-31)) 113, e1 (.iconst 0) 1 0, e0 (.istore 6) 2, e0 (.iload 6) 2, e0 (.iload 5) 2, eb (.if_icmp .ge 31) 185, e0 (.aload_n 0) 1, ef (.getfield 113) 9 51, e1 (.bipush 60) 2 60, e0 (.iload_n 3) 1, e0 .imul 1, e0 (.iload 4) 2, e0 .iadd 1, e0 (.iload 6) 2, e0 .iadd 1, e0 (.aload_n 0) 1, ef (.getfield 116) 9 52, e0 (.iload 6) 2, e0 .laload 1, e0 .lastore 1, e1 (.iinc 6 1) 3 1, eb (.goto (-32)) 150, e0 (.iload 5) 2, e0 .ireturn 1]
theorem dt_M_shift : bt_dec mi_M_shift.2.1 mi_M_shift.2.2.1 0 ct_M_shift = true := by decide +kernel
theorem kt_M_shift : bt_T mi_M_shift ct_M_shift := ⟨dt_M_shift, ⟨trivial, ⟨⟨fun _ => bs_M_133, (fun h => by cases h)⟩, ⟨trivial, ⟨trivial, ⟨⟨fun _ => bs_M_133, (fun h => by cases h)⟩, ⟨trivial, ⟨trivial, ⟨trivial, ⟨trivial, ⟨lg_M_107, ⟨trivial, ⟨trivial, ⟨trivial, ⟨trivial, ⟨trivial, ⟨lg_M_107, ⟨trivial, ⟨trivial, ⟨trivial, ⟨trivial, ⟨trivial, ⟨trivial, ⟨trivial, ⟨lg_M_107, ⟨trivial, ⟨trivial, ⟨trivial, ⟨trivial, ⟨lg_M_107, ⟨trivial, ⟨trivial, ⟨trivial, ⟨lg_M_107, ⟨trivial, ⟨trivial, ⟨trivial, ⟨trivial, ⟨trivial, ⟨trivial, ⟨trivial, ⟨trivial, ⟨trivial, ⟨trivial, ⟨trivial, ⟨trivial, ⟨trivial, ⟨lg_M_110, ⟨trivial, ⟨trivial, ⟨trivial, ⟨trivial, ⟨trivial, ⟨trivial, ⟨trivial, ⟨lg_M_110, ⟨trivial, ⟨trivial, ⟨trivial, ⟨trivial, ⟨trivial, ⟨trivial, ⟨trivial, ⟨trivial, ⟨trivial, ⟨trivial, ⟨trivial, ⟨trivial, ⟨trivial, ⟨lg_M_116, ⟨trivial, ⟨trivial, ⟨lg_M_113, ⟨trivial, ⟨trivial, ⟨trivial, ⟨trivial, ⟨trivial, ⟨trivial, ⟨trivial, ⟨trivial, ⟨trivial, ⟨trivial, ⟨trivial, ⟨trivial, ⟨trivial, ⟨trivial, ⟨trivial, ⟨trivial, ⟨trivial, ⟨lg_M_113, ⟨trivial, ⟨trivial, ⟨trivial, ⟨trivial, ⟨trivial, ⟨trivial, ⟨trivial, ⟨trivial, ⟨lg_M_116, ⟨trivial, ⟨trivial, ⟨trivial, ⟨trivial, ⟨trivial, ⟨trivial, ⟨trivial, trivial⟩⟩⟩⟩⟩⟩⟩⟩⟩⟩⟩⟩⟩⟩⟩⟩⟩⟩⟩⟩⟩⟩⟩⟩⟩⟩⟩⟩⟩⟩⟩⟩⟩⟩⟩⟩⟩⟩⟩⟩⟩⟩⟩⟩⟩⟩⟩⟩⟩⟩⟩⟩⟩⟩⟩⟩⟩⟩⟩⟩⟩⟩⟩⟩⟩⟩⟩⟩⟩⟩⟩⟩⟩⟩⟩⟩⟩⟩⟩⟩⟩⟩⟩⟩⟩⟩⟩⟩⟩⟩⟩⟩⟩⟩⟩⟩⟩⟩⟩⟩⟩⟩⟩⟩⟩⟩⟩
def ct_M_taken : List bt_E := [e0 (.iload_n 1) 1, em (.invokestatic 133) 1 100 mi_M_isShelf, eb (.ifCond .eq 13) 17, e0 (.iload_n 2) 1, e1 (.iconst 0) 1 0, e1 (.bipush 7) 2 7, em (.invokestatic 125) 3 100 mi_M_in, eb (.ifCond .ne 5) 19, e1 (.iconst (-1)) 1 (-1), e0 .ireturn 1, e0 (.aload_n 0) 1, ef (.getfield 107) 9 49, e0 (.iload_n 1) 1, e0 .iaload 1, e1 (.iconst (-1)) 1 (-1), eb (.if_icmp .ne 6) 32, e1 (.bipush (-11)) 2 (-11), e0 .ireturn 1, e0 (.aload_n 0) 1, ef (.getfield 107) 9 49, e0 (.iload_n 1) 1, e0 .iaload 1, eb (.ifCond .lt 35) 73, e0 (.aload_n 0) 1, ef (.getfield 101) 9 46, e0 (.aload_n 0) 1, ef (.getfield 107) 9 49, e0 (.iload_n 1) 1, e0 .iaload 1, e0 .iaload 1, e0 (.iload_n 2) 1, em (.invokestatic 374) 2 100 mi_M_isUnder, eb (.ifCond .eq 17) 73, e0 (.aload_n 0) 1, ef (.getfield 101) 9 46, e0 (.aload_n 0) 1, ef (.getfield 107) 9 49, e0 (.iload_n 1) 1, e0 .iaload 1, e0 .iaload 1, eb (.goto 5) 75, e1 (.bipush (-12)) 2 (-12), e0 .ireturn 1]
theorem dt_M_taken : bt_dec mi_M_taken.2.1 mi_M_taken.2.2.1 0 ct_M_taken = true := by decide +kernel
theorem kt_M_taken : bt_T mi_M_taken ct_M_taken := ⟨dt_M_taken, ⟨trivial, ⟨⟨fun _ => bs_M_133, (fun h => by cases h)⟩, ⟨trivial, ⟨trivial, ⟨trivial, ⟨trivial, ⟨⟨fun _ => bs_M_125, (fun h => by cases h)⟩, ⟨trivial, ⟨trivial, ⟨trivial, ⟨trivial, ⟨lg_M_107, ⟨trivial, ⟨trivial, ⟨trivial, ⟨trivial, ⟨trivial, ⟨trivial, ⟨trivial, ⟨lg_M_107, ⟨trivial, ⟨trivial, ⟨trivial, ⟨trivial, ⟨lg_M_101, ⟨trivial, ⟨lg_M_107, ⟨trivial, ⟨trivial, ⟨trivial, ⟨trivial, ⟨⟨fun _ => bs_M_374, (fun h => by cases h)⟩, ⟨trivial, ⟨trivial, ⟨lg_M_101, ⟨trivial, ⟨lg_M_107, ⟨trivial, ⟨trivial, ⟨trivial, ⟨trivial, ⟨trivial, ⟨trivial, trivial⟩⟩⟩⟩⟩⟩⟩⟩⟩⟩⟩⟩⟩⟩⟩⟩⟩⟩⟩⟩⟩⟩⟩⟩⟩⟩⟩⟩⟩⟩⟩⟩⟩⟩⟩⟩⟩⟩⟩⟩⟩⟩⟩⟩
end
