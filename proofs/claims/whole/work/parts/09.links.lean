/-! printed by wip/whole/gencode.py: the methods, the links, the code tables -/
theorem bt_tin1 {w : Cond} (h : w ∈ tables_1_1) : w ∈ lw_tbl := List.mem_append_right _ (by unfold tables_1; exact List.mem_append_left _ h)
theorem bt_tin2 {w : Cond} (h : w ∈ tables_1_2) : w ∈ lw_tbl := List.mem_append_right _ (by unfold tables_1; exact List.mem_append_right _ (List.mem_append_left _ h))
theorem bt_tin3 {w : Cond} (h : w ∈ tables_1_3) : w ∈ lw_tbl := List.mem_append_right _ (by unfold tables_1; exact List.mem_append_right _ (List.mem_append_right _ (List.mem_append_left _ h)))
theorem bt_tin4 {w : Cond} (h : w ∈ tables_1_4) : w ∈ lw_tbl := List.mem_append_right _ (by unfold tables_1; exact List.mem_append_right _ (List.mem_append_right _ (List.mem_append_right _ (List.mem_append_left _ h))))
theorem bt_tin5 {w : Cond} (h : w ∈ tables_1_5) : w ∈ lw_tbl := List.mem_append_right _ (by unfold tables_1; exact List.mem_append_right _ (List.mem_append_right _ (List.mem_append_right _ (List.mem_append_right _ (List.mem_append_left _ h)))))
theorem bt_tin6 {w : Cond} (h : w ∈ tables_1_6) : w ∈ lw_tbl := List.mem_append_right _ (by unfold tables_1; exact List.mem_append_right _ (List.mem_append_right _ (List.mem_append_right _ (List.mem_append_right _ (List.mem_append_right _ (List.mem_append_left _ h))))))
theorem bt_tin7 {w : Cond} (h : w ∈ tables_1_7) : w ∈ lw_tbl := List.mem_append_right _ (by unfold tables_1; exact List.mem_append_right _ (List.mem_append_right _ (List.mem_append_right _ (List.mem_append_right _ (List.mem_append_right _ (List.mem_append_right _ (h)))))))
def bt_m0 : bt_MI := (⟨"", "", ""⟩, ⟨#[]⟩, 0, none)
abbrev e0 (i : Instr) (n : Nat) : bt_E := (i, n, (0, 0), (0, 0), [], bt_m0)
abbrev e1 (i : Instr) (n : Nat) (v : Int32) : bt_E := (i, n, (0, 0), (v, 0), [], bt_m0)
abbrev e2 (i : Instr) (n : Nat) (v : Int64) : bt_E := (i, n, (0, 0), (0, v), [], bt_m0)
abbrev eb (i : Instr) (t : Nat) : bt_E := (i, 3, (t, 0), (0, 0), [], bt_m0)
abbrev ef (i : Instr) (x y : Nat) : bt_E := (i, 3, (x, y), (0, 0), [], bt_m0)
abbrev em (i : Instr) (x y : Nat) (m : bt_MI) : bt_E := (i, 3, (x, y), (0, 0), [], m)
abbrev ew (i : Instr) (n t : Nat) (s : List (Int32 × Nat)) : bt_E := (i, n, (t, 0), (0, 0), s, bt_m0)
theorem bt_inG0 : ∀ w ∈ u_ws bt_R0 bt_T0 9, w ∈ bt_gw := by
  intro w hw
  refine bt_gin (bt_in0 w hw) ?_
  obtain ⟨k, hk, rfl⟩ := List.mem_map.mp hw
  unfold u_lay; split <;> rfl
theorem bt_inG1 : ∀ w ∈ u_ws bt_R1 bt_T1 7, w ∈ bt_gw := by
  intro w hw
  refine bt_gin (bt_in1 w hw) ?_
  obtain ⟨k, hk, rfl⟩ := List.mem_map.mp hw
  unfold u_lay; split <;> rfl
theorem bt_inG2 : ∀ w ∈ u_ws bt_R2 bt_T2 15, w ∈ bt_gw := by
  intro w hw
  refine bt_gin (bt_in2 w hw) ?_
  obtain ⟨k, hk, rfl⟩ := List.mem_map.mp hw
  unfold u_lay; split <;> rfl
theorem bt_inG3 : ∀ w ∈ u_ws bt_R3 bt_T3 4, w ∈ bt_gw := by
  intro w hw
  refine bt_gin (bt_in3 w hw) ?_
  obtain ⟨k, hk, rfl⟩ := List.mem_map.mp hw
  unfold u_lay; split <;> rfl
theorem bt_inG4 : ∀ w ∈ u_ws bt_R4 bt_T4 2, w ∈ bt_gw := by
  intro w hw
  refine bt_gin (bt_in4 w hw) ?_
  obtain ⟨k, hk, rfl⟩ := List.mem_map.mp hw
  unfold u_lay; split <;> rfl
theorem bt_inG5 : ∀ w ∈ u_ws bt_R5 bt_T5 6, w ∈ bt_gw := by
  intro w hw
  refine bt_gin (bt_in5 w hw) ?_
  obtain ⟨k, hk, rfl⟩ := List.mem_map.mp hw
  unfold u_lay; split <;> rfl
theorem bt_inG6 : ∀ w ∈ u_ws bt_R6 bt_T6 7, w ∈ bt_gw := by
  intro w hw
  refine bt_gin (bt_in6 w hw) ?_
  obtain ⟨k, hk, rfl⟩ := List.mem_map.mp hw
  unfold u_lay; split <;> rfl
theorem bt_inG7 : ∀ w ∈ u_ws bt_R7 bt_T7 5, w ∈ bt_gw := by
  intro w hw
  refine bt_gin (bt_in7 w hw) ?_
  obtain ⟨k, hk, rfl⟩ := List.mem_map.mp hw
  unfold u_lay; split <;> rfl
theorem bt_inG8 : ∀ w ∈ u_ws bt_R8 bt_T8 4, w ∈ bt_gw := by
  intro w hw
  refine bt_gin (bt_in8 w hw) ?_
  obtain ⟨k, hk, rfl⟩ := List.mem_map.mp hw
  unfold u_lay; split <;> rfl
theorem bt_inG9 : ∀ w ∈ u_ws bt_R9 bt_T9 53, w ∈ bt_gw := by
  intro w hw
  refine bt_gin (bt_in9 w hw) ?_
  obtain ⟨k, hk, rfl⟩ := List.mem_map.mp hw
  unfold u_lay; split <;> rfl
def mi_JA_fillI : bt_MI := (⟨"java/util/Arrays", "fill", "([II)V"⟩, prog_15_method_103_code, 4, none)
def mi_JA_fillL : bt_MI := (⟨"java/util/Arrays", "fill", "([JJ)V"⟩, prog_15_method_101_code, 5, none)
def mi_JI_bitCount : bt_MI := (⟨"java/lang/Integer", "bitCount", "(I)I"⟩, prog_12_method_49_code, 1, some .int)
def mi_B_tree : bt_MI := (⟨"BellTrees", "tree", "(I)I"⟩, prog_1_method_2_code, 2, some .int)
def mi_B_trees : bt_MI := (⟨"BellTrees", "trees", "(III)I"⟩, prog_1_method_3_code, 6, some .int)
def mi_B_path : bt_MI := (⟨"BellTrees", "path", "(I)I"⟩, prog_1_method_4_code, 2, some .int)
def mi_B_mend : bt_MI := (⟨"BellTrees", "mend", "(III)I"⟩, prog_1_method_5_code, 5, some .int)
def mi_B_of : bt_MI := (⟨"BellTrees", "of", "(II)I"⟩, prog_1_method_6_code, 3, some .int)
def mi_B_feed : bt_MI := (⟨"BellTrees", "feed", "(I)I"⟩, prog_1_method_7_code, 2, some .int)
def mi_B_law : bt_MI := (⟨"BellTrees", "law", "()I"⟩, prog_1_method_8_code, 1, some .int)
def mi_B_sound : bt_MI := (⟨"BellTrees", "sound", "(III)I"⟩, prog_1_method_9_code, 4, some .int)
def mi_B_fits : bt_MI := (⟨"BellTrees", "fits", "(II)I"⟩, prog_1_method_10_code, 7, some .int)
def mi_B_canBe : bt_MI := (⟨"BellTrees", "canBe", "(II)I"⟩, prog_1_method_11_code, 6, some .int)
def mi_B_twoAtOnce : bt_MI := (⟨"BellTrees", "twoAtOnce", "(III)I"⟩, prog_1_method_12_code, 9, some .int)
def mi_B_least : bt_MI := (⟨"BellTrees", "least", "(III)I"⟩, prog_1_method_13_code, 9, some .int)
def mi_B_gone : bt_MI := (⟨"BellTrees", "gone", "(II)I"⟩, prog_1_method_14_code, 4, some .int)
def mi_B_apart : bt_MI := (⟨"BellTrees", "apart", "(II)I"⟩, prog_1_method_15_code, 5, some .int)
def mi_B_enough : bt_MI := (⟨"BellTrees", "enough", "(II)I"⟩, prog_1_method_16_code, 9, some .int)
def mi_B_tuned : bt_MI := (⟨"BellTrees", "tuned", "(I)I"⟩, prog_1_method_17_code, 3, some .int)
def mi_B_drawn : bt_MI := (⟨"BellTrees", "drawn", "(III)I"⟩, prog_1_method_18_code, 5, some .int)
def mi_B_years : bt_MI := (⟨"BellTrees", "years", "(II)I"⟩, prog_1_method_19_code, 3, some .int)
def mi_B_walk : bt_MI := (⟨"BellTrees", "walk", "(II)I"⟩, prog_1_method_20_code, 7, some .int)
def mi_B_judge : bt_MI := (⟨"BellTrees", "judge", "(II)I"⟩, prog_1_method_21_code, 4, some .int)
def mi_B_image : bt_MI := (⟨"BellTrees", "image", "()I"⟩, prog_1_method_22_code, 1, some .int)
def mi_B_back : bt_MI := (⟨"BellTrees", "back", "()I"⟩, prog_1_method_23_code, 1, some .int)
def mi_B_undo : bt_MI := (⟨"BellTrees", "undo", "()I"⟩, prog_1_method_24_code, 1, some .int)
def mi_B_redo : bt_MI := (⟨"BellTrees", "redo", "()I"⟩, prog_1_method_25_code, 1, some .int)
def mi_B_body : bt_MI := (⟨"BellTrees", "body", "(I)I"⟩, prog_1_method_26_code, 2, some .int)
def mi_B_act : bt_MI := (⟨"BellTrees", "act", "(III)I"⟩, prog_1_method_27_code, 4, some .int)
def mi_B_trace : bt_MI := (⟨"BellTrees", "trace", "(I)I"⟩, prog_1_method_28_code, 2, some .int)
def mi_B_keep : bt_MI := (⟨"BellTrees", "keep", "(II)I"⟩, prog_1_method_29_code, 4, some .int)
def mi_B_row : bt_MI := (⟨"BellTrees", "row", "(III)I"⟩, prog_1_method_30_code, 5, some .int)
def mi_B_put : bt_MI := (⟨"BellTrees", "put", "(IIJ)I"⟩, prog_1_method_31_code, 7, some .int)
def mi_B_element : bt_MI := (⟨"BellTrees", "element", "(II)J"⟩, prog_1_method_32_code, 4, some .long)
def mi_B_shift : bt_MI := (⟨"BellTrees", "shift", "(IIIII)I"⟩, prog_1_method_33_code, 8, some .int)
def mi_B_taken : bt_MI := (⟨"BellTrees", "taken", "(II)I"⟩, prog_1_method_34_code, 5, some .int)
def mi_B_count : bt_MI := (⟨"BellTrees", "count", "(I)I"⟩, prog_1_method_35_code, 2, some .int)
def mi_B_isSort : bt_MI := (⟨"BellTrees", "isSort", "(I)Z"⟩, prog_1_method_36_code, 1, some .boolean)
def mi_B_isMinute : bt_MI := (⟨"BellTrees", "isMinute", "(I)Z"⟩, prog_1_method_37_code, 1, some .boolean)
def mi_B_isPair : bt_MI := (⟨"BellTrees", "isPair", "(II)Z"⟩, prog_1_method_38_code, 2, some .boolean)
def mi_B_nextDraw : bt_MI := (⟨"BellTrees", "nextDraw", "(I)I"⟩, prog_1_method_39_code, 1, some .int)
def mi_B_shelfAt : bt_MI := (⟨"BellTrees", "shelfAt", "(I)LBellTrees$Shelf;"⟩, prog_1_method_40_code, 2, some (.object "BellTrees$Shelf"))
def mi_B_plantFrom : bt_MI := (⟨"BellTrees", "plantFrom", "(LBellTrees$Shelf;II)Z"⟩, prog_1_method_41_code, 8, some .boolean)
def mi_B_bookRefusal : bt_MI := (⟨"BellTrees", "bookRefusal", "(LBellTrees$Shelf;IZ)I"⟩, prog_1_method_42_code, 5, some .int)
def mi_B_rowsRefusal : bt_MI := (⟨"BellTrees", "rowsRefusal", "(I)I"⟩, prog_1_method_43_code, 5, some .int)
def mi_B_walksRefusal : bt_MI := (⟨"BellTrees", "walksRefusal", "(I)I"⟩, prog_1_method_44_code, 4, some .int)
def mi_B_walkAndBookRefusal : bt_MI := (⟨"BellTrees", "walkAndBookRefusal", "(II)I"⟩, prog_1_method_45_code, 4, some .int)
def mi_B_placeRefusal : bt_MI := (⟨"BellTrees", "placeRefusal", "(LBellTrees$Shelf;I)I"⟩, prog_1_method_46_code, 3, some .int)
def mi_B_isWalk : bt_MI := (⟨"BellTrees", "isWalk", "(LBellTrees$Shelf;)Z"⟩, prog_1_method_47_code, 5, some .boolean)
def mi_B_bellsGone : bt_MI := (⟨"BellTrees", "bellsGone", "(LBellTrees$Shelf;LBellTrees$Shelf;)I"⟩, prog_1_method_48_code, 6, some .int)
def mi_B_firstNotSo : bt_MI := (⟨"BellTrees", "firstNotSo", "(LBellTrees$Shelf;LBellTrees$Shelf;I)I"⟩, prog_1_method_49_code, 6, some .int)
def mi_B_firstUnlike : bt_MI := (⟨"BellTrees", "firstUnlike", "(LBellTrees$Shelf;LBellTrees$Shelf;LBellTrees$Sounds;I)I"⟩, prog_1_method_50_code, 7, some .int)
def mi_B_areTold : bt_MI := (⟨"BellTrees", "areTold", "(II)Z"⟩, prog_1_method_51_code, 5, some .boolean)
def mi_B_hasSound : bt_MI := (⟨"BellTrees", "hasSound", "(LBellTrees$Shelf;I)Z"⟩, prog_1_method_52_code, 4, some .boolean)
def mi_B_drawWalkers : bt_MI := (⟨"BellTrees", "drawWalkers", "(III)I"⟩, prog_1_method_53_code, 12, some .int)
def mi_Fo_size : bt_MI := (⟨"BellTrees$Forest", "size", "()I"⟩, prog_4_method_2_code, 1, some .int)
def mi_Fo_joined : bt_MI := (⟨"BellTrees$Forest", "joined", "()I"⟩, prog_4_method_3_code, 1, some .int)
def mi_Fo_walked : bt_MI := (⟨"BellTrees$Forest", "walked", "()I"⟩, prog_4_method_4_code, 1, some .int)
def mi_Fo_has : bt_MI := (⟨"BellTrees$Forest", "has", "(I)Z"⟩, prog_4_method_5_code, 2, some .boolean)
def mi_Fo_all : bt_MI := (⟨"BellTrees$Forest", "all", "()I"⟩, prog_4_method_6_code, 1, some .int)
def mi_Fo_isSlot : bt_MI := (⟨"BellTrees$Forest", "isSlot", "(II)Z"⟩, prog_4_method_7_code, 3, some .boolean)
def mi_Fo_slots : bt_MI := (⟨"BellTrees$Forest", "slots", "(I)I"⟩, prog_4_method_8_code, 2, some .int)
def mi_Fo_mayBe : bt_MI := (⟨"BellTrees$Forest", "mayBe", "(II)Z"⟩, prog_4_method_9_code, 3, some .boolean)
def mi_Fo_get : bt_MI := (⟨"BellTrees$Forest", "get", "(II)I"⟩, prog_4_method_10_code, 3, some .int)
def mi_Fo_set : bt_MI := (⟨"BellTrees$Forest", "set", "(III)V"⟩, prog_4_method_11_code, 4, none)
def mi_Fo_plant : bt_MI := (⟨"BellTrees$Forest", "plant", "(III)I"⟩, prog_4_method_12_code, 5, some .int)
def mi_Fo_join : bt_MI := (⟨"BellTrees$Forest", "join", "(II)I"⟩, prog_4_method_13_code, 3, some .int)
def mi_Fo_around : bt_MI := (⟨"BellTrees$Forest", "around", "(I)I"⟩, prog_4_method_14_code, 2, some .int)
def mi_Fo_heardOf : bt_MI := (⟨"BellTrees$Forest", "heardOf", "(I)I"⟩, prog_4_method_15_code, 2, some .int)
def mi_Fo_setHeard : bt_MI := (⟨"BellTrees$Forest", "setHeard", "(II)V"⟩, prog_4_method_16_code, 3, none)
def mi_Fo_addHeard : bt_MI := (⟨"BellTrees$Forest", "addHeard", "(I)V"⟩, prog_4_method_17_code, 2, none)
def mi_Fo_setWalked : bt_MI := (⟨"BellTrees$Forest", "setWalked", "(I)V"⟩, prog_4_method_18_code, 2, none)
def mi_Fo_addWalk : bt_MI := (⟨"BellTrees$Forest", "addWalk", "()V"⟩, prog_4_method_19_code, 1, none)
def mi_Fo_farOf : bt_MI := (⟨"BellTrees$Forest", "farOf", "(I)I"⟩, prog_4_method_20_code, 2, some .int)
def mi_Fo_farMeasured : bt_MI := (⟨"BellTrees$Forest", "farMeasured", "(I)I"⟩, prog_4_method_21_code, 2, some .int)
def mi_Fo_measureFar : bt_MI := (⟨"BellTrees$Forest", "measureFar", "()V"⟩, prog_4_method_22_code, 7, none)
def mi_Fo_rings : bt_MI := (⟨"BellTrees$Forest", "rings", "(II)Z"⟩, prog_4_method_23_code, 3, some .boolean)
def mi_Fo_bellsThere : bt_MI := (⟨"BellTrees$Forest", "bellsThere", "()I"⟩, prog_4_method_24_code, 3, some .int)
def mi_Fo_fewestToTune : bt_MI := (⟨"BellTrees$Forest", "fewestToTune", "()I"⟩, prog_4_method_25_code, 3, some .int)
def mi_Fo_isUnlikeWithout : bt_MI := (⟨"BellTrees$Forest", "isUnlikeWithout", "(I)Z"⟩, prog_4_method_26_code, 5, some .boolean)
def mi_Fo_treeDrawn : bt_MI := (⟨"BellTrees$Forest", "treeDrawn", "(I)I"⟩, prog_4_method_27_code, 2, some .int)
def mi_Fo_stepDrawn : bt_MI := (⟨"BellTrees$Forest", "stepDrawn", "(II)I"⟩, prog_4_method_28_code, 5, some .int)
def mi_Fo_grow : bt_MI := (⟨"BellTrees$Forest", "grow", "(II)I"⟩, prog_4_method_29_code, 7, some .int)
def mi_La_bytes : bt_MI := (⟨"BellTrees$Law", "bytes", "()I"⟩, prog_6_method_2_code, 1, some .int)
def mi_La_take : bt_MI := (⟨"BellTrees$Law", "take", "(I)I"⟩, prog_6_method_3_code, 2, some .int)
def mi_La_read : bt_MI := (⟨"BellTrees$Law", "read", "()I"⟩, prog_6_method_4_code, 2, some .int)
def mi_La_next : bt_MI := (⟨"BellTrees$Law", "next", "()I"⟩, prog_6_method_5_code, 1, some .int)
def mi_La_note : bt_MI := (⟨"BellTrees$Law", "note", "(I)V"⟩, prog_6_method_6_code, 2, none)
def mi_La_readLines : bt_MI := (⟨"BellTrees$Law", "readLines", "()Z"⟩, prog_6_method_7_code, 2, some .boolean)
def mi_La_readLine : bt_MI := (⟨"BellTrees$Law", "readLine", "()Z"⟩, prog_6_method_8_code, 1, some .boolean)
def mi_La_levelOf : bt_MI := (⟨"BellTrees$Law", "levelOf", "(I)I"⟩, prog_6_method_9_code, 1, some .int)
def mi_La_readLevel : bt_MI := (⟨"BellTrees$Law", "readLevel", "(II)Z"⟩, prog_6_method_10_code, 6, some .boolean)
def mi_La_readOperand : bt_MI := (⟨"BellTrees$Law", "readOperand", "(I)Z"⟩, prog_6_method_11_code, 3, some .boolean)
def mi_La_readClosing : bt_MI := (⟨"BellTrees$Law", "readClosing", "()Z"⟩, prog_6_method_12_code, 1, some .boolean)
def mi_La_readNumber : bt_MI := (⟨"BellTrees$Law", "readNumber", "()V"⟩, prog_6_method_13_code, 3, none)
def mi_La_isName : bt_MI := (⟨"BellTrees$Law", "isName", "(I)Z"⟩, prog_6_method_14_code, 1, some .boolean)
def mi_La_ask : bt_MI := (⟨"BellTrees$Law", "ask", "(IIIII)V"⟩, prog_6_method_15_code, 6, none)
def mi_La_hears : bt_MI := (⟨"BellTrees$Law", "hears", "(I)Z"⟩, prog_6_method_16_code, 2, some .boolean)
def mi_La_workOut : bt_MI := (⟨"BellTrees$Law", "workOut", "()I"⟩, prog_6_method_17_code, 4, some .int)
def mi_La_valueBy : bt_MI := (⟨"BellTrees$Law", "valueBy", "(I)I"⟩, prog_6_method_18_code, 3, some .int)
def mi_La_named : bt_MI := (⟨"BellTrees$Law", "named", "(I)I"⟩, prog_6_method_19_code, 2, some .int)
def mi_La_joined : bt_MI := (⟨"BellTrees$Law", "joined", "(III)I"⟩, prog_6_method_20_code, 3, some .int)
def mi_La_push : bt_MI := (⟨"BellTrees$Law", "push", "(I)V"⟩, prog_6_method_21_code, 2, none)
def mi_La_pop : bt_MI := (⟨"BellTrees$Law", "pop", "()I"⟩, prog_6_method_22_code, 1, some .int)
def mi_So_fill : bt_MI := (⟨"BellTrees$Sounds", "fill", "(I)V"⟩, prog_8_method_2_code, 7, none)
def mi_So_isHeard : bt_MI := (⟨"BellTrees$Sounds", "isHeard", "(I)Z"⟩, prog_8_method_3_code, 2, some .boolean)
def mi_So_at : bt_MI := (⟨"BellTrees$Sounds", "at", "(II)I"⟩, prog_8_method_4_code, 3, some .int)
def mi_So_among : bt_MI := (⟨"BellTrees$Sounds", "among", "(III)I"⟩, prog_8_method_5_code, 4, some .int)
def mi_So_anywhere : bt_MI := (⟨"BellTrees$Sounds", "anywhere", "(II)Z"⟩, prog_8_method_6_code, 4, some .boolean)
def mi_Wa_countFitting : bt_MI := (⟨"BellTrees$Walks", "countFitting", "(LBellTrees$Sounds;LBellTrees$Shelf;)I"⟩, prog_9_method_2_code, 8, some .int)
def mi_Wa_ways : bt_MI := (⟨"BellTrees$Walks", "ways", "(II)I"⟩, prog_9_method_3_code, 5, some .int)
def mi_Wa_onwardAt : bt_MI := (⟨"BellTrees$Walks", "onwardAt", "(II)I"⟩, prog_9_method_4_code, 3, some .int)
def mi_Wa_firstAt : bt_MI := (⟨"BellTrees$Walks", "firstAt", "(I)I"⟩, prog_9_method_5_code, 5, some .int)
def mi_Wa_lowestOf : bt_MI := (⟨"BellTrees$Walks", "lowestOf", "(I)I"⟩, prog_9_method_6_code, 2, some .int)
def mi_Wa_possibleAt : bt_MI := (⟨"BellTrees$Walks", "possibleAt", "(I)I"⟩, prog_9_method_7_code, 6, some .int)
def mi_Wa_fittingOf : bt_MI := (⟨"BellTrees$Walks", "fittingOf", "(II)I"⟩, prog_9_method_8_code, 5, some .int)
def mi_Wa_measure : bt_MI := (⟨"BellTrees$Walks", "measure", "(LBellTrees$Sounds;III)V"⟩, prog_9_method_9_code, 9, none)
def mi_Wa_quietest : bt_MI := (⟨"BellTrees$Walks", "quietest", "(II)I"⟩, prog_9_method_10_code, 6, some .int)
def mi_Wa_fewestFrom : bt_MI := (⟨"BellTrees$Walks", "fewestFrom", "(II)I"⟩, prog_9_method_11_code, 4, some .int)
def mi_Wa_quietAt : bt_MI := (⟨"BellTrees$Walks", "quietAt", "(III)I"⟩, prog_9_method_12_code, 6, some .int)
def mi_Ch_revertible : bt_MI := (⟨"BellTrees$Changes", "revertible", "()I"⟩, prog_3_method_2_code, 1, some .int)
def mi_Ch_add : bt_MI := (⟨"BellTrees$Changes", "add", "(IIII)V"⟩, prog_3_method_3_code, 5, none)
def mi_Ch_dropOldest : bt_MI := (⟨"BellTrees$Changes", "dropOldest", "()V"⟩, prog_3_method_4_code, 1, none)
def mi_Ch_revert : bt_MI := (⟨"BellTrees$Changes", "revert", "(LBellTrees$Forest;)I"⟩, prog_3_method_5_code, 2, some .int)
def mi_Ch_repeat : bt_MI := (⟨"BellTrees$Changes", "repeat", "(LBellTrees$Forest;)I"⟩, prog_3_method_6_code, 2, some .int)
def mi_Im_draw : bt_MI := (⟨"BellTrees$Image", "draw", "(LBellTrees$Forest;)I"⟩, prog_5_method_2_code, 3, some .int)
def mi_Im_lay : bt_MI := (⟨"BellTrees$Image", "lay", "(LBellTrees$Forest;)I"⟩, prog_5_method_3_code, 3, some .int)
def mi_Bo_size : bt_MI := (⟨"BellTrees$Bodies", "size", "()I"⟩, prog_2_method_2_code, 1, some .int)
def mi_Bo_latestRuns : bt_MI := (⟨"BellTrees$Bodies", "latestRuns", "()I"⟩, prog_2_method_3_code, 1, some .int)
def mi_Bo_isKind : bt_MI := (⟨"BellTrees$Bodies", "isKind", "(I)Z"⟩, prog_2_method_4_code, 2, some .boolean)
def mi_Bo_kindOf : bt_MI := (⟨"BellTrees$Bodies", "kindOf", "(I)I"⟩, prog_2_method_5_code, 2, some .int)
def mi_Bo_isUnder : bt_MI := (⟨"BellTrees$Bodies", "isUnder", "(II)Z"⟩, prog_2_method_6_code, 5, some .boolean)
def mi_Bo_add : bt_MI := (⟨"BellTrees$Bodies", "add", "(I)I"⟩, prog_2_method_7_code, 2, some .int)
def mi_Bo_traced : bt_MI := (⟨"BellTrees$Bodies", "traced", "(I)I"⟩, prog_2_method_8_code, 2, some .int)
def mi_Bo_perform : bt_MI := (⟨"BellTrees$Bodies", "perform", "(III)I"⟩, prog_2_method_9_code, 4, some .int)
def mi_Bo_note : bt_MI := (⟨"BellTrees$Bodies", "note", "(I)V"⟩, prog_2_method_10_code, 2, none)
def mi_Bo_runOwn : bt_MI := (⟨"BellTrees$Bodies", "runOwn", "(III)I"⟩, prog_2_method_11_code, 4, some .int)
def mi_Bo_runAbove : bt_MI := (⟨"BellTrees$Bodies", "runAbove", "(IIII)I"⟩, prog_2_method_12_code, 5, some .int)
def mi_Bo_runFrom : bt_MI := (⟨"BellTrees$Bodies", "runFrom", "(IIII)I"⟩, prog_2_method_13_code, 8, some .int)
def mi_Bo_runBody : bt_MI := (⟨"BellTrees$Bodies", "runBody", "(IIII)I"⟩, prog_2_method_14_code, 5, some .int)
def mi_Sh_isEmpty : bt_MI := (⟨"BellTrees$Shelf", "isEmpty", "()Z"⟩, prog_7_method_2_code, 1, some .boolean)
def mi_Sh_isRow : bt_MI := (⟨"BellTrees$Shelf", "isRow", "()Z"⟩, prog_7_method_3_code, 1, some .boolean)
def mi_Sh_isBytes : bt_MI := (⟨"BellTrees$Shelf", "isBytes", "()Z"⟩, prog_7_method_4_code, 1, some .boolean)
def mi_Sh_isOfSortOf : bt_MI := (⟨"BellTrees$Shelf", "isOfSortOf", "(LBellTrees$Shelf;)Z"⟩, prog_7_method_5_code, 2, some .boolean)
def mi_Sh_bodyHeld : bt_MI := (⟨"BellTrees$Shelf", "bodyHeld", "()I"⟩, prog_7_method_6_code, 1, some .int)
def mi_Sh_holdBody : bt_MI := (⟨"BellTrees$Shelf", "holdBody", "(I)V"⟩, prog_7_method_7_code, 2, none)
def mi_Sh_holdRow : bt_MI := (⟨"BellTrees$Shelf", "holdRow", "(II)V"⟩, prog_7_method_8_code, 3, none)
def mi_Sh_hasPlaces : bt_MI := (⟨"BellTrees$Shelf", "hasPlaces", "(II)Z"⟩, prog_7_method_9_code, 3, some .boolean)
def mi_Sh_read : bt_MI := (⟨"BellTrees$Shelf", "read", "(I)J"⟩, prog_7_method_10_code, 2, some .long)
def mi_Sh_write : bt_MI := (⟨"BellTrees$Shelf", "write", "(IJ)V"⟩, prog_7_method_11_code, 4, none)
def mi_Sh_lowest : bt_MI := (⟨"BellTrees$Shelf", "lowest", "(J)J"⟩, prog_7_method_12_code, 3, some .long)
def mi_Sh_copy : bt_MI := (⟨"BellTrees$Shelf", "copy", "(ILBellTrees$Shelf;II)V"⟩, prog_7_method_13_code, 5, none)
def mi_Sh_minutes : bt_MI := (⟨"BellTrees$Shelf", "minutes", "()I"⟩, prog_7_method_14_code, 1, some .int)
def mi_Sh_at : bt_MI := (⟨"BellTrees$Shelf", "at", "(I)I"⟩, prog_7_method_15_code, 2, some .int)
def mi_M_in : bt_MI := (⟨"BellTreesModel", "in", "(III)Z"⟩, prog_11_method_3_code, 3, some .boolean)
def mi_M_bitsOf : bt_MI := (⟨"BellTreesModel", "bitsOf", "(I)I"⟩, prog_11_method_4_code, 3, some .int)
def mi_M_isTree : bt_MI := (⟨"BellTreesModel", "isTree", "(I)Z"⟩, prog_11_method_5_code, 2, some .boolean)
def mi_M_isSort : bt_MI := (⟨"BellTreesModel", "isSort", "(I)Z"⟩, prog_11_method_6_code, 1, some .boolean)
def mi_M_isMinute : bt_MI := (⟨"BellTreesModel", "isMinute", "(I)Z"⟩, prog_11_method_7_code, 1, some .boolean)
def mi_M_addTree : bt_MI := (⟨"BellTreesModel", "addTree", "(III)I"⟩, prog_11_method_8_code, 4, some .int)
def mi_M_tree : bt_MI := (⟨"BellTreesModel", "tree", "(I)I"⟩, prog_11_method_9_code, 2, some .int)
def mi_M_trees : bt_MI := (⟨"BellTreesModel", "trees", "(III)I"⟩, prog_11_method_10_code, 8, some .int)
def mi_M_areBeside : bt_MI := (⟨"BellTreesModel", "areBeside", "(II)Z"⟩, prog_11_method_11_code, 3, some .boolean)
def mi_M_path : bt_MI := (⟨"BellTreesModel", "path", "(I)I"⟩, prog_11_method_12_code, 2, some .int)
def mi_M_valueAt : bt_MI := (⟨"BellTreesModel", "valueAt", "(II)I"⟩, prog_11_method_13_code, 3, some .int)
def mi_M_lays : bt_MI := (⟨"BellTreesModel", "lays", "(III)V"⟩, prog_11_method_14_code, 4, none)
def mi_M_changes : bt_MI := (⟨"BellTreesModel", "changes", "(III)I"⟩, prog_11_method_15_code, 6, some .int)
def mi_M_undo : bt_MI := (⟨"BellTreesModel", "undo", "()I"⟩, prog_11_method_16_code, 1, some .int)
def mi_M_redo : bt_MI := (⟨"BellTreesModel", "redo", "()I"⟩, prog_11_method_17_code, 1, some .int)
def mi_M_isThing : bt_MI := (⟨"BellTreesModel", "isThing", "(II)Z"⟩, prog_11_method_18_code, 3, some .boolean)
def mi_M_mend : bt_MI := (⟨"BellTreesModel", "mend", "(III)I"⟩, prog_11_method_19_code, 4, some .int)
def mi_M_findFar : bt_MI := (⟨"BellTreesModel", "findFar", "()V"⟩, prog_11_method_20_code, 4, none)
def mi_M_of : bt_MI := (⟨"BellTreesModel", "of", "(II)I"⟩, prog_11_method_21_code, 3, some .int)
def mi_M_feed : bt_MI := (⟨"BellTreesModel", "feed", "(I)I"⟩, prog_11_method_22_code, 2, some .int)
def mi_M_look : bt_MI := (⟨"BellTreesModel", "look", "()I"⟩, prog_11_method_23_code, 1, some .int)
def mi_M_faulty : bt_MI := (⟨"BellTreesModel", "faulty", "()V"⟩, prog_11_method_24_code, 1, none)
def mi_M_addStep : bt_MI := (⟨"BellTreesModel", "addStep", "(II)V"⟩, prog_11_method_25_code, 3, none)
def mi_M_nameOf : bt_MI := (⟨"BellTreesModel", "nameOf", "(I)I"⟩, prog_11_method_26_code, 1, some .int)
def mi_M_opens : bt_MI := (⟨"BellTreesModel", "opens", "()Z"⟩, prog_11_method_27_code, 1, some .boolean)
def mi_M_figure : bt_MI := (⟨"BellTreesModel", "figure", "()V"⟩, prog_11_method_28_code, 3, none)
def mi_M_operand : bt_MI := (⟨"BellTreesModel", "operand", "()V"⟩, prog_11_method_29_code, 2, none)
def mi_M_product : bt_MI := (⟨"BellTreesModel", "product", "()V"⟩, prog_11_method_30_code, 2, none)
def mi_M_sum : bt_MI := (⟨"BellTreesModel", "sum", "()V"⟩, prog_11_method_31_code, 2, none)
def mi_M_compared : bt_MI := (⟨"BellTreesModel", "compared", "()V"⟩, prog_11_method_32_code, 2, none)
def mi_M_both : bt_MI := (⟨"BellTreesModel", "both", "()V"⟩, prog_11_method_33_code, 1, none)
def mi_M_either : bt_MI := (⟨"BellTreesModel", "either", "()V"⟩, prog_11_method_34_code, 1, none)
def mi_M_line : bt_MI := (⟨"BellTreesModel", "line", "()V"⟩, prog_11_method_35_code, 2, none)
def mi_M_readText : bt_MI := (⟨"BellTreesModel", "readText", "(I)I"⟩, prog_11_method_36_code, 3, some .int)
def mi_M_twoOf : bt_MI := (⟨"BellTreesModel", "twoOf", "(III)I"⟩, prog_11_method_37_code, 3, some .int)
def mi_M_worked : bt_MI := (⟨"BellTreesModel", "worked", "(III)I"⟩, prog_11_method_38_code, 7, some .int)
def mi_M_gives : bt_MI := (⟨"BellTreesModel", "gives", "(I)I"⟩, prog_11_method_39_code, 4, some .int)
def mi_M_law : bt_MI := (⟨"BellTreesModel", "law", "()I"⟩, prog_11_method_40_code, 2, some .int)
def mi_M_isHeard : bt_MI := (⟨"BellTreesModel", "isHeard", "(III)Z"⟩, prog_11_method_41_code, 4, some .boolean)
def mi_M_soundOf : bt_MI := (⟨"BellTreesModel", "soundOf", "(IIII)I"⟩, prog_11_method_42_code, 5, some .int)
def mi_M_every : bt_MI := (⟨"BellTreesModel", "every", "()I"⟩, prog_11_method_43_code, 0, some .int)
def mi_M_sound : bt_MI := (⟨"BellTreesModel", "sound", "(III)I"⟩, prog_11_method_44_code, 4, some .int)
def mi_M_rowFault : bt_MI := (⟨"BellTreesModel", "rowFault", "(I)I"⟩, prog_11_method_45_code, 2, some .int)
def mi_M_minutesOf : bt_MI := (⟨"BellTreesModel", "minutesOf", "(I)I"⟩, prog_11_method_46_code, 2, some .int)
def mi_M_told : bt_MI := (⟨"BellTreesModel", "told", "(II)J"⟩, prog_11_method_47_code, 3, some .long)
def mi_M_mayGo : bt_MI := (⟨"BellTreesModel", "mayGo", "(II)Z"⟩, prog_11_method_48_code, 3, some .boolean)
def mi_M_capped : bt_MI := (⟨"BellTreesModel", "capped", "(J)J"⟩, prog_11_method_49_code, 2, some .long)
def mi_M_findWalks : bt_MI := (⟨"BellTreesModel", "findWalks", "(II)V"⟩, prog_11_method_50_code, 9, none)
def mi_M_walksMany : bt_MI := (⟨"BellTreesModel", "walksMany", "(I)I"⟩, prog_11_method_51_code, 5, some .int)
def mi_M_fits : bt_MI := (⟨"BellTreesModel", "fits", "(II)I"⟩, prog_11_method_52_code, 7, some .int)
def mi_M_canBe : bt_MI := (⟨"BellTreesModel", "canBe", "(II)I"⟩, prog_11_method_53_code, 5, some .int)
def mi_M_canBeOf : bt_MI := (⟨"BellTreesModel", "canBeOf", "(IIJ)Z"⟩, prog_11_method_54_code, 6, some .boolean)
def mi_M_areSorts : bt_MI := (⟨"BellTreesModel", "areSorts", "(I)Z"⟩, prog_11_method_55_code, 1, some .boolean)
def mi_M_twoAtOnce : bt_MI := (⟨"BellTreesModel", "twoAtOnce", "(III)I"⟩, prog_11_method_56_code, 7, some .int)
def mi_M_soundIn : bt_MI := (⟨"BellTreesModel", "soundIn", "(III)I"⟩, prog_11_method_57_code, 4, some .int)
def mi_M_findLeast : bt_MI := (⟨"BellTreesModel", "findLeast", "(IIII)V"⟩, prog_11_method_58_code, 9, none)
def mi_M_least : bt_MI := (⟨"BellTreesModel", "least", "(III)I"⟩, prog_11_method_59_code, 10, some .int)
def mi_M_isWalk : bt_MI := (⟨"BellTreesModel", "isWalk", "(I)Z"⟩, prog_11_method_60_code, 3, some .boolean)
def mi_M_walkedSound : bt_MI := (⟨"BellTreesModel", "walkedSound", "(IIII)I"⟩, prog_11_method_61_code, 5, some .int)
def mi_M_areShelves : bt_MI := (⟨"BellTreesModel", "areShelves", "(I)Z"⟩, prog_11_method_62_code, 1, some .boolean)
def mi_M_rowsFault : bt_MI := (⟨"BellTreesModel", "rowsFault", "(I)I"⟩, prog_11_method_63_code, 2, some .int)
def mi_M_bothHave : bt_MI := (⟨"BellTreesModel", "bothHave", "(I)I"⟩, prog_11_method_64_code, 2, some .int)
def mi_M_gone : bt_MI := (⟨"BellTreesModel", "gone", "(II)I"⟩, prog_11_method_65_code, 9, some .int)
def mi_M_unlikeIn : bt_MI := (⟨"BellTreesModel", "unlikeIn", "(IIIII)I"⟩, prog_11_method_66_code, 7, some .int)
def mi_M_apart : bt_MI := (⟨"BellTreesModel", "apart", "(II)I"⟩, prog_11_method_67_code, 3, some .int)
def mi_M_hasSound : bt_MI := (⟨"BellTreesModel", "hasSound", "(III)Z"⟩, prog_11_method_68_code, 5, some .boolean)
def mi_M_areEnough : bt_MI := (⟨"BellTreesModel", "areEnough", "(III)Z"⟩, prog_11_method_69_code, 6, some .boolean)
def mi_M_walksFault : bt_MI := (⟨"BellTreesModel", "walksFault", "(I)I"⟩, prog_11_method_70_code, 3, some .int)
def mi_M_enough : bt_MI := (⟨"BellTreesModel", "enough", "(II)I"⟩, prog_11_method_71_code, 6, some .int)
def mi_M_isTuned : bt_MI := (⟨"BellTreesModel", "isTuned", "(I)Z"⟩, prog_11_method_72_code, 4, some .boolean)
def mi_M_tuned : bt_MI := (⟨"BellTreesModel", "tuned", "(I)I"⟩, prog_11_method_73_code, 4, some .int)
def mi_M_draw : bt_MI := (⟨"BellTreesModel", "draw", "(I)I"⟩, prog_11_method_74_code, 2, some .int)
def mi_M_neighbour : bt_MI := (⟨"BellTreesModel", "neighbour", "(II)I"⟩, prog_11_method_75_code, 5, some .int)
def mi_M_drawn : bt_MI := (⟨"BellTreesModel", "drawn", "(III)I"⟩, prog_11_method_76_code, 12, some .int)
def mi_M_years : bt_MI := (⟨"BellTreesModel", "years", "(II)I"⟩, prog_11_method_77_code, 6, some .int)
def mi_M_walk : bt_MI := (⟨"BellTreesModel", "walk", "(II)I"⟩, prog_11_method_78_code, 5, some .int)
def mi_M_judge : bt_MI := (⟨"BellTreesModel", "judge", "(II)I"⟩, prog_11_method_79_code, 4, some .int)
def mi_M_image : bt_MI := (⟨"BellTreesModel", "image", "()I"⟩, prog_11_method_80_code, 2, some .int)
def mi_M_back : bt_MI := (⟨"BellTreesModel", "back", "()I"⟩, prog_11_method_81_code, 2, some .int)
def mi_M_isBody : bt_MI := (⟨"BellTreesModel", "isBody", "(I)Z"⟩, prog_11_method_82_code, 2, some .boolean)
def mi_M_ran : bt_MI := (⟨"BellTreesModel", "ran", "(I)V"⟩, prog_11_method_83_code, 2, none)
def mi_M_trace : bt_MI := (⟨"BellTreesModel", "trace", "(I)I"⟩, prog_11_method_84_code, 2, some .int)
def mi_M_body : bt_MI := (⟨"BellTreesModel", "body", "(I)I"⟩, prog_11_method_85_code, 2, some .int)
def mi_M_isUnder : bt_MI := (⟨"BellTreesModel", "isUnder", "(II)Z"⟩, prog_11_method_86_code, 2, some .boolean)
def mi_M_plainRings : bt_MI := (⟨"BellTreesModel", "plainRings", "(II)I"⟩, prog_11_method_87_code, 3, some .int)
def mi_M_stolenRings : bt_MI := (⟨"BellTreesModel", "stolenRings", "(II)I"⟩, prog_11_method_88_code, 3, some .int)
def mi_M_ringing : bt_MI := (⟨"BellTreesModel", "ringing", "(II)I"⟩, prog_11_method_89_code, 3, some .int)
def mi_M_plainBrushes : bt_MI := (⟨"BellTreesModel", "plainBrushes", "(II)I"⟩, prog_11_method_90_code, 3, some .int)
def mi_M_gustBrushes : bt_MI := (⟨"BellTreesModel", "gustBrushes", "(II)I"⟩, prog_11_method_91_code, 3, some .int)
def mi_M_brushing : bt_MI := (⟨"BellTreesModel", "brushing", "(II)I"⟩, prog_11_method_92_code, 4, some .int)
def mi_M_plainHears : bt_MI := (⟨"BellTreesModel", "plainHears", "(II)I"⟩, prog_11_method_93_code, 3, some .int)
def mi_M_owlHears : bt_MI := (⟨"BellTreesModel", "owlHears", "(II)I"⟩, prog_11_method_94_code, 3, some .int)
def mi_M_hearing : bt_MI := (⟨"BellTreesModel", "hearing", "(II)I"⟩, prog_11_method_95_code, 4, some .int)
def mi_M_plainWrites : bt_MI := (⟨"BellTreesModel", "plainWrites", "(II)I"⟩, prog_11_method_96_code, 4, some .int)
def mi_M_writing : bt_MI := (⟨"BellTreesModel", "writing", "(II)I"⟩, prog_11_method_97_code, 3, some .int)
def mi_M_act : bt_MI := (⟨"BellTreesModel", "act", "(III)I"⟩, prog_11_method_98_code, 4, some .int)
def mi_M_count : bt_MI := (⟨"BellTreesModel", "count", "(I)I"⟩, prog_11_method_99_code, 2, some .int)
def mi_M_isShelf : bt_MI := (⟨"BellTreesModel", "isShelf", "(I)Z"⟩, prog_11_method_100_code, 1, some .boolean)
def mi_M_keep : bt_MI := (⟨"BellTreesModel", "keep", "(II)I"⟩, prog_11_method_101_code, 3, some .int)
def mi_M_row : bt_MI := (⟨"BellTreesModel", "row", "(III)I"⟩, prog_11_method_102_code, 5, some .int)
def mi_M_whyNoPlace : bt_MI := (⟨"BellTreesModel", "whyNoPlace", "(II)I"⟩, prog_11_method_103_code, 3, some .int)
def mi_M_put : bt_MI := (⟨"BellTreesModel", "put", "(IIJ)I"⟩, prog_11_method_104_code, 7, some .int)
def mi_M_element : bt_MI := (⟨"BellTreesModel", "element", "(II)J"⟩, prog_11_method_105_code, 3, some .long)
def mi_M_shift : bt_MI := (⟨"BellTreesModel", "shift", "(IIIII)I"⟩, prog_11_method_106_code, 7, some .int)
def mi_M_taken : bt_MI := (⟨"BellTreesModel", "taken", "(II)I"⟩, prog_11_method_107_code, 3, some .int)
def mi_X_law : bt_MI := (⟨"BellTreesLaw", "law", "([I)Z"⟩, code, 4, some .boolean)
theorem lk_JI_265 : Cond.constant "java/lang/Integer" 265 1431655765 ∈ bt_gw := bt_gin (bt_tin3 (List.mem_of_getElem? (i := 176) (by decide +kernel))) rfl
theorem lk_JI_266 : Cond.constant "java/lang/Integer" 266 858993459 ∈ bt_gw := bt_gin (bt_tin3 (List.mem_of_getElem? (i := 177) (by decide +kernel))) rfl
theorem lk_JI_267 : Cond.constant "java/lang/Integer" 267 252645135 ∈ bt_gw := bt_gin (bt_tin3 (List.mem_of_getElem? (i := 178) (by decide +kernel))) rfl
theorem lg_B_10 : bt_lkF "BellTrees" 10 0 0 false := ⟨bt_R0, bt_T0, 9, bt_ty0, rfl, rfl, bt_inG0, bt_tyok0, bt_nm0, rfl, bt_gin (bt_tin2 (List.mem_of_getElem? (i := 1) (by decide +kernel))) rfl, fun h => by cases h⟩
theorem vm_Fo_plant : bt_lkM mi_Fo_plant 3 := ⟨bt_gin (bt_tin2 (List.mem_of_getElem? (i := 36) (by decide +kernel))) rfl, bt_gin (bt_tin1 (List.mem_of_getElem? (i := 2) (by decide +kernel))) rfl, ⟨by decide +kernel, by decide +kernel, by decide +kernel⟩, by decide +kernel⟩
theorem vm_Fo_plant_k : Cond.instanceMethod mi_Fo_plant.1 ∈ bt_gw := bt_gin (bt_tin2 (List.mem_of_getElem? (i := 34) (by decide +kernel))) rfl
theorem vm_Fo_plant_s : Cond.selects mi_Fo_plant.1.cls mi_Fo_plant.1 mi_Fo_plant.1 ∈ bt_gw := bt_gin (bt_tin2 (List.mem_of_getElem? (i := 35) (by decide +kernel))) rfl
theorem bv_B_72 : bt_lkV "BellTrees" 72 mi_Fo_plant 4 1 := ⟨⟨3, bt_T1, 7, rfl, rfl, vm_Fo_plant⟩, bt_gin (bt_tin2 (List.mem_of_getElem? (i := 33) (by decide +kernel))) rfl, vm_Fo_plant_k, vm_Fo_plant_s⟩
theorem vm_B_shelfAt : bt_lkM mi_B_shelfAt 1 := ⟨bt_gin (bt_tin2 (List.mem_of_getElem? (i := 56) (by decide +kernel))) rfl, bt_gin (bt_tin1 (List.mem_of_getElem? (i := 1) (by decide +kernel))) rfl, ⟨by decide +kernel, by decide +kernel, by decide +kernel⟩, by decide +kernel⟩
theorem vm_B_shelfAt_k : Cond.instanceMethod mi_B_shelfAt.1 ∈ bt_gw := bt_gin (bt_tin2 (List.mem_of_getElem? (i := 55) (by decide +kernel))) rfl
theorem vm_B_shelfAt_s : Cond.selects mi_B_shelfAt.1.cls mi_B_shelfAt.1 mi_B_shelfAt.1 ∈ bt_gw := bt_gin (List.mem_of_getElem? (i := 1) (by decide +kernel)) rfl
theorem bv_B_76 : bt_lkV "BellTrees" 76 mi_B_shelfAt 2 0 := ⟨⟨1, bt_T0, 9, rfl, rfl, vm_B_shelfAt⟩, bt_gin (bt_tin2 (List.mem_of_getElem? (i := 53) (by decide +kernel))) rfl, vm_B_shelfAt_k, vm_B_shelfAt_s⟩
theorem vm_Sh_isEmpty : bt_lkM mi_Sh_isEmpty 0 := ⟨bt_gin (bt_tin2 (List.mem_of_getElem? (i := 60) (by decide +kernel))) rfl, bt_gin (bt_tin1 (List.mem_of_getElem? (i := 10) (by decide +kernel))) rfl, ⟨by decide +kernel, by decide +kernel, by decide +kernel⟩, by decide +kernel⟩
theorem vm_Sh_isEmpty_k : Cond.instanceMethod mi_Sh_isEmpty.1 ∈ bt_gw := bt_gin (bt_tin2 (List.mem_of_getElem? (i := 58) (by decide +kernel))) rfl
theorem vm_Sh_isEmpty_s : Cond.selects mi_Sh_isEmpty.1.cls mi_Sh_isEmpty.1 mi_Sh_isEmpty.1 ∈ bt_gw := bt_gin (bt_tin2 (List.mem_of_getElem? (i := 59) (by decide +kernel))) rfl
theorem bv_B_80 : bt_lkV "BellTrees" 80 mi_Sh_isEmpty 1 8 := ⟨⟨0, bt_T8, 4, rfl, rfl, vm_Sh_isEmpty⟩, bt_gin (bt_tin2 (List.mem_of_getElem? (i := 57) (by decide +kernel))) rfl, vm_Sh_isEmpty_k, vm_Sh_isEmpty_s⟩
theorem vm_Sh_isBytes : bt_lkM mi_Sh_isBytes 0 := ⟨bt_gin (bt_tin2 (List.mem_of_getElem? (i := 64) (by decide +kernel))) rfl, bt_gin (bt_tin1 (List.mem_of_getElem? (i := 10) (by decide +kernel))) rfl, ⟨by decide +kernel, by decide +kernel, by decide +kernel⟩, by decide +kernel⟩
theorem vm_Sh_isBytes_k : Cond.instanceMethod mi_Sh_isBytes.1 ∈ bt_gw := bt_gin (bt_tin2 (List.mem_of_getElem? (i := 62) (by decide +kernel))) rfl
theorem vm_Sh_isBytes_s : Cond.selects mi_Sh_isBytes.1.cls mi_Sh_isBytes.1 mi_Sh_isBytes.1 ∈ bt_gw := bt_gin (bt_tin2 (List.mem_of_getElem? (i := 63) (by decide +kernel))) rfl
theorem bv_B_84 : bt_lkV "BellTrees" 84 mi_Sh_isBytes 1 8 := ⟨⟨0, bt_T8, 4, rfl, rfl, vm_Sh_isBytes⟩, bt_gin (bt_tin2 (List.mem_of_getElem? (i := 61) (by decide +kernel))) rfl, vm_Sh_isBytes_k, vm_Sh_isBytes_s⟩
theorem vm_B_plantFrom : bt_lkM mi_B_plantFrom 3 := ⟨bt_gin (bt_tin2 (List.mem_of_getElem? (i := 68) (by decide +kernel))) rfl, bt_gin (bt_tin1 (List.mem_of_getElem? (i := 1) (by decide +kernel))) rfl, ⟨by decide +kernel, by decide +kernel, by decide +kernel⟩, by decide +kernel⟩
theorem vm_B_plantFrom_k : Cond.instanceMethod mi_B_plantFrom.1 ∈ bt_gw := bt_gin (bt_tin2 (List.mem_of_getElem? (i := 67) (by decide +kernel))) rfl
theorem vm_B_plantFrom_s : Cond.selects mi_B_plantFrom.1.cls mi_B_plantFrom.1 mi_B_plantFrom.1 ∈ bt_gw := bt_gin (List.mem_of_getElem? (i := 2) (by decide +kernel)) rfl
theorem bv_B_87 : bt_lkV "BellTrees" 87 mi_B_plantFrom 4 0 := ⟨⟨3, bt_T0, 9, rfl, rfl, vm_B_plantFrom⟩, bt_gin (bt_tin2 (List.mem_of_getElem? (i := 65) (by decide +kernel))) rfl, vm_B_plantFrom_k, vm_B_plantFrom_s⟩
theorem vm_Fo_join : bt_lkM mi_Fo_join 2 := ⟨bt_gin (bt_tin2 (List.mem_of_getElem? (i := 93) (by decide +kernel))) rfl, bt_gin (bt_tin1 (List.mem_of_getElem? (i := 2) (by decide +kernel))) rfl, ⟨by decide +kernel, by decide +kernel, by decide +kernel⟩, by decide +kernel⟩
theorem vm_Fo_join_k : Cond.instanceMethod mi_Fo_join.1 ∈ bt_gw := bt_gin (bt_tin2 (List.mem_of_getElem? (i := 91) (by decide +kernel))) rfl
theorem vm_Fo_join_s : Cond.selects mi_Fo_join.1.cls mi_Fo_join.1 mi_Fo_join.1 ∈ bt_gw := bt_gin (bt_tin2 (List.mem_of_getElem? (i := 92) (by decide +kernel))) rfl
theorem bv_B_91 : bt_lkV "BellTrees" 91 mi_Fo_join 3 1 := ⟨⟨2, bt_T1, 7, rfl, rfl, vm_Fo_join⟩, bt_gin (bt_tin2 (List.mem_of_getElem? (i := 90) (by decide +kernel))) rfl, vm_Fo_join_k, vm_Fo_join_s⟩
theorem vm_Fo_isSlot : bt_lkM mi_Fo_isSlot 2 := ⟨bt_gin (bt_tin2 (List.mem_of_getElem? (i := 44) (by decide +kernel))) rfl, bt_gin (bt_tin1 (List.mem_of_getElem? (i := 2) (by decide +kernel))) rfl, ⟨by decide +kernel, by decide +kernel, by decide +kernel⟩, by decide +kernel⟩
theorem vm_Fo_isSlot_k : Cond.instanceMethod mi_Fo_isSlot.1 ∈ bt_gw := bt_gin (bt_tin2 (List.mem_of_getElem? (i := 42) (by decide +kernel))) rfl
theorem vm_Fo_isSlot_s : Cond.selects mi_Fo_isSlot.1.cls mi_Fo_isSlot.1 mi_Fo_isSlot.1 ∈ bt_gw := bt_gin (bt_tin2 (List.mem_of_getElem? (i := 43) (by decide +kernel))) rfl
theorem bv_B_95 : bt_lkV "BellTrees" 95 mi_Fo_isSlot 3 1 := ⟨⟨2, bt_T1, 7, rfl, rfl, vm_Fo_isSlot⟩, bt_gin (bt_tin2 (List.mem_of_getElem? (i := 102) (by decide +kernel))) rfl, vm_Fo_isSlot_k, vm_Fo_isSlot_s⟩
theorem vm_Fo_mayBe : bt_lkM mi_Fo_mayBe 2 := ⟨bt_gin (bt_tin2 (List.mem_of_getElem? (i := 85) (by decide +kernel))) rfl, bt_gin (bt_tin1 (List.mem_of_getElem? (i := 2) (by decide +kernel))) rfl, ⟨by decide +kernel, by decide +kernel, by decide +kernel⟩, by decide +kernel⟩
theorem vm_Fo_mayBe_k : Cond.instanceMethod mi_Fo_mayBe.1 ∈ bt_gw := bt_gin (bt_tin2 (List.mem_of_getElem? (i := 83) (by decide +kernel))) rfl
theorem vm_Fo_mayBe_s : Cond.selects mi_Fo_mayBe.1.cls mi_Fo_mayBe.1 mi_Fo_mayBe.1 ∈ bt_gw := bt_gin (bt_tin2 (List.mem_of_getElem? (i := 84) (by decide +kernel))) rfl
theorem bv_B_99 : bt_lkV "BellTrees" 99 mi_Fo_mayBe 3 1 := ⟨⟨2, bt_T1, 7, rfl, rfl, vm_Fo_mayBe⟩, bt_gin (bt_tin2 (List.mem_of_getElem? (i := 82) (by decide +kernel))) rfl, vm_Fo_mayBe_k, vm_Fo_mayBe_s⟩
theorem vm_Fo_get : bt_lkM mi_Fo_get 2 := ⟨bt_gin (bt_tin2 (List.mem_of_getElem? (i := 106) (by decide +kernel))) rfl, bt_gin (bt_tin1 (List.mem_of_getElem? (i := 2) (by decide +kernel))) rfl, ⟨by decide +kernel, by decide +kernel, by decide +kernel⟩, by decide +kernel⟩
theorem vm_Fo_get_k : Cond.instanceMethod mi_Fo_get.1 ∈ bt_gw := bt_gin (bt_tin2 (List.mem_of_getElem? (i := 104) (by decide +kernel))) rfl
theorem vm_Fo_get_s : Cond.selects mi_Fo_get.1.cls mi_Fo_get.1 mi_Fo_get.1 ∈ bt_gw := bt_gin (bt_tin2 (List.mem_of_getElem? (i := 105) (by decide +kernel))) rfl
theorem bv_B_102 : bt_lkV "BellTrees" 102 mi_Fo_get 3 1 := ⟨⟨2, bt_T1, 7, rfl, rfl, vm_Fo_get⟩, bt_gin (bt_tin2 (List.mem_of_getElem? (i := 103) (by decide +kernel))) rfl, vm_Fo_get_k, vm_Fo_get_s⟩
theorem vm_Fo_set : bt_lkM mi_Fo_set 3 := ⟨bt_gin (bt_tin2 (List.mem_of_getElem? (i := 40) (by decide +kernel))) rfl, bt_gin (bt_tin1 (List.mem_of_getElem? (i := 2) (by decide +kernel))) rfl, ⟨by decide +kernel, by decide +kernel, by decide +kernel⟩, by decide +kernel⟩
theorem vm_Fo_set_k : Cond.instanceMethod mi_Fo_set.1 ∈ bt_gw := bt_gin (bt_tin2 (List.mem_of_getElem? (i := 38) (by decide +kernel))) rfl
theorem vm_Fo_set_s : Cond.selects mi_Fo_set.1.cls mi_Fo_set.1 mi_Fo_set.1 ∈ bt_gw := bt_gin (bt_tin2 (List.mem_of_getElem? (i := 39) (by decide +kernel))) rfl
theorem bv_B_105 : bt_lkV "BellTrees" 105 mi_Fo_set 4 1 := ⟨⟨3, bt_T1, 7, rfl, rfl, vm_Fo_set⟩, bt_gin (bt_tin2 (List.mem_of_getElem? (i := 107) (by decide +kernel))) rfl, vm_Fo_set_k, vm_Fo_set_s⟩
theorem lg_B_47 : bt_lkF "BellTrees" 47 0 5 false := ⟨bt_R0, bt_T0, 9, bt_ty0, rfl, rfl, bt_inG0, bt_tyok0, bt_nm0, rfl, bt_gin (bt_tin2 (List.mem_of_getElem? (i := 6) (by decide +kernel))) rfl, fun h => by cases h⟩
theorem vm_Ch_add : bt_lkM mi_Ch_add 4 := ⟨bt_gin (bt_tin2 (List.mem_of_getElem? (i := 111) (by decide +kernel))) rfl, bt_gin (bt_tin1 (List.mem_of_getElem? (i := 7) (by decide +kernel))) rfl, ⟨by decide +kernel, by decide +kernel, by decide +kernel⟩, by decide +kernel⟩
theorem vm_Ch_add_k : Cond.instanceMethod mi_Ch_add.1 ∈ bt_gw := bt_gin (bt_tin2 (List.mem_of_getElem? (i := 109) (by decide +kernel))) rfl
theorem vm_Ch_add_s : Cond.selects mi_Ch_add.1.cls mi_Ch_add.1 mi_Ch_add.1 ∈ bt_gw := bt_gin (bt_tin2 (List.mem_of_getElem? (i := 110) (by decide +kernel))) rfl
theorem bv_B_109 : bt_lkV "BellTrees" 109 mi_Ch_add 5 5 := ⟨⟨4, bt_T5, 6, rfl, rfl, vm_Ch_add⟩, bt_gin (bt_tin2 (List.mem_of_getElem? (i := 108) (by decide +kernel))) rfl, vm_Ch_add_k, vm_Ch_add_s⟩
theorem vm_Fo_has : bt_lkM mi_Fo_has 1 := ⟨bt_gin (bt_tin2 (List.mem_of_getElem? (i := 97) (by decide +kernel))) rfl, bt_gin (bt_tin1 (List.mem_of_getElem? (i := 2) (by decide +kernel))) rfl, ⟨by decide +kernel, by decide +kernel, by decide +kernel⟩, by decide +kernel⟩
theorem vm_Fo_has_k : Cond.instanceMethod mi_Fo_has.1 ∈ bt_gw := bt_gin (bt_tin2 (List.mem_of_getElem? (i := 95) (by decide +kernel))) rfl
theorem vm_Fo_has_s : Cond.selects mi_Fo_has.1.cls mi_Fo_has.1 mi_Fo_has.1 ∈ bt_gw := bt_gin (bt_tin2 (List.mem_of_getElem? (i := 96) (by decide +kernel))) rfl
theorem bv_B_113 : bt_lkV "BellTrees" 113 mi_Fo_has 2 1 := ⟨⟨1, bt_T1, 7, rfl, rfl, vm_Fo_has⟩, bt_gin (bt_tin2 (List.mem_of_getElem? (i := 123) (by decide +kernel))) rfl, vm_Fo_has_k, vm_Fo_has_s⟩
theorem vm_Fo_farOf : bt_lkM mi_Fo_farOf 1 := ⟨bt_gin (bt_tin2 (List.mem_of_getElem? (i := 127) (by decide +kernel))) rfl, bt_gin (bt_tin1 (List.mem_of_getElem? (i := 2) (by decide +kernel))) rfl, ⟨by decide +kernel, by decide +kernel, by decide +kernel⟩, by decide +kernel⟩
theorem vm_Fo_farOf_k : Cond.instanceMethod mi_Fo_farOf.1 ∈ bt_gw := bt_gin (bt_tin2 (List.mem_of_getElem? (i := 125) (by decide +kernel))) rfl
theorem vm_Fo_farOf_s : Cond.selects mi_Fo_farOf.1.cls mi_Fo_farOf.1 mi_Fo_farOf.1 ∈ bt_gw := bt_gin (bt_tin2 (List.mem_of_getElem? (i := 126) (by decide +kernel))) rfl
theorem bv_B_117 : bt_lkV "BellTrees" 117 mi_Fo_farOf 2 1 := ⟨⟨1, bt_T1, 7, rfl, rfl, vm_Fo_farOf⟩, bt_gin (bt_tin2 (List.mem_of_getElem? (i := 124) (by decide +kernel))) rfl, vm_Fo_farOf_k, vm_Fo_farOf_s⟩
theorem vm_Fo_heardOf : bt_lkM mi_Fo_heardOf 1 := ⟨bt_gin (bt_tin2 (List.mem_of_getElem? (i := 140) (by decide +kernel))) rfl, bt_gin (bt_tin1 (List.mem_of_getElem? (i := 2) (by decide +kernel))) rfl, ⟨by decide +kernel, by decide +kernel, by decide +kernel⟩, by decide +kernel⟩
theorem vm_Fo_heardOf_k : Cond.instanceMethod mi_Fo_heardOf.1 ∈ bt_gw := bt_gin (bt_tin2 (List.mem_of_getElem? (i := 138) (by decide +kernel))) rfl
theorem vm_Fo_heardOf_s : Cond.selects mi_Fo_heardOf.1.cls mi_Fo_heardOf.1 mi_Fo_heardOf.1 ∈ bt_gw := bt_gin (bt_tin2 (List.mem_of_getElem? (i := 139) (by decide +kernel))) rfl
theorem bv_B_121 : bt_lkV "BellTrees" 121 mi_Fo_heardOf 2 1 := ⟨⟨1, bt_T1, 7, rfl, rfl, vm_Fo_heardOf⟩, bt_gin (bt_tin2 (List.mem_of_getElem? (i := 137) (by decide +kernel))) rfl, vm_Fo_heardOf_k, vm_Fo_heardOf_s⟩
theorem vm_Fo_walked : bt_lkM mi_Fo_walked 0 := ⟨bt_gin (bt_tin2 (List.mem_of_getElem? (i := 144) (by decide +kernel))) rfl, bt_gin (bt_tin1 (List.mem_of_getElem? (i := 2) (by decide +kernel))) rfl, ⟨by decide +kernel, by decide +kernel, by decide +kernel⟩, by decide +kernel⟩
theorem vm_Fo_walked_k : Cond.instanceMethod mi_Fo_walked.1 ∈ bt_gw := bt_gin (bt_tin2 (List.mem_of_getElem? (i := 142) (by decide +kernel))) rfl
theorem vm_Fo_walked_s : Cond.selects mi_Fo_walked.1.cls mi_Fo_walked.1 mi_Fo_walked.1 ∈ bt_gw := bt_gin (bt_tin2 (List.mem_of_getElem? (i := 143) (by decide +kernel))) rfl
theorem bv_B_124 : bt_lkV "BellTrees" 124 mi_Fo_walked 1 1 := ⟨⟨0, bt_T1, 7, rfl, rfl, vm_Fo_walked⟩, bt_gin (bt_tin2 (List.mem_of_getElem? (i := 141) (by decide +kernel))) rfl, vm_Fo_walked_k, vm_Fo_walked_s⟩
theorem lg_B_19 : bt_lkF "BellTrees" 19 0 1 false := ⟨bt_R0, bt_T0, 9, bt_ty0, rfl, rfl, bt_inG0, bt_tyok0, bt_nm0, rfl, bt_gin (bt_tin2 (List.mem_of_getElem? (i := 2) (by decide +kernel))) rfl, fun h => by cases h⟩
theorem vm_La_take : bt_lkM mi_La_take 1 := ⟨bt_gin (bt_tin2 (List.mem_of_getElem? (i := 152) (by decide +kernel))) rfl, bt_gin (bt_tin1 (List.mem_of_getElem? (i := 4) (by decide +kernel))) rfl, ⟨by decide +kernel, by decide +kernel, by decide +kernel⟩, by decide +kernel⟩
theorem vm_La_take_k : Cond.instanceMethod mi_La_take.1 ∈ bt_gw := bt_gin (bt_tin2 (List.mem_of_getElem? (i := 150) (by decide +kernel))) rfl
theorem vm_La_take_s : Cond.selects mi_La_take.1.cls mi_La_take.1 mi_La_take.1 ∈ bt_gw := bt_gin (bt_tin2 (List.mem_of_getElem? (i := 151) (by decide +kernel))) rfl
theorem bv_B_128 : bt_lkV "BellTrees" 128 mi_La_take 2 2 := ⟨⟨1, bt_T2, 15, rfl, rfl, vm_La_take⟩, bt_gin (bt_tin2 (List.mem_of_getElem? (i := 149) (by decide +kernel))) rfl, vm_La_take_k, vm_La_take_s⟩
theorem vm_La_read : bt_lkM mi_La_read 0 := ⟨bt_gin (bt_tin2 (List.mem_of_getElem? (i := 160) (by decide +kernel))) rfl, bt_gin (bt_tin1 (List.mem_of_getElem? (i := 4) (by decide +kernel))) rfl, ⟨by decide +kernel, by decide +kernel, by decide +kernel⟩, by decide +kernel⟩
theorem vm_La_read_k : Cond.instanceMethod mi_La_read.1 ∈ bt_gw := bt_gin (bt_tin2 (List.mem_of_getElem? (i := 158) (by decide +kernel))) rfl
theorem vm_La_read_s : Cond.selects mi_La_read.1.cls mi_La_read.1 mi_La_read.1 ∈ bt_gw := bt_gin (bt_tin2 (List.mem_of_getElem? (i := 159) (by decide +kernel))) rfl
theorem bv_B_131 : bt_lkV "BellTrees" 131 mi_La_read 1 2 := ⟨⟨0, bt_T2, 15, rfl, rfl, vm_La_read⟩, bt_gin (bt_tin2 (List.mem_of_getElem? (i := 157) (by decide +kernel))) rfl, vm_La_read_k, vm_La_read_s⟩
theorem vm_B_isSort : bt_lkM mi_B_isSort 1 := ⟨bt_gin (bt_tin2 (List.mem_of_getElem? (i := 206) (by decide +kernel))) rfl, bt_gin (bt_tin1 (List.mem_of_getElem? (i := 1) (by decide +kernel))) rfl, ⟨by decide +kernel, by decide +kernel, by decide +kernel⟩, by decide +kernel⟩
theorem vm_B_isSort_k : Cond.static mi_B_isSort.1 ∈ bt_gw := bt_gin (bt_tin2 (List.mem_of_getElem? (i := 205) (by decide +kernel))) rfl
theorem bs_B_134 : bt_lkS "BellTrees" 134 mi_B_isSort 1 := ⟨vm_B_isSort, Or.inl (bt_gin (bt_tin2 (List.mem_of_getElem? (i := 204) (by decide +kernel))) rfl), vm_B_isSort_k⟩
theorem vm_B_isMinute : bt_lkM mi_B_isMinute 1 := ⟨bt_gin (bt_tin2 (List.mem_of_getElem? (i := 209) (by decide +kernel))) rfl, bt_gin (bt_tin1 (List.mem_of_getElem? (i := 1) (by decide +kernel))) rfl, ⟨by decide +kernel, by decide +kernel, by decide +kernel⟩, by decide +kernel⟩
theorem vm_B_isMinute_k : Cond.static mi_B_isMinute.1 ∈ bt_gw := bt_gin (bt_tin2 (List.mem_of_getElem? (i := 208) (by decide +kernel))) rfl
theorem bs_B_137 : bt_lkS "BellTrees" 137 mi_B_isMinute 1 := ⟨vm_B_isMinute, Or.inl (bt_gin (bt_tin2 (List.mem_of_getElem? (i := 207) (by decide +kernel))) rfl), vm_B_isMinute_k⟩
theorem lk_B_140 : Cond.constant "BellTrees" 140 (-2000000000) ∈ bt_gw := bt_gin (bt_tin2 (List.mem_of_getElem? (i := 210) (by decide +kernel))) rfl
theorem lg_B_28 : bt_lkF "BellTrees" 28 0 2 false := ⟨bt_R0, bt_T0, 9, bt_ty0, rfl, rfl, bt_inG0, bt_tyok0, bt_nm0, rfl, bt_gin (bt_tin2 (List.mem_of_getElem? (i := 3) (by decide +kernel))) rfl, fun h => by cases h⟩
theorem vm_So_fill : bt_lkM mi_So_fill 1 := ⟨bt_gin (bt_tin2 (List.mem_of_getElem? (i := 214) (by decide +kernel))) rfl, bt_gin (bt_tin1 (List.mem_of_getElem? (i := 5) (by decide +kernel))) rfl, ⟨by decide +kernel, by decide +kernel, by decide +kernel⟩, by decide +kernel⟩
theorem vm_So_fill_k : Cond.instanceMethod mi_So_fill.1 ∈ bt_gw := bt_gin (bt_tin2 (List.mem_of_getElem? (i := 212) (by decide +kernel))) rfl
theorem vm_So_fill_s : Cond.selects mi_So_fill.1.cls mi_So_fill.1 mi_So_fill.1 ∈ bt_gw := bt_gin (bt_tin2 (List.mem_of_getElem? (i := 213) (by decide +kernel))) rfl
theorem bv_B_141 : bt_lkV "BellTrees" 141 mi_So_fill 2 3 := ⟨⟨1, bt_T3, 4, rfl, rfl, vm_So_fill⟩, bt_gin (bt_tin2 (List.mem_of_getElem? (i := 211) (by decide +kernel))) rfl, vm_So_fill_k, vm_So_fill_s⟩
theorem vm_So_at : bt_lkM mi_So_at 2 := ⟨bt_gin (bt_tin3 (List.mem_of_getElem? (i := 22) (by decide +kernel))) rfl, bt_gin (bt_tin1 (List.mem_of_getElem? (i := 5) (by decide +kernel))) rfl, ⟨by decide +kernel, by decide +kernel, by decide +kernel⟩, by decide +kernel⟩
theorem vm_So_at_k : Cond.instanceMethod mi_So_at.1 ∈ bt_gw := bt_gin (bt_tin3 (List.mem_of_getElem? (i := 20) (by decide +kernel))) rfl
theorem vm_So_at_s : Cond.selects mi_So_at.1.cls mi_So_at.1 mi_So_at.1 ∈ bt_gw := bt_gin (bt_tin3 (List.mem_of_getElem? (i := 21) (by decide +kernel))) rfl
theorem bv_B_145 : bt_lkV "BellTrees" 145 mi_So_at 3 3 := ⟨⟨2, bt_T3, 4, rfl, rfl, vm_So_at⟩, bt_gin (bt_tin3 (List.mem_of_getElem? (i := 19) (by decide +kernel))) rfl, vm_So_at_k, vm_So_at_s⟩
theorem vm_B_bookRefusal : bt_lkM mi_B_bookRefusal 3 := ⟨bt_gin (bt_tin3 (List.mem_of_getElem? (i := 31) (by decide +kernel))) rfl, bt_gin (bt_tin1 (List.mem_of_getElem? (i := 1) (by decide +kernel))) rfl, ⟨by decide +kernel, by decide +kernel, by decide +kernel⟩, by decide +kernel⟩
theorem vm_B_bookRefusal_k : Cond.instanceMethod mi_B_bookRefusal.1 ∈ bt_gw := bt_gin (bt_tin3 (List.mem_of_getElem? (i := 30) (by decide +kernel))) rfl
theorem vm_B_bookRefusal_s : Cond.selects mi_B_bookRefusal.1.cls mi_B_bookRefusal.1 mi_B_bookRefusal.1 ∈ bt_gw := bt_gin (List.mem_of_getElem? (i := 18) (by decide +kernel)) rfl
theorem bv_B_148 : bt_lkV "BellTrees" 148 mi_B_bookRefusal 4 0 := ⟨⟨3, bt_T0, 9, rfl, rfl, vm_B_bookRefusal⟩, bt_gin (bt_tin3 (List.mem_of_getElem? (i := 28) (by decide +kernel))) rfl, vm_B_bookRefusal_k, vm_B_bookRefusal_s⟩
theorem lg_B_40 : bt_lkF "BellTrees" 40 0 4 false := ⟨bt_R0, bt_T0, 9, bt_ty0, rfl, rfl, bt_inG0, bt_tyok0, bt_nm0, rfl, bt_gin (bt_tin2 (List.mem_of_getElem? (i := 5) (by decide +kernel))) rfl, fun h => by cases h⟩
theorem vm_Wa_countFitting : bt_lkM mi_Wa_countFitting 2 := ⟨bt_gin (bt_tin3 (List.mem_of_getElem? (i := 42) (by decide +kernel))) rfl, bt_gin (bt_tin1 (List.mem_of_getElem? (i := 6) (by decide +kernel))) rfl, ⟨by decide +kernel, by decide +kernel, by decide +kernel⟩, by decide +kernel⟩
theorem vm_Wa_countFitting_k : Cond.instanceMethod mi_Wa_countFitting.1 ∈ bt_gw := bt_gin (bt_tin3 (List.mem_of_getElem? (i := 40) (by decide +kernel))) rfl
theorem vm_Wa_countFitting_s : Cond.selects mi_Wa_countFitting.1.cls mi_Wa_countFitting.1 mi_Wa_countFitting.1 ∈ bt_gw := bt_gin (bt_tin3 (List.mem_of_getElem? (i := 41) (by decide +kernel))) rfl
theorem bv_B_152 : bt_lkV "BellTrees" 152 mi_Wa_countFitting 3 4 := ⟨⟨2, bt_T4, 2, rfl, rfl, vm_Wa_countFitting⟩, bt_gin (bt_tin3 (List.mem_of_getElem? (i := 39) (by decide +kernel))) rfl, vm_Wa_countFitting_k, vm_Wa_countFitting_s⟩
theorem vm_Wa_firstAt : bt_lkM mi_Wa_firstAt 1 := ⟨bt_gin (bt_tin3 (List.mem_of_getElem? (i := 73) (by decide +kernel))) rfl, bt_gin (bt_tin1 (List.mem_of_getElem? (i := 6) (by decide +kernel))) rfl, ⟨by decide +kernel, by decide +kernel, by decide +kernel⟩, by decide +kernel⟩
theorem vm_Wa_firstAt_k : Cond.instanceMethod mi_Wa_firstAt.1 ∈ bt_gw := bt_gin (bt_tin3 (List.mem_of_getElem? (i := 71) (by decide +kernel))) rfl
theorem vm_Wa_firstAt_s : Cond.selects mi_Wa_firstAt.1.cls mi_Wa_firstAt.1 mi_Wa_firstAt.1 ∈ bt_gw := bt_gin (bt_tin3 (List.mem_of_getElem? (i := 72) (by decide +kernel))) rfl
theorem bv_B_156 : bt_lkV "BellTrees" 156 mi_Wa_firstAt 2 4 := ⟨⟨1, bt_T4, 2, rfl, rfl, vm_Wa_firstAt⟩, bt_gin (bt_tin3 (List.mem_of_getElem? (i := 70) (by decide +kernel))) rfl, vm_Wa_firstAt_k, vm_Wa_firstAt_s⟩
theorem vm_Wa_possibleAt : bt_lkM mi_Wa_possibleAt 1 := ⟨bt_gin (bt_tin3 (List.mem_of_getElem? (i := 88) (by decide +kernel))) rfl, bt_gin (bt_tin1 (List.mem_of_getElem? (i := 6) (by decide +kernel))) rfl, ⟨by decide +kernel, by decide +kernel, by decide +kernel⟩, by decide +kernel⟩
theorem vm_Wa_possibleAt_k : Cond.instanceMethod mi_Wa_possibleAt.1 ∈ bt_gw := bt_gin (bt_tin3 (List.mem_of_getElem? (i := 86) (by decide +kernel))) rfl
theorem vm_Wa_possibleAt_s : Cond.selects mi_Wa_possibleAt.1.cls mi_Wa_possibleAt.1 mi_Wa_possibleAt.1 ∈ bt_gw := bt_gin (bt_tin3 (List.mem_of_getElem? (i := 87) (by decide +kernel))) rfl
theorem bv_B_159 : bt_lkV "BellTrees" 159 mi_Wa_possibleAt 2 4 := ⟨⟨1, bt_T4, 2, rfl, rfl, vm_Wa_possibleAt⟩, bt_gin (bt_tin3 (List.mem_of_getElem? (i := 85) (by decide +kernel))) rfl, vm_Wa_possibleAt_k, vm_Wa_possibleAt_s⟩
theorem vm_B_isPair : bt_lkM mi_B_isPair 2 := ⟨bt_gin (bt_tin3 (List.mem_of_getElem? (i := 95) (by decide +kernel))) rfl, bt_gin (bt_tin1 (List.mem_of_getElem? (i := 1) (by decide +kernel))) rfl, ⟨by decide +kernel, by decide +kernel, by decide +kernel⟩, by decide +kernel⟩
theorem vm_B_isPair_k : Cond.static mi_B_isPair.1 ∈ bt_gw := bt_gin (bt_tin3 (List.mem_of_getElem? (i := 94) (by decide +kernel))) rfl
theorem bs_B_162 : bt_lkS "BellTrees" 162 mi_B_isPair 2 := ⟨vm_B_isPair, Or.inl (bt_gin (bt_tin3 (List.mem_of_getElem? (i := 93) (by decide +kernel))) rfl), vm_B_isPair_k⟩
theorem vm_B_rowsRefusal : bt_lkM mi_B_rowsRefusal 1 := ⟨bt_gin (bt_tin3 (List.mem_of_getElem? (i := 99) (by decide +kernel))) rfl, bt_gin (bt_tin1 (List.mem_of_getElem? (i := 1) (by decide +kernel))) rfl, ⟨by decide +kernel, by decide +kernel, by decide +kernel⟩, by decide +kernel⟩
theorem vm_B_rowsRefusal_k : Cond.instanceMethod mi_B_rowsRefusal.1 ∈ bt_gw := bt_gin (bt_tin3 (List.mem_of_getElem? (i := 98) (by decide +kernel))) rfl
theorem vm_B_rowsRefusal_s : Cond.selects mi_B_rowsRefusal.1.cls mi_B_rowsRefusal.1 mi_B_rowsRefusal.1 ∈ bt_gw := bt_gin (List.mem_of_getElem? (i := 22) (by decide +kernel)) rfl
theorem bv_B_165 : bt_lkV "BellTrees" 165 mi_B_rowsRefusal 2 0 := ⟨⟨1, bt_T0, 9, rfl, rfl, vm_B_rowsRefusal⟩, bt_gin (bt_tin3 (List.mem_of_getElem? (i := 96) (by decide +kernel))) rfl, vm_B_rowsRefusal_k, vm_B_rowsRefusal_s⟩
theorem lg_B_32 : bt_lkF "BellTrees" 32 0 3 false := ⟨bt_R0, bt_T0, 9, bt_ty0, rfl, rfl, bt_inG0, bt_tyok0, bt_nm0, rfl, bt_gin (bt_tin2 (List.mem_of_getElem? (i := 4) (by decide +kernel))) rfl, fun h => by cases h⟩
theorem vm_Sh_minutes : bt_lkM mi_Sh_minutes 0 := ⟨bt_gin (bt_tin3 (List.mem_of_getElem? (i := 35) (by decide +kernel))) rfl, bt_gin (bt_tin1 (List.mem_of_getElem? (i := 10) (by decide +kernel))) rfl, ⟨by decide +kernel, by decide +kernel, by decide +kernel⟩, by decide +kernel⟩
theorem vm_Sh_minutes_k : Cond.instanceMethod mi_Sh_minutes.1 ∈ bt_gw := bt_gin (bt_tin3 (List.mem_of_getElem? (i := 33) (by decide +kernel))) rfl
theorem vm_Sh_minutes_s : Cond.selects mi_Sh_minutes.1.cls mi_Sh_minutes.1 mi_Sh_minutes.1 ∈ bt_gw := bt_gin (bt_tin3 (List.mem_of_getElem? (i := 34) (by decide +kernel))) rfl
theorem bv_B_168 : bt_lkV "BellTrees" 168 mi_Sh_minutes 1 8 := ⟨⟨0, bt_T8, 4, rfl, rfl, vm_Sh_minutes⟩, bt_gin (bt_tin3 (List.mem_of_getElem? (i := 32) (by decide +kernel))) rfl, vm_Sh_minutes_k, vm_Sh_minutes_s⟩
theorem vm_Sh_at : bt_lkM mi_Sh_at 1 := ⟨bt_gin (bt_tin2 (List.mem_of_getElem? (i := 76) (by decide +kernel))) rfl, bt_gin (bt_tin1 (List.mem_of_getElem? (i := 10) (by decide +kernel))) rfl, ⟨by decide +kernel, by decide +kernel, by decide +kernel⟩, by decide +kernel⟩
theorem vm_Sh_at_k : Cond.instanceMethod mi_Sh_at.1 ∈ bt_gw := bt_gin (bt_tin2 (List.mem_of_getElem? (i := 74) (by decide +kernel))) rfl
theorem vm_Sh_at_s : Cond.selects mi_Sh_at.1.cls mi_Sh_at.1 mi_Sh_at.1 ∈ bt_gw := bt_gin (bt_tin2 (List.mem_of_getElem? (i := 75) (by decide +kernel))) rfl
theorem bv_B_171 : bt_lkV "BellTrees" 171 mi_Sh_at 2 8 := ⟨⟨1, bt_T8, 4, rfl, rfl, vm_Sh_at⟩, bt_gin (bt_tin2 (List.mem_of_getElem? (i := 73) (by decide +kernel))) rfl, vm_Sh_at_k, vm_Sh_at_s⟩
theorem vm_So_anywhere : bt_lkM mi_So_anywhere 2 := ⟨bt_gin (bt_tin3 (List.mem_of_getElem? (i := 103) (by decide +kernel))) rfl, bt_gin (bt_tin1 (List.mem_of_getElem? (i := 5) (by decide +kernel))) rfl, ⟨by decide +kernel, by decide +kernel, by decide +kernel⟩, by decide +kernel⟩
theorem vm_So_anywhere_k : Cond.instanceMethod mi_So_anywhere.1 ∈ bt_gw := bt_gin (bt_tin3 (List.mem_of_getElem? (i := 101) (by decide +kernel))) rfl
theorem vm_So_anywhere_s : Cond.selects mi_So_anywhere.1.cls mi_So_anywhere.1 mi_So_anywhere.1 ∈ bt_gw := bt_gin (bt_tin3 (List.mem_of_getElem? (i := 102) (by decide +kernel))) rfl
theorem bv_B_173 : bt_lkV "BellTrees" 173 mi_So_anywhere 3 3 := ⟨⟨2, bt_T3, 4, rfl, rfl, vm_So_anywhere⟩, bt_gin (bt_tin3 (List.mem_of_getElem? (i := 100) (by decide +kernel))) rfl, vm_So_anywhere_k, vm_So_anywhere_s⟩
theorem vm_Wa_measure : bt_lkM mi_Wa_measure 4 := ⟨bt_gin (bt_tin3 (List.mem_of_getElem? (i := 113) (by decide +kernel))) rfl, bt_gin (bt_tin1 (List.mem_of_getElem? (i := 6) (by decide +kernel))) rfl, ⟨by decide +kernel, by decide +kernel, by decide +kernel⟩, by decide +kernel⟩
theorem vm_Wa_measure_k : Cond.instanceMethod mi_Wa_measure.1 ∈ bt_gw := bt_gin (bt_tin3 (List.mem_of_getElem? (i := 111) (by decide +kernel))) rfl
theorem vm_Wa_measure_s : Cond.selects mi_Wa_measure.1.cls mi_Wa_measure.1 mi_Wa_measure.1 ∈ bt_gw := bt_gin (bt_tin3 (List.mem_of_getElem? (i := 112) (by decide +kernel))) rfl
theorem bv_B_176 : bt_lkV "BellTrees" 176 mi_Wa_measure 5 4 := ⟨⟨4, bt_T4, 2, rfl, rfl, vm_Wa_measure⟩, bt_gin (bt_tin3 (List.mem_of_getElem? (i := 110) (by decide +kernel))) rfl, vm_Wa_measure_k, vm_Wa_measure_s⟩
theorem vm_Wa_fewestFrom : bt_lkM mi_Wa_fewestFrom 2 := ⟨bt_gin (bt_tin3 (List.mem_of_getElem? (i := 121) (by decide +kernel))) rfl, bt_gin (bt_tin1 (List.mem_of_getElem? (i := 6) (by decide +kernel))) rfl, ⟨by decide +kernel, by decide +kernel, by decide +kernel⟩, by decide +kernel⟩
theorem vm_Wa_fewestFrom_k : Cond.instanceMethod mi_Wa_fewestFrom.1 ∈ bt_gw := bt_gin (bt_tin3 (List.mem_of_getElem? (i := 119) (by decide +kernel))) rfl
theorem vm_Wa_fewestFrom_s : Cond.selects mi_Wa_fewestFrom.1.cls mi_Wa_fewestFrom.1 mi_Wa_fewestFrom.1 ∈ bt_gw := bt_gin (bt_tin3 (List.mem_of_getElem? (i := 120) (by decide +kernel))) rfl
theorem bv_B_180 : bt_lkV "BellTrees" 180 mi_Wa_fewestFrom 3 4 := ⟨⟨2, bt_T4, 2, rfl, rfl, vm_Wa_fewestFrom⟩, bt_gin (bt_tin3 (List.mem_of_getElem? (i := 118) (by decide +kernel))) rfl, vm_Wa_fewestFrom_k, vm_Wa_fewestFrom_s⟩
theorem vm_Wa_quietAt : bt_lkM mi_Wa_quietAt 3 := ⟨bt_gin (bt_tin3 (List.mem_of_getElem? (i := 125) (by decide +kernel))) rfl, bt_gin (bt_tin1 (List.mem_of_getElem? (i := 6) (by decide +kernel))) rfl, ⟨by decide +kernel, by decide +kernel, by decide +kernel⟩, by decide +kernel⟩
theorem vm_Wa_quietAt_k : Cond.instanceMethod mi_Wa_quietAt.1 ∈ bt_gw := bt_gin (bt_tin3 (List.mem_of_getElem? (i := 123) (by decide +kernel))) rfl
theorem vm_Wa_quietAt_s : Cond.selects mi_Wa_quietAt.1.cls mi_Wa_quietAt.1 mi_Wa_quietAt.1 ∈ bt_gw := bt_gin (bt_tin3 (List.mem_of_getElem? (i := 124) (by decide +kernel))) rfl
theorem bv_B_183 : bt_lkV "BellTrees" 183 mi_Wa_quietAt 4 4 := ⟨⟨3, bt_T4, 2, rfl, rfl, vm_Wa_quietAt⟩, bt_gin (bt_tin3 (List.mem_of_getElem? (i := 122) (by decide +kernel))) rfl, vm_Wa_quietAt_k, vm_Wa_quietAt_s⟩
theorem vm_B_walkAndBookRefusal : bt_lkM mi_B_walkAndBookRefusal 2 := ⟨bt_gin (bt_tin3 (List.mem_of_getElem? (i := 133) (by decide +kernel))) rfl, bt_gin (bt_tin1 (List.mem_of_getElem? (i := 1) (by decide +kernel))) rfl, ⟨by decide +kernel, by decide +kernel, by decide +kernel⟩, by decide +kernel⟩
theorem vm_B_walkAndBookRefusal_k : Cond.instanceMethod mi_B_walkAndBookRefusal.1 ∈ bt_gw := bt_gin (bt_tin3 (List.mem_of_getElem? (i := 132) (by decide +kernel))) rfl
theorem vm_B_walkAndBookRefusal_s : Cond.selects mi_B_walkAndBookRefusal.1.cls mi_B_walkAndBookRefusal.1 mi_B_walkAndBookRefusal.1 ∈ bt_gw := bt_gin (List.mem_of_getElem? (i := 24) (by decide +kernel)) rfl
theorem bv_B_186 : bt_lkV "BellTrees" 186 mi_B_walkAndBookRefusal 3 0 := ⟨⟨2, bt_T0, 9, rfl, rfl, vm_B_walkAndBookRefusal⟩, bt_gin (bt_tin3 (List.mem_of_getElem? (i := 130) (by decide +kernel))) rfl, vm_B_walkAndBookRefusal_k, vm_B_walkAndBookRefusal_s⟩
theorem vm_B_bellsGone : bt_lkM mi_B_bellsGone 2 := ⟨bt_gin (bt_tin3 (List.mem_of_getElem? (i := 147) (by decide +kernel))) rfl, bt_gin (bt_tin1 (List.mem_of_getElem? (i := 1) (by decide +kernel))) rfl, ⟨by decide +kernel, by decide +kernel, by decide +kernel⟩, by decide +kernel⟩
theorem vm_B_bellsGone_k : Cond.instanceMethod mi_B_bellsGone.1 ∈ bt_gw := bt_gin (bt_tin3 (List.mem_of_getElem? (i := 146) (by decide +kernel))) rfl
theorem vm_B_bellsGone_s : Cond.selects mi_B_bellsGone.1.cls mi_B_bellsGone.1 mi_B_bellsGone.1 ∈ bt_gw := bt_gin (List.mem_of_getElem? (i := 27) (by decide +kernel)) rfl
theorem bv_B_189 : bt_lkV "BellTrees" 189 mi_B_bellsGone 3 0 := ⟨⟨2, bt_T0, 9, rfl, rfl, vm_B_bellsGone⟩, bt_gin (bt_tin3 (List.mem_of_getElem? (i := 144) (by decide +kernel))) rfl, vm_B_bellsGone_k, vm_B_bellsGone_s⟩
theorem vm_B_walksRefusal : bt_lkM mi_B_walksRefusal 1 := ⟨bt_gin (bt_tin3 (List.mem_of_getElem? (i := 137) (by decide +kernel))) rfl, bt_gin (bt_tin1 (List.mem_of_getElem? (i := 1) (by decide +kernel))) rfl, ⟨by decide +kernel, by decide +kernel, by decide +kernel⟩, by decide +kernel⟩
theorem vm_B_walksRefusal_k : Cond.instanceMethod mi_B_walksRefusal.1 ∈ bt_gw := bt_gin (bt_tin3 (List.mem_of_getElem? (i := 136) (by decide +kernel))) rfl
theorem vm_B_walksRefusal_s : Cond.selects mi_B_walksRefusal.1.cls mi_B_walksRefusal.1 mi_B_walksRefusal.1 ∈ bt_gw := bt_gin (List.mem_of_getElem? (i := 25) (by decide +kernel)) rfl
theorem bv_B_193 : bt_lkV "BellTrees" 193 mi_B_walksRefusal 2 0 := ⟨⟨1, bt_T0, 9, rfl, rfl, vm_B_walksRefusal⟩, bt_gin (bt_tin3 (List.mem_of_getElem? (i := 134) (by decide +kernel))) rfl, vm_B_walksRefusal_k, vm_B_walksRefusal_s⟩
theorem vm_B_firstUnlike : bt_lkM mi_B_firstUnlike 4 := ⟨bt_gin (bt_tin3 (List.mem_of_getElem? (i := 164) (by decide +kernel))) rfl, bt_gin (bt_tin1 (List.mem_of_getElem? (i := 1) (by decide +kernel))) rfl, ⟨by decide +kernel, by decide +kernel, by decide +kernel⟩, by decide +kernel⟩
theorem vm_B_firstUnlike_k : Cond.instanceMethod mi_B_firstUnlike.1 ∈ bt_gw := bt_gin (bt_tin3 (List.mem_of_getElem? (i := 163) (by decide +kernel))) rfl
theorem vm_B_firstUnlike_s : Cond.selects mi_B_firstUnlike.1.cls mi_B_firstUnlike.1 mi_B_firstUnlike.1 ∈ bt_gw := bt_gin (List.mem_of_getElem? (i := 29) (by decide +kernel)) rfl
theorem bv_B_196 : bt_lkV "BellTrees" 196 mi_B_firstUnlike 5 0 := ⟨⟨4, bt_T0, 9, rfl, rfl, vm_B_firstUnlike⟩, bt_gin (bt_tin3 (List.mem_of_getElem? (i := 161) (by decide +kernel))) rfl, vm_B_firstUnlike_k, vm_B_firstUnlike_s⟩
theorem vm_Fo_bellsThere : bt_lkM mi_Fo_bellsThere 0 := ⟨bt_gin (bt_tin3 (List.mem_of_getElem? (i := 172) (by decide +kernel))) rfl, bt_gin (bt_tin1 (List.mem_of_getElem? (i := 2) (by decide +kernel))) rfl, ⟨by decide +kernel, by decide +kernel, by decide +kernel⟩, by decide +kernel⟩
theorem vm_Fo_bellsThere_k : Cond.instanceMethod mi_Fo_bellsThere.1 ∈ bt_gw := bt_gin (bt_tin3 (List.mem_of_getElem? (i := 170) (by decide +kernel))) rfl
theorem vm_Fo_bellsThere_s : Cond.selects mi_Fo_bellsThere.1.cls mi_Fo_bellsThere.1 mi_Fo_bellsThere.1 ∈ bt_gw := bt_gin (bt_tin3 (List.mem_of_getElem? (i := 171) (by decide +kernel))) rfl
theorem bv_B_200 : bt_lkV "BellTrees" 200 mi_Fo_bellsThere 1 1 := ⟨⟨0, bt_T1, 7, rfl, rfl, vm_Fo_bellsThere⟩, bt_gin (bt_tin3 (List.mem_of_getElem? (i := 169) (by decide +kernel))) rfl, vm_Fo_bellsThere_k, vm_Fo_bellsThere_s⟩
theorem vm_JI_bitCount : bt_lkM mi_JI_bitCount 1 := ⟨bt_gin (bt_tin3 (List.mem_of_getElem? (i := 175) (by decide +kernel))) rfl, bt_gin (bt_tin1 (List.mem_of_getElem? (i := 14) (by decide +kernel))) rfl, ⟨by decide +kernel, by decide +kernel, by decide +kernel⟩, by decide +kernel⟩
theorem vm_JI_bitCount_k : Cond.static mi_JI_bitCount.1 ∈ bt_gw := bt_gin (bt_tin3 (List.mem_of_getElem? (i := 174) (by decide +kernel))) rfl
theorem bs_B_203 : bt_lkS "BellTrees" 203 mi_JI_bitCount 1 := ⟨vm_JI_bitCount, Or.inl (bt_gin (bt_tin3 (List.mem_of_getElem? (i := 173) (by decide +kernel))) rfl), vm_JI_bitCount_k⟩
theorem vm_B_areTold : bt_lkM mi_B_areTold 2 := ⟨bt_gin (bt_tin3 (List.mem_of_getElem? (i := 182) (by decide +kernel))) rfl, bt_gin (bt_tin1 (List.mem_of_getElem? (i := 1) (by decide +kernel))) rfl, ⟨by decide +kernel, by decide +kernel, by decide +kernel⟩, by decide +kernel⟩
theorem vm_B_areTold_k : Cond.instanceMethod mi_B_areTold.1 ∈ bt_gw := bt_gin (bt_tin3 (List.mem_of_getElem? (i := 181) (by decide +kernel))) rfl
theorem vm_B_areTold_s : Cond.selects mi_B_areTold.1.cls mi_B_areTold.1 mi_B_areTold.1 ∈ bt_gw := bt_gin (List.mem_of_getElem? (i := 30) (by decide +kernel)) rfl
theorem bv_B_208 : bt_lkV "BellTrees" 208 mi_B_areTold 3 0 := ⟨⟨2, bt_T0, 9, rfl, rfl, vm_B_areTold⟩, bt_gin (bt_tin3 (List.mem_of_getElem? (i := 179) (by decide +kernel))) rfl, vm_B_areTold_k, vm_B_areTold_s⟩
theorem vm_Fo_fewestToTune : bt_lkM mi_Fo_fewestToTune 0 := ⟨bt_gin (bt_tin3 (List.mem_of_getElem? (i := 194) (by decide +kernel))) rfl, bt_gin (bt_tin1 (List.mem_of_getElem? (i := 2) (by decide +kernel))) rfl, ⟨by decide +kernel, by decide +kernel, by decide +kernel⟩, by decide +kernel⟩
theorem vm_Fo_fewestToTune_k : Cond.instanceMethod mi_Fo_fewestToTune.1 ∈ bt_gw := bt_gin (bt_tin3 (List.mem_of_getElem? (i := 192) (by decide +kernel))) rfl
theorem vm_Fo_fewestToTune_s : Cond.selects mi_Fo_fewestToTune.1.cls mi_Fo_fewestToTune.1 mi_Fo_fewestToTune.1 ∈ bt_gw := bt_gin (bt_tin3 (List.mem_of_getElem? (i := 193) (by decide +kernel))) rfl
theorem bv_B_211 : bt_lkV "BellTrees" 211 mi_Fo_fewestToTune 1 1 := ⟨⟨0, bt_T1, 7, rfl, rfl, vm_Fo_fewestToTune⟩, bt_gin (bt_tin3 (List.mem_of_getElem? (i := 191) (by decide +kernel))) rfl, vm_Fo_fewestToTune_k, vm_Fo_fewestToTune_s⟩
theorem vm_Fo_size : bt_lkM mi_Fo_size 0 := ⟨bt_gin (bt_tin3 (List.mem_of_getElem? (i := 47) (by decide +kernel))) rfl, bt_gin (bt_tin1 (List.mem_of_getElem? (i := 2) (by decide +kernel))) rfl, ⟨by decide +kernel, by decide +kernel, by decide +kernel⟩, by decide +kernel⟩
theorem vm_Fo_size_k : Cond.instanceMethod mi_Fo_size.1 ∈ bt_gw := bt_gin (bt_tin3 (List.mem_of_getElem? (i := 45) (by decide +kernel))) rfl
theorem vm_Fo_size_s : Cond.selects mi_Fo_size.1.cls mi_Fo_size.1 mi_Fo_size.1 ∈ bt_gw := bt_gin (bt_tin3 (List.mem_of_getElem? (i := 46) (by decide +kernel))) rfl
theorem bv_B_214 : bt_lkV "BellTrees" 214 mi_Fo_size 1 1 := ⟨⟨0, bt_T1, 7, rfl, rfl, vm_Fo_size⟩, bt_gin (bt_tin3 (List.mem_of_getElem? (i := 205) (by decide +kernel))) rfl, vm_Fo_size_k, vm_Fo_size_s⟩
theorem vm_B_drawWalkers : bt_lkM mi_B_drawWalkers 3 := ⟨bt_gin (bt_tin3 (List.mem_of_getElem? (i := 209) (by decide +kernel))) rfl, bt_gin (bt_tin1 (List.mem_of_getElem? (i := 1) (by decide +kernel))) rfl, ⟨by decide +kernel, by decide +kernel, by decide +kernel⟩, by decide +kernel⟩
theorem vm_B_drawWalkers_k : Cond.instanceMethod mi_B_drawWalkers.1 ∈ bt_gw := bt_gin (bt_tin3 (List.mem_of_getElem? (i := 208) (by decide +kernel))) rfl
theorem vm_B_drawWalkers_s : Cond.selects mi_B_drawWalkers.1.cls mi_B_drawWalkers.1 mi_B_drawWalkers.1 ∈ bt_gw := bt_gin (List.mem_of_getElem? (i := 33) (by decide +kernel)) rfl
theorem bv_B_217 : bt_lkV "BellTrees" 217 mi_B_drawWalkers 4 0 := ⟨⟨3, bt_T0, 9, rfl, rfl, vm_B_drawWalkers⟩, bt_gin (bt_tin3 (List.mem_of_getElem? (i := 206) (by decide +kernel))) rfl, vm_B_drawWalkers_k, vm_B_drawWalkers_s⟩
theorem vm_Fo_grow : bt_lkM mi_Fo_grow 2 := ⟨bt_gin (bt_tin3 (List.mem_of_getElem? (i := 229) (by decide +kernel))) rfl, bt_gin (bt_tin1 (List.mem_of_getElem? (i := 2) (by decide +kernel))) rfl, ⟨by decide +kernel, by decide +kernel, by decide +kernel⟩, by decide +kernel⟩
theorem vm_Fo_grow_k : Cond.instanceMethod mi_Fo_grow.1 ∈ bt_gw := bt_gin (bt_tin3 (List.mem_of_getElem? (i := 227) (by decide +kernel))) rfl
theorem vm_Fo_grow_s : Cond.selects mi_Fo_grow.1.cls mi_Fo_grow.1 mi_Fo_grow.1 ∈ bt_gw := bt_gin (bt_tin3 (List.mem_of_getElem? (i := 228) (by decide +kernel))) rfl
theorem bv_B_220 : bt_lkV "BellTrees" 220 mi_Fo_grow 3 1 := ⟨⟨2, bt_T1, 7, rfl, rfl, vm_Fo_grow⟩, bt_gin (bt_tin3 (List.mem_of_getElem? (i := 226) (by decide +kernel))) rfl, vm_Fo_grow_k, vm_Fo_grow_s⟩
theorem vm_Fo_addHeard : bt_lkM mi_Fo_addHeard 1 := ⟨bt_gin (bt_tin4 (List.mem_of_getElem? (i := 2) (by decide +kernel))) rfl, bt_gin (bt_tin1 (List.mem_of_getElem? (i := 2) (by decide +kernel))) rfl, ⟨by decide +kernel, by decide +kernel, by decide +kernel⟩, by decide +kernel⟩
theorem vm_Fo_addHeard_k : Cond.instanceMethod mi_Fo_addHeard.1 ∈ bt_gw := bt_gin (bt_tin4 (List.mem_of_getElem? (i := 0) (by decide +kernel))) rfl
theorem vm_Fo_addHeard_s : Cond.selects mi_Fo_addHeard.1.cls mi_Fo_addHeard.1 mi_Fo_addHeard.1 ∈ bt_gw := bt_gin (bt_tin4 (List.mem_of_getElem? (i := 1) (by decide +kernel))) rfl
theorem bv_B_223 : bt_lkV "BellTrees" 223 mi_Fo_addHeard 2 1 := ⟨⟨1, bt_T1, 7, rfl, rfl, vm_Fo_addHeard⟩, bt_gin (bt_tin3 (List.mem_of_getElem? (i := 239) (by decide +kernel))) rfl, vm_Fo_addHeard_k, vm_Fo_addHeard_s⟩
theorem vm_Fo_addWalk : bt_lkM mi_Fo_addWalk 0 := ⟨bt_gin (bt_tin4 (List.mem_of_getElem? (i := 11) (by decide +kernel))) rfl, bt_gin (bt_tin1 (List.mem_of_getElem? (i := 2) (by decide +kernel))) rfl, ⟨by decide +kernel, by decide +kernel, by decide +kernel⟩, by decide +kernel⟩
theorem vm_Fo_addWalk_k : Cond.instanceMethod mi_Fo_addWalk.1 ∈ bt_gw := bt_gin (bt_tin4 (List.mem_of_getElem? (i := 9) (by decide +kernel))) rfl
theorem vm_Fo_addWalk_s : Cond.selects mi_Fo_addWalk.1.cls mi_Fo_addWalk.1 mi_Fo_addWalk.1 ∈ bt_gw := bt_gin (bt_tin4 (List.mem_of_getElem? (i := 10) (by decide +kernel))) rfl
theorem bv_B_226 : bt_lkV "BellTrees" 226 mi_Fo_addWalk 1 1 := ⟨⟨0, bt_T1, 7, rfl, rfl, vm_Fo_addWalk⟩, bt_gin (bt_tin4 (List.mem_of_getElem? (i := 8) (by decide +kernel))) rfl, vm_Fo_addWalk_k, vm_Fo_addWalk_s⟩
theorem vm_B_firstNotSo : bt_lkM mi_B_firstNotSo 3 := ⟨bt_gin (bt_tin3 (List.mem_of_getElem? (i := 152) (by decide +kernel))) rfl, bt_gin (bt_tin1 (List.mem_of_getElem? (i := 1) (by decide +kernel))) rfl, ⟨by decide +kernel, by decide +kernel, by decide +kernel⟩, by decide +kernel⟩
theorem vm_B_firstNotSo_k : Cond.instanceMethod mi_B_firstNotSo.1 ∈ bt_gw := bt_gin (bt_tin3 (List.mem_of_getElem? (i := 151) (by decide +kernel))) rfl
theorem vm_B_firstNotSo_s : Cond.selects mi_B_firstNotSo.1.cls mi_B_firstNotSo.1 mi_B_firstNotSo.1 ∈ bt_gw := bt_gin (List.mem_of_getElem? (i := 28) (by decide +kernel)) rfl
theorem bv_B_229 : bt_lkV "BellTrees" 229 mi_B_firstNotSo 4 0 := ⟨⟨3, bt_T0, 9, rfl, rfl, vm_B_firstNotSo⟩, bt_gin (bt_tin3 (List.mem_of_getElem? (i := 149) (by decide +kernel))) rfl, vm_B_firstNotSo_k, vm_B_firstNotSo_s⟩
theorem lg_B_54 : bt_lkF "BellTrees" 54 0 6 false := ⟨bt_R0, bt_T0, 9, bt_ty0, rfl, rfl, bt_inG0, bt_tyok0, bt_nm0, rfl, bt_gin (bt_tin2 (List.mem_of_getElem? (i := 7) (by decide +kernel))) rfl, fun h => by cases h⟩
theorem vm_Im_draw : bt_lkM mi_Im_draw 1 := ⟨bt_gin (bt_tin4 (List.mem_of_getElem? (i := 23) (by decide +kernel))) rfl, bt_gin (bt_tin1 (List.mem_of_getElem? (i := 8) (by decide +kernel))) rfl, ⟨by decide +kernel, by decide +kernel, by decide +kernel⟩, by decide +kernel⟩
theorem vm_Im_draw_k : Cond.instanceMethod mi_Im_draw.1 ∈ bt_gw := bt_gin (bt_tin4 (List.mem_of_getElem? (i := 21) (by decide +kernel))) rfl
theorem vm_Im_draw_s : Cond.selects mi_Im_draw.1.cls mi_Im_draw.1 mi_Im_draw.1 ∈ bt_gw := bt_gin (bt_tin4 (List.mem_of_getElem? (i := 22) (by decide +kernel))) rfl
theorem bv_B_233 : bt_lkV "BellTrees" 233 mi_Im_draw 2 6 := ⟨⟨1, bt_T6, 7, rfl, rfl, vm_Im_draw⟩, bt_gin (bt_tin4 (List.mem_of_getElem? (i := 20) (by decide +kernel))) rfl, vm_Im_draw_k, vm_Im_draw_s⟩
theorem vm_Im_lay : bt_lkM mi_Im_lay 1 := ⟨bt_gin (bt_tin4 (List.mem_of_getElem? (i := 35) (by decide +kernel))) rfl, bt_gin (bt_tin1 (List.mem_of_getElem? (i := 8) (by decide +kernel))) rfl, ⟨by decide +kernel, by decide +kernel, by decide +kernel⟩, by decide +kernel⟩
theorem vm_Im_lay_k : Cond.instanceMethod mi_Im_lay.1 ∈ bt_gw := bt_gin (bt_tin4 (List.mem_of_getElem? (i := 33) (by decide +kernel))) rfl
theorem vm_Im_lay_s : Cond.selects mi_Im_lay.1.cls mi_Im_lay.1 mi_Im_lay.1 ∈ bt_gw := bt_gin (bt_tin4 (List.mem_of_getElem? (i := 34) (by decide +kernel))) rfl
theorem bv_B_237 : bt_lkV "BellTrees" 237 mi_Im_lay 2 6 := ⟨⟨1, bt_T6, 7, rfl, rfl, vm_Im_lay⟩, bt_gin (bt_tin4 (List.mem_of_getElem? (i := 32) (by decide +kernel))) rfl, vm_Im_lay_k, vm_Im_lay_s⟩
theorem vm_Ch_revert : bt_lkM mi_Ch_revert 1 := ⟨bt_gin (bt_tin4 (List.mem_of_getElem? (i := 49) (by decide +kernel))) rfl, bt_gin (bt_tin1 (List.mem_of_getElem? (i := 7) (by decide +kernel))) rfl, ⟨by decide +kernel, by decide +kernel, by decide +kernel⟩, by decide +kernel⟩
theorem vm_Ch_revert_k : Cond.instanceMethod mi_Ch_revert.1 ∈ bt_gw := bt_gin (bt_tin4 (List.mem_of_getElem? (i := 47) (by decide +kernel))) rfl
theorem vm_Ch_revert_s : Cond.selects mi_Ch_revert.1.cls mi_Ch_revert.1 mi_Ch_revert.1 ∈ bt_gw := bt_gin (bt_tin4 (List.mem_of_getElem? (i := 48) (by decide +kernel))) rfl
theorem bv_B_240 : bt_lkV "BellTrees" 240 mi_Ch_revert 2 5 := ⟨⟨1, bt_T5, 6, rfl, rfl, vm_Ch_revert⟩, bt_gin (bt_tin4 (List.mem_of_getElem? (i := 46) (by decide +kernel))) rfl, vm_Ch_revert_k, vm_Ch_revert_s⟩
theorem vm_Ch_repeat : bt_lkM mi_Ch_repeat 1 := ⟨bt_gin (bt_tin4 (List.mem_of_getElem? (i := 58) (by decide +kernel))) rfl, bt_gin (bt_tin1 (List.mem_of_getElem? (i := 7) (by decide +kernel))) rfl, ⟨by decide +kernel, by decide +kernel, by decide +kernel⟩, by decide +kernel⟩
theorem vm_Ch_repeat_k : Cond.instanceMethod mi_Ch_repeat.1 ∈ bt_gw := bt_gin (bt_tin4 (List.mem_of_getElem? (i := 56) (by decide +kernel))) rfl
theorem vm_Ch_repeat_s : Cond.selects mi_Ch_repeat.1.cls mi_Ch_repeat.1 mi_Ch_repeat.1 ∈ bt_gw := bt_gin (bt_tin4 (List.mem_of_getElem? (i := 57) (by decide +kernel))) rfl
theorem bv_B_243 : bt_lkV "BellTrees" 243 mi_Ch_repeat 2 5 := ⟨⟨1, bt_T5, 6, rfl, rfl, vm_Ch_repeat⟩, bt_gin (bt_tin4 (List.mem_of_getElem? (i := 55) (by decide +kernel))) rfl, vm_Ch_repeat_k, vm_Ch_repeat_s⟩
theorem lg_B_61 : bt_lkF "BellTrees" 61 0 7 false := ⟨bt_R0, bt_T0, 9, bt_ty0, rfl, rfl, bt_inG0, bt_tyok0, bt_nm0, rfl, bt_gin (bt_tin2 (List.mem_of_getElem? (i := 8) (by decide +kernel))) rfl, fun h => by cases h⟩
theorem vm_Bo_add : bt_lkM mi_Bo_add 1 := ⟨bt_gin (bt_tin4 (List.mem_of_getElem? (i := 66) (by decide +kernel))) rfl, bt_gin (bt_tin1 (List.mem_of_getElem? (i := 9) (by decide +kernel))) rfl, ⟨by decide +kernel, by decide +kernel, by decide +kernel⟩, by decide +kernel⟩
theorem vm_Bo_add_k : Cond.instanceMethod mi_Bo_add.1 ∈ bt_gw := bt_gin (bt_tin4 (List.mem_of_getElem? (i := 64) (by decide +kernel))) rfl
theorem vm_Bo_add_s : Cond.selects mi_Bo_add.1.cls mi_Bo_add.1 mi_Bo_add.1 ∈ bt_gw := bt_gin (bt_tin4 (List.mem_of_getElem? (i := 65) (by decide +kernel))) rfl
theorem bv_B_246 : bt_lkV "BellTrees" 246 mi_Bo_add 2 7 := ⟨⟨1, bt_T7, 5, rfl, rfl, vm_Bo_add⟩, bt_gin (bt_tin4 (List.mem_of_getElem? (i := 63) (by decide +kernel))) rfl, vm_Bo_add_k, vm_Bo_add_s⟩
theorem vm_Bo_perform : bt_lkM mi_Bo_perform 3 := ⟨bt_gin (bt_tin4 (List.mem_of_getElem? (i := 78) (by decide +kernel))) rfl, bt_gin (bt_tin1 (List.mem_of_getElem? (i := 9) (by decide +kernel))) rfl, ⟨by decide +kernel, by decide +kernel, by decide +kernel⟩, by decide +kernel⟩
theorem vm_Bo_perform_k : Cond.instanceMethod mi_Bo_perform.1 ∈ bt_gw := bt_gin (bt_tin4 (List.mem_of_getElem? (i := 76) (by decide +kernel))) rfl
theorem vm_Bo_perform_s : Cond.selects mi_Bo_perform.1.cls mi_Bo_perform.1 mi_Bo_perform.1 ∈ bt_gw := bt_gin (bt_tin4 (List.mem_of_getElem? (i := 77) (by decide +kernel))) rfl
theorem bv_B_248 : bt_lkV "BellTrees" 248 mi_Bo_perform 4 7 := ⟨⟨3, bt_T7, 5, rfl, rfl, vm_Bo_perform⟩, bt_gin (bt_tin4 (List.mem_of_getElem? (i := 75) (by decide +kernel))) rfl, vm_Bo_perform_k, vm_Bo_perform_s⟩
theorem vm_Bo_traced : bt_lkM mi_Bo_traced 1 := ⟨bt_gin (bt_tin4 (List.mem_of_getElem? (i := 114) (by decide +kernel))) rfl, bt_gin (bt_tin1 (List.mem_of_getElem? (i := 9) (by decide +kernel))) rfl, ⟨by decide +kernel, by decide +kernel, by decide +kernel⟩, by decide +kernel⟩
theorem vm_Bo_traced_k : Cond.instanceMethod mi_Bo_traced.1 ∈ bt_gw := bt_gin (bt_tin4 (List.mem_of_getElem? (i := 112) (by decide +kernel))) rfl
theorem vm_Bo_traced_s : Cond.selects mi_Bo_traced.1.cls mi_Bo_traced.1 mi_Bo_traced.1 ∈ bt_gw := bt_gin (bt_tin4 (List.mem_of_getElem? (i := 113) (by decide +kernel))) rfl
theorem bv_B_251 : bt_lkV "BellTrees" 251 mi_Bo_traced 2 7 := ⟨⟨1, bt_T7, 5, rfl, rfl, vm_Bo_traced⟩, bt_gin (bt_tin4 (List.mem_of_getElem? (i := 111) (by decide +kernel))) rfl, vm_Bo_traced_k, vm_Bo_traced_s⟩
theorem vm_Bo_size : bt_lkM mi_Bo_size 0 := ⟨bt_gin (bt_tin4 (List.mem_of_getElem? (i := 122) (by decide +kernel))) rfl, bt_gin (bt_tin1 (List.mem_of_getElem? (i := 9) (by decide +kernel))) rfl, ⟨by decide +kernel, by decide +kernel, by decide +kernel⟩, by decide +kernel⟩
theorem vm_Bo_size_k : Cond.instanceMethod mi_Bo_size.1 ∈ bt_gw := bt_gin (bt_tin4 (List.mem_of_getElem? (i := 120) (by decide +kernel))) rfl
theorem vm_Bo_size_s : Cond.selects mi_Bo_size.1.cls mi_Bo_size.1 mi_Bo_size.1 ∈ bt_gw := bt_gin (bt_tin4 (List.mem_of_getElem? (i := 121) (by decide +kernel))) rfl
theorem bv_B_254 : bt_lkV "BellTrees" 254 mi_Bo_size 1 7 := ⟨⟨0, bt_T7, 5, rfl, rfl, vm_Bo_size⟩, bt_gin (bt_tin4 (List.mem_of_getElem? (i := 119) (by decide +kernel))) rfl, vm_Bo_size_k, vm_Bo_size_s⟩
theorem vm_Sh_holdBody : bt_lkM mi_Sh_holdBody 1 := ⟨bt_gin (bt_tin4 (List.mem_of_getElem? (i := 126) (by decide +kernel))) rfl, bt_gin (bt_tin1 (List.mem_of_getElem? (i := 10) (by decide +kernel))) rfl, ⟨by decide +kernel, by decide +kernel, by decide +kernel⟩, by decide +kernel⟩
theorem vm_Sh_holdBody_k : Cond.instanceMethod mi_Sh_holdBody.1 ∈ bt_gw := bt_gin (bt_tin4 (List.mem_of_getElem? (i := 124) (by decide +kernel))) rfl
theorem vm_Sh_holdBody_s : Cond.selects mi_Sh_holdBody.1.cls mi_Sh_holdBody.1 mi_Sh_holdBody.1 ∈ bt_gw := bt_gin (bt_tin4 (List.mem_of_getElem? (i := 125) (by decide +kernel))) rfl
theorem bv_B_255 : bt_lkV "BellTrees" 255 mi_Sh_holdBody 2 8 := ⟨⟨1, bt_T8, 4, rfl, rfl, vm_Sh_holdBody⟩, bt_gin (bt_tin4 (List.mem_of_getElem? (i := 123) (by decide +kernel))) rfl, vm_Sh_holdBody_k, vm_Sh_holdBody_s⟩
theorem vm_Sh_holdRow : bt_lkM mi_Sh_holdRow 2 := ⟨bt_gin (bt_tin4 (List.mem_of_getElem? (i := 134) (by decide +kernel))) rfl, bt_gin (bt_tin1 (List.mem_of_getElem? (i := 10) (by decide +kernel))) rfl, ⟨by decide +kernel, by decide +kernel, by decide +kernel⟩, by decide +kernel⟩
theorem vm_Sh_holdRow_k : Cond.instanceMethod mi_Sh_holdRow.1 ∈ bt_gw := bt_gin (bt_tin4 (List.mem_of_getElem? (i := 132) (by decide +kernel))) rfl
theorem vm_Sh_holdRow_s : Cond.selects mi_Sh_holdRow.1.cls mi_Sh_holdRow.1 mi_Sh_holdRow.1 ∈ bt_gw := bt_gin (bt_tin4 (List.mem_of_getElem? (i := 133) (by decide +kernel))) rfl
theorem bv_B_258 : bt_lkV "BellTrees" 258 mi_Sh_holdRow 3 8 := ⟨⟨2, bt_T8, 4, rfl, rfl, vm_Sh_holdRow⟩, bt_gin (bt_tin4 (List.mem_of_getElem? (i := 131) (by decide +kernel))) rfl, vm_Sh_holdRow_k, vm_Sh_holdRow_s⟩
theorem vm_B_placeRefusal : bt_lkM mi_B_placeRefusal 2 := ⟨bt_gin (bt_tin4 (List.mem_of_getElem? (i := 146) (by decide +kernel))) rfl, bt_gin (bt_tin1 (List.mem_of_getElem? (i := 1) (by decide +kernel))) rfl, ⟨by decide +kernel, by decide +kernel, by decide +kernel⟩, by decide +kernel⟩
theorem vm_B_placeRefusal_k : Cond.instanceMethod mi_B_placeRefusal.1 ∈ bt_gw := bt_gin (bt_tin4 (List.mem_of_getElem? (i := 145) (by decide +kernel))) rfl
theorem vm_B_placeRefusal_s : Cond.selects mi_B_placeRefusal.1.cls mi_B_placeRefusal.1 mi_B_placeRefusal.1 ∈ bt_gw := bt_gin (List.mem_of_getElem? (i := 39) (by decide +kernel)) rfl
theorem bv_B_262 : bt_lkV "BellTrees" 262 mi_B_placeRefusal 3 0 := ⟨⟨2, bt_T0, 9, rfl, rfl, vm_B_placeRefusal⟩, bt_gin (bt_tin4 (List.mem_of_getElem? (i := 143) (by decide +kernel))) rfl, vm_B_placeRefusal_k, vm_B_placeRefusal_s⟩
theorem vm_Sh_write : bt_lkM mi_Sh_write 2 := ⟨bt_gin (bt_tin4 (List.mem_of_getElem? (i := 154) (by decide +kernel))) rfl, bt_gin (bt_tin1 (List.mem_of_getElem? (i := 10) (by decide +kernel))) rfl, ⟨by decide +kernel, by decide +kernel, by decide +kernel⟩, by decide +kernel⟩
theorem vm_Sh_write_k : Cond.instanceMethod mi_Sh_write.1 ∈ bt_gw := bt_gin (bt_tin4 (List.mem_of_getElem? (i := 152) (by decide +kernel))) rfl
theorem vm_Sh_write_s : Cond.selects mi_Sh_write.1.cls mi_Sh_write.1 mi_Sh_write.1 ∈ bt_gw := bt_gin (bt_tin4 (List.mem_of_getElem? (i := 153) (by decide +kernel))) rfl
theorem bv_B_266 : bt_lkV "BellTrees" 266 mi_Sh_write 3 8 := ⟨⟨2, bt_T8, 4, rfl, rfl, vm_Sh_write⟩, bt_gin (bt_tin4 (List.mem_of_getElem? (i := 151) (by decide +kernel))) rfl, vm_Sh_write_k, vm_Sh_write_s⟩
theorem lk_B_272 : Cond.constantLong "BellTrees" 272 (-9223372036854775808) ∈ bt_gw := bt_gin (bt_tin4 (List.mem_of_getElem? (i := 163) (by decide +kernel))) rfl
theorem vm_Sh_read : bt_lkM mi_Sh_read 1 := ⟨bt_gin (bt_tin2 (List.mem_of_getElem? (i := 80) (by decide +kernel))) rfl, bt_gin (bt_tin1 (List.mem_of_getElem? (i := 10) (by decide +kernel))) rfl, ⟨by decide +kernel, by decide +kernel, by decide +kernel⟩, by decide +kernel⟩
theorem vm_Sh_read_k : Cond.instanceMethod mi_Sh_read.1 ∈ bt_gw := bt_gin (bt_tin2 (List.mem_of_getElem? (i := 78) (by decide +kernel))) rfl
theorem vm_Sh_read_s : Cond.selects mi_Sh_read.1.cls mi_Sh_read.1 mi_Sh_read.1 ∈ bt_gw := bt_gin (bt_tin2 (List.mem_of_getElem? (i := 79) (by decide +kernel))) rfl
theorem bv_B_274 : bt_lkV "BellTrees" 274 mi_Sh_read 2 8 := ⟨⟨1, bt_T8, 4, rfl, rfl, vm_Sh_read⟩, bt_gin (bt_tin4 (List.mem_of_getElem? (i := 164) (by decide +kernel))) rfl, vm_Sh_read_k, vm_Sh_read_s⟩
theorem vm_Sh_isRow : bt_lkM mi_Sh_isRow 0 := ⟨bt_gin (bt_tin4 (List.mem_of_getElem? (i := 150) (by decide +kernel))) rfl, bt_gin (bt_tin1 (List.mem_of_getElem? (i := 10) (by decide +kernel))) rfl, ⟨by decide +kernel, by decide +kernel, by decide +kernel⟩, by decide +kernel⟩
theorem vm_Sh_isRow_k : Cond.instanceMethod mi_Sh_isRow.1 ∈ bt_gw := bt_gin (bt_tin4 (List.mem_of_getElem? (i := 148) (by decide +kernel))) rfl
theorem vm_Sh_isRow_s : Cond.selects mi_Sh_isRow.1.cls mi_Sh_isRow.1 mi_Sh_isRow.1 ∈ bt_gw := bt_gin (bt_tin4 (List.mem_of_getElem? (i := 149) (by decide +kernel))) rfl
theorem bv_B_277 : bt_lkV "BellTrees" 277 mi_Sh_isRow 1 8 := ⟨⟨0, bt_T8, 4, rfl, rfl, vm_Sh_isRow⟩, bt_gin (bt_tin4 (List.mem_of_getElem? (i := 147) (by decide +kernel))) rfl, vm_Sh_isRow_k, vm_Sh_isRow_s⟩
theorem vm_Sh_isOfSortOf : bt_lkM mi_Sh_isOfSortOf 1 := ⟨bt_gin (bt_tin4 (List.mem_of_getElem? (i := 172) (by decide +kernel))) rfl, bt_gin (bt_tin1 (List.mem_of_getElem? (i := 10) (by decide +kernel))) rfl, ⟨by decide +kernel, by decide +kernel, by decide +kernel⟩, by decide +kernel⟩
theorem vm_Sh_isOfSortOf_k : Cond.instanceMethod mi_Sh_isOfSortOf.1 ∈ bt_gw := bt_gin (bt_tin4 (List.mem_of_getElem? (i := 170) (by decide +kernel))) rfl
theorem vm_Sh_isOfSortOf_s : Cond.selects mi_Sh_isOfSortOf.1.cls mi_Sh_isOfSortOf.1 mi_Sh_isOfSortOf.1 ∈ bt_gw := bt_gin (bt_tin4 (List.mem_of_getElem? (i := 171) (by decide +kernel))) rfl
theorem bv_B_280 : bt_lkV "BellTrees" 280 mi_Sh_isOfSortOf 2 8 := ⟨⟨1, bt_T8, 4, rfl, rfl, vm_Sh_isOfSortOf⟩, bt_gin (bt_tin4 (List.mem_of_getElem? (i := 169) (by decide +kernel))) rfl, vm_Sh_isOfSortOf_k, vm_Sh_isOfSortOf_s⟩
theorem vm_Sh_hasPlaces : bt_lkM mi_Sh_hasPlaces 2 := ⟨bt_gin (bt_tin2 (List.mem_of_getElem? (i := 72) (by decide +kernel))) rfl, bt_gin (bt_tin1 (List.mem_of_getElem? (i := 10) (by decide +kernel))) rfl, ⟨by decide +kernel, by decide +kernel, by decide +kernel⟩, by decide +kernel⟩
theorem vm_Sh_hasPlaces_k : Cond.instanceMethod mi_Sh_hasPlaces.1 ∈ bt_gw := bt_gin (bt_tin2 (List.mem_of_getElem? (i := 70) (by decide +kernel))) rfl
theorem vm_Sh_hasPlaces_s : Cond.selects mi_Sh_hasPlaces.1.cls mi_Sh_hasPlaces.1 mi_Sh_hasPlaces.1 ∈ bt_gw := bt_gin (bt_tin2 (List.mem_of_getElem? (i := 71) (by decide +kernel))) rfl
theorem bv_B_284 : bt_lkV "BellTrees" 284 mi_Sh_hasPlaces 3 8 := ⟨⟨2, bt_T8, 4, rfl, rfl, vm_Sh_hasPlaces⟩, bt_gin (bt_tin2 (List.mem_of_getElem? (i := 69) (by decide +kernel))) rfl, vm_Sh_hasPlaces_k, vm_Sh_hasPlaces_s⟩
theorem vm_Sh_copy : bt_lkM mi_Sh_copy 4 := ⟨bt_gin (bt_tin4 (List.mem_of_getElem? (i := 176) (by decide +kernel))) rfl, bt_gin (bt_tin1 (List.mem_of_getElem? (i := 10) (by decide +kernel))) rfl, ⟨by decide +kernel, by decide +kernel, by decide +kernel⟩, by decide +kernel⟩
theorem vm_Sh_copy_k : Cond.instanceMethod mi_Sh_copy.1 ∈ bt_gw := bt_gin (bt_tin4 (List.mem_of_getElem? (i := 174) (by decide +kernel))) rfl
theorem vm_Sh_copy_s : Cond.selects mi_Sh_copy.1.cls mi_Sh_copy.1 mi_Sh_copy.1 ∈ bt_gw := bt_gin (bt_tin4 (List.mem_of_getElem? (i := 175) (by decide +kernel))) rfl
theorem bv_B_287 : bt_lkV "BellTrees" 287 mi_Sh_copy 5 8 := ⟨⟨4, bt_T8, 4, rfl, rfl, vm_Sh_copy⟩, bt_gin (bt_tin4 (List.mem_of_getElem? (i := 173) (by decide +kernel))) rfl, vm_Sh_copy_k, vm_Sh_copy_s⟩
theorem vm_Bo_isKind : bt_lkM mi_Bo_isKind 1 := ⟨bt_gin (bt_tin4 (List.mem_of_getElem? (i := 70) (by decide +kernel))) rfl, bt_gin (bt_tin1 (List.mem_of_getElem? (i := 9) (by decide +kernel))) rfl, ⟨by decide +kernel, by decide +kernel, by decide +kernel⟩, by decide +kernel⟩
theorem vm_Bo_isKind_k : Cond.instanceMethod mi_Bo_isKind.1 ∈ bt_gw := bt_gin (bt_tin4 (List.mem_of_getElem? (i := 68) (by decide +kernel))) rfl
theorem vm_Bo_isKind_s : Cond.selects mi_Bo_isKind.1.cls mi_Bo_isKind.1 mi_Bo_isKind.1 ∈ bt_gw := bt_gin (bt_tin4 (List.mem_of_getElem? (i := 69) (by decide +kernel))) rfl
theorem bv_B_291 : bt_lkV "BellTrees" 291 mi_Bo_isKind 2 7 := ⟨⟨1, bt_T7, 5, rfl, rfl, vm_Bo_isKind⟩, bt_gin (bt_tin4 (List.mem_of_getElem? (i := 182) (by decide +kernel))) rfl, vm_Bo_isKind_k, vm_Bo_isKind_s⟩
theorem vm_Sh_bodyHeld : bt_lkM mi_Sh_bodyHeld 0 := ⟨bt_gin (bt_tin4 (List.mem_of_getElem? (i := 186) (by decide +kernel))) rfl, bt_gin (bt_tin1 (List.mem_of_getElem? (i := 10) (by decide +kernel))) rfl, ⟨by decide +kernel, by decide +kernel, by decide +kernel⟩, by decide +kernel⟩
theorem vm_Sh_bodyHeld_k : Cond.instanceMethod mi_Sh_bodyHeld.1 ∈ bt_gw := bt_gin (bt_tin4 (List.mem_of_getElem? (i := 184) (by decide +kernel))) rfl
theorem vm_Sh_bodyHeld_s : Cond.selects mi_Sh_bodyHeld.1.cls mi_Sh_bodyHeld.1 mi_Sh_bodyHeld.1 ∈ bt_gw := bt_gin (bt_tin4 (List.mem_of_getElem? (i := 185) (by decide +kernel))) rfl
theorem bv_B_294 : bt_lkV "BellTrees" 294 mi_Sh_bodyHeld 1 8 := ⟨⟨0, bt_T8, 4, rfl, rfl, vm_Sh_bodyHeld⟩, bt_gin (bt_tin4 (List.mem_of_getElem? (i := 183) (by decide +kernel))) rfl, vm_Sh_bodyHeld_k, vm_Sh_bodyHeld_s⟩
theorem vm_Bo_kindOf : bt_lkM mi_Bo_kindOf 1 := ⟨bt_gin (bt_tin4 (List.mem_of_getElem? (i := 82) (by decide +kernel))) rfl, bt_gin (bt_tin1 (List.mem_of_getElem? (i := 9) (by decide +kernel))) rfl, ⟨by decide +kernel, by decide +kernel, by decide +kernel⟩, by decide +kernel⟩
theorem vm_Bo_kindOf_k : Cond.instanceMethod mi_Bo_kindOf.1 ∈ bt_gw := bt_gin (bt_tin4 (List.mem_of_getElem? (i := 80) (by decide +kernel))) rfl
theorem vm_Bo_kindOf_s : Cond.selects mi_Bo_kindOf.1.cls mi_Bo_kindOf.1 mi_Bo_kindOf.1 ∈ bt_gw := bt_gin (bt_tin4 (List.mem_of_getElem? (i := 81) (by decide +kernel))) rfl
theorem bv_B_297 : bt_lkV "BellTrees" 297 mi_Bo_kindOf 2 7 := ⟨⟨1, bt_T7, 5, rfl, rfl, vm_Bo_kindOf⟩, bt_gin (bt_tin4 (List.mem_of_getElem? (i := 187) (by decide +kernel))) rfl, vm_Bo_kindOf_k, vm_Bo_kindOf_s⟩
theorem vm_Bo_isUnder : bt_lkM mi_Bo_isUnder 2 := ⟨bt_gin (bt_tin4 (List.mem_of_getElem? (i := 191) (by decide +kernel))) rfl, bt_gin (bt_tin1 (List.mem_of_getElem? (i := 9) (by decide +kernel))) rfl, ⟨by decide +kernel, by decide +kernel, by decide +kernel⟩, by decide +kernel⟩
theorem vm_Bo_isUnder_k : Cond.instanceMethod mi_Bo_isUnder.1 ∈ bt_gw := bt_gin (bt_tin4 (List.mem_of_getElem? (i := 189) (by decide +kernel))) rfl
theorem vm_Bo_isUnder_s : Cond.selects mi_Bo_isUnder.1.cls mi_Bo_isUnder.1 mi_Bo_isUnder.1 ∈ bt_gw := bt_gin (bt_tin4 (List.mem_of_getElem? (i := 190) (by decide +kernel))) rfl
theorem bv_B_300 : bt_lkV "BellTrees" 300 mi_Bo_isUnder 3 7 := ⟨⟨2, bt_T7, 5, rfl, rfl, vm_Bo_isUnder⟩, bt_gin (bt_tin4 (List.mem_of_getElem? (i := 188) (by decide +kernel))) rfl, vm_Bo_isUnder_k, vm_Bo_isUnder_s⟩
theorem vm_Fo_joined : bt_lkM mi_Fo_joined 0 := ⟨bt_gin (bt_tin4 (List.mem_of_getElem? (i := 199) (by decide +kernel))) rfl, bt_gin (bt_tin1 (List.mem_of_getElem? (i := 2) (by decide +kernel))) rfl, ⟨by decide +kernel, by decide +kernel, by decide +kernel⟩, by decide +kernel⟩
theorem vm_Fo_joined_k : Cond.instanceMethod mi_Fo_joined.1 ∈ bt_gw := bt_gin (bt_tin4 (List.mem_of_getElem? (i := 197) (by decide +kernel))) rfl
theorem vm_Fo_joined_s : Cond.selects mi_Fo_joined.1.cls mi_Fo_joined.1 mi_Fo_joined.1 ∈ bt_gw := bt_gin (bt_tin4 (List.mem_of_getElem? (i := 198) (by decide +kernel))) rfl
theorem bv_B_303 : bt_lkV "BellTrees" 303 mi_Fo_joined 1 1 := ⟨⟨0, bt_T1, 7, rfl, rfl, vm_Fo_joined⟩, bt_gin (bt_tin4 (List.mem_of_getElem? (i := 196) (by decide +kernel))) rfl, vm_Fo_joined_k, vm_Fo_joined_s⟩
theorem vm_La_bytes : bt_lkM mi_La_bytes 0 := ⟨bt_gin (bt_tin4 (List.mem_of_getElem? (i := 203) (by decide +kernel))) rfl, bt_gin (bt_tin1 (List.mem_of_getElem? (i := 4) (by decide +kernel))) rfl, ⟨by decide +kernel, by decide +kernel, by decide +kernel⟩, by decide +kernel⟩
theorem vm_La_bytes_k : Cond.instanceMethod mi_La_bytes.1 ∈ bt_gw := bt_gin (bt_tin4 (List.mem_of_getElem? (i := 201) (by decide +kernel))) rfl
theorem vm_La_bytes_s : Cond.selects mi_La_bytes.1.cls mi_La_bytes.1 mi_La_bytes.1 ∈ bt_gw := bt_gin (bt_tin4 (List.mem_of_getElem? (i := 202) (by decide +kernel))) rfl
theorem bv_B_306 : bt_lkV "BellTrees" 306 mi_La_bytes 1 2 := ⟨⟨0, bt_T2, 15, rfl, rfl, vm_La_bytes⟩, bt_gin (bt_tin4 (List.mem_of_getElem? (i := 200) (by decide +kernel))) rfl, vm_La_bytes_k, vm_La_bytes_s⟩
theorem vm_Ch_revertible : bt_lkM mi_Ch_revertible 0 := ⟨bt_gin (bt_tin4 (List.mem_of_getElem? (i := 207) (by decide +kernel))) rfl, bt_gin (bt_tin1 (List.mem_of_getElem? (i := 7) (by decide +kernel))) rfl, ⟨by decide +kernel, by decide +kernel, by decide +kernel⟩, by decide +kernel⟩
theorem vm_Ch_revertible_k : Cond.instanceMethod mi_Ch_revertible.1 ∈ bt_gw := bt_gin (bt_tin4 (List.mem_of_getElem? (i := 205) (by decide +kernel))) rfl
theorem vm_Ch_revertible_s : Cond.selects mi_Ch_revertible.1.cls mi_Ch_revertible.1 mi_Ch_revertible.1 ∈ bt_gw := bt_gin (bt_tin4 (List.mem_of_getElem? (i := 206) (by decide +kernel))) rfl
theorem bv_B_309 : bt_lkV "BellTrees" 309 mi_Ch_revertible 1 5 := ⟨⟨0, bt_T5, 6, rfl, rfl, vm_Ch_revertible⟩, bt_gin (bt_tin4 (List.mem_of_getElem? (i := 204) (by decide +kernel))) rfl, vm_Ch_revertible_k, vm_Ch_revertible_s⟩
theorem vm_Bo_latestRuns : bt_lkM mi_Bo_latestRuns 0 := ⟨bt_gin (bt_tin4 (List.mem_of_getElem? (i := 211) (by decide +kernel))) rfl, bt_gin (bt_tin1 (List.mem_of_getElem? (i := 9) (by decide +kernel))) rfl, ⟨by decide +kernel, by decide +kernel, by decide +kernel⟩, by decide +kernel⟩
theorem vm_Bo_latestRuns_k : Cond.instanceMethod mi_Bo_latestRuns.1 ∈ bt_gw := bt_gin (bt_tin4 (List.mem_of_getElem? (i := 209) (by decide +kernel))) rfl
theorem vm_Bo_latestRuns_s : Cond.selects mi_Bo_latestRuns.1.cls mi_Bo_latestRuns.1 mi_Bo_latestRuns.1 ∈ bt_gw := bt_gin (bt_tin4 (List.mem_of_getElem? (i := 210) (by decide +kernel))) rfl
theorem bv_B_312 : bt_lkV "BellTrees" 312 mi_Bo_latestRuns 1 7 := ⟨⟨0, bt_T7, 5, rfl, rfl, vm_Bo_latestRuns⟩, bt_gin (bt_tin4 (List.mem_of_getElem? (i := 208) (by decide +kernel))) rfl, vm_Bo_latestRuns_k, vm_Bo_latestRuns_s⟩
theorem lk_B_315 : Cond.constant "BellTrees" 315 1103515245 ∈ bt_gw := bt_gin (bt_tin3 (List.mem_of_getElem? (i := 213) (by decide +kernel))) rfl
theorem lg_B_67 : bt_lkF "BellTrees" 67 0 8 false := ⟨bt_R0, bt_T0, 9, bt_ty0, rfl, rfl, bt_inG0, bt_tyok0, bt_nm0, rfl, bt_gin (bt_tin2 (List.mem_of_getElem? (i := 9) (by decide +kernel))) rfl, fun h => by cases h⟩
theorem vm_B_isWalk : bt_lkM mi_B_isWalk 1 := ⟨bt_gin (bt_tin3 (List.mem_of_getElem? (i := 141) (by decide +kernel))) rfl, bt_gin (bt_tin1 (List.mem_of_getElem? (i := 1) (by decide +kernel))) rfl, ⟨by decide +kernel, by decide +kernel, by decide +kernel⟩, by decide +kernel⟩
theorem vm_B_isWalk_k : Cond.instanceMethod mi_B_isWalk.1 ∈ bt_gw := bt_gin (bt_tin3 (List.mem_of_getElem? (i := 140) (by decide +kernel))) rfl
theorem vm_B_isWalk_s : Cond.selects mi_B_isWalk.1.cls mi_B_isWalk.1 mi_B_isWalk.1 ∈ bt_gw := bt_gin (List.mem_of_getElem? (i := 26) (by decide +kernel)) rfl
theorem bv_B_316 : bt_lkV "BellTrees" 316 mi_B_isWalk 2 0 := ⟨⟨1, bt_T0, 9, rfl, rfl, vm_B_isWalk⟩, bt_gin (bt_tin3 (List.mem_of_getElem? (i := 138) (by decide +kernel))) rfl, vm_B_isWalk_k, vm_B_isWalk_s⟩
theorem vm_Fo_all : bt_lkM mi_Fo_all 0 := ⟨bt_gin (bt_tin3 (List.mem_of_getElem? (i := 69) (by decide +kernel))) rfl, bt_gin (bt_tin1 (List.mem_of_getElem? (i := 2) (by decide +kernel))) rfl, ⟨by decide +kernel, by decide +kernel, by decide +kernel⟩, by decide +kernel⟩
theorem vm_Fo_all_k : Cond.instanceMethod mi_Fo_all.1 ∈ bt_gw := bt_gin (bt_tin3 (List.mem_of_getElem? (i := 67) (by decide +kernel))) rfl
theorem vm_Fo_all_s : Cond.selects mi_Fo_all.1.cls mi_Fo_all.1 mi_Fo_all.1 ∈ bt_gw := bt_gin (bt_tin3 (List.mem_of_getElem? (i := 68) (by decide +kernel))) rfl
theorem bv_B_319 : bt_lkV "BellTrees" 319 mi_Fo_all 1 1 := ⟨⟨0, bt_T1, 7, rfl, rfl, vm_Fo_all⟩, bt_gin (bt_tin3 (List.mem_of_getElem? (i := 142) (by decide +kernel))) rfl, vm_Fo_all_k, vm_Fo_all_s⟩
theorem vm_Fo_around : bt_lkM mi_Fo_around 1 := ⟨bt_gin (bt_tin3 (List.mem_of_getElem? (i := 53) (by decide +kernel))) rfl, bt_gin (bt_tin1 (List.mem_of_getElem? (i := 2) (by decide +kernel))) rfl, ⟨by decide +kernel, by decide +kernel, by decide +kernel⟩, by decide +kernel⟩
theorem vm_Fo_around_k : Cond.instanceMethod mi_Fo_around.1 ∈ bt_gw := bt_gin (bt_tin3 (List.mem_of_getElem? (i := 51) (by decide +kernel))) rfl
theorem vm_Fo_around_s : Cond.selects mi_Fo_around.1.cls mi_Fo_around.1 mi_Fo_around.1 ∈ bt_gw := bt_gin (bt_tin3 (List.mem_of_getElem? (i := 52) (by decide +kernel))) rfl
theorem bv_B_322 : bt_lkV "BellTrees" 322 mi_Fo_around 2 1 := ⟨⟨1, bt_T1, 7, rfl, rfl, vm_Fo_around⟩, bt_gin (bt_tin3 (List.mem_of_getElem? (i := 143) (by decide +kernel))) rfl, vm_Fo_around_k, vm_Fo_around_s⟩
theorem lx_B_325 : bt_lkx "BellTrees" 325 Lib.Math.min.name Lib.Math.min.code := ⟨bt_gin (bt_tin3 (List.mem_of_getElem? (i := 148) (by decide +kernel))) rfl, bt_gin (bt_tin3 (List.mem_of_getElem? (i := 37) (by decide +kernel))) rfl, bt_gin (bt_tin1 (List.mem_of_getElem? (i := 13) (by decide +kernel))) rfl, bt_gin (bt_tin3 (List.mem_of_getElem? (i := 38) (by decide +kernel))) rfl⟩
theorem vm_So_among : bt_lkM mi_So_among 3 := ⟨bt_gin (bt_tin3 (List.mem_of_getElem? (i := 156) (by decide +kernel))) rfl, bt_gin (bt_tin1 (List.mem_of_getElem? (i := 5) (by decide +kernel))) rfl, ⟨by decide +kernel, by decide +kernel, by decide +kernel⟩, by decide +kernel⟩
theorem vm_So_among_k : Cond.instanceMethod mi_So_among.1 ∈ bt_gw := bt_gin (bt_tin3 (List.mem_of_getElem? (i := 154) (by decide +kernel))) rfl
theorem vm_So_among_s : Cond.selects mi_So_among.1.cls mi_So_among.1 mi_So_among.1 ∈ bt_gw := bt_gin (bt_tin3 (List.mem_of_getElem? (i := 155) (by decide +kernel))) rfl
theorem bv_B_330 : bt_lkV "BellTrees" 330 mi_So_among 4 3 := ⟨⟨3, bt_T3, 4, rfl, rfl, vm_So_among⟩, bt_gin (bt_tin3 (List.mem_of_getElem? (i := 153) (by decide +kernel))) rfl, vm_So_among_k, vm_So_among_s⟩
theorem vm_B_hasSound : bt_lkM mi_B_hasSound 2 := ⟨bt_gin (bt_tin3 (List.mem_of_getElem? (i := 186) (by decide +kernel))) rfl, bt_gin (bt_tin1 (List.mem_of_getElem? (i := 1) (by decide +kernel))) rfl, ⟨by decide +kernel, by decide +kernel, by decide +kernel⟩, by decide +kernel⟩
theorem vm_B_hasSound_k : Cond.instanceMethod mi_B_hasSound.1 ∈ bt_gw := bt_gin (bt_tin3 (List.mem_of_getElem? (i := 185) (by decide +kernel))) rfl
theorem vm_B_hasSound_s : Cond.selects mi_B_hasSound.1.cls mi_B_hasSound.1 mi_B_hasSound.1 ∈ bt_gw := bt_gin (List.mem_of_getElem? (i := 31) (by decide +kernel)) rfl
theorem bv_B_333 : bt_lkV "BellTrees" 333 mi_B_hasSound 3 0 := ⟨⟨2, bt_T0, 9, rfl, rfl, vm_B_hasSound⟩, bt_gin (bt_tin3 (List.mem_of_getElem? (i := 183) (by decide +kernel))) rfl, vm_B_hasSound_k, vm_B_hasSound_s⟩
theorem vm_B_nextDraw : bt_lkM mi_B_nextDraw 1 := ⟨bt_gin (bt_tin3 (List.mem_of_getElem? (i := 212) (by decide +kernel))) rfl, bt_gin (bt_tin1 (List.mem_of_getElem? (i := 1) (by decide +kernel))) rfl, ⟨by decide +kernel, by decide +kernel, by decide +kernel⟩, by decide +kernel⟩
theorem vm_B_nextDraw_k : Cond.static mi_B_nextDraw.1 ∈ bt_gw := bt_gin (bt_tin3 (List.mem_of_getElem? (i := 211) (by decide +kernel))) rfl
theorem bs_B_337 : bt_lkS "BellTrees" 337 mi_B_nextDraw 1 := ⟨vm_B_nextDraw, Or.inl (bt_gin (bt_tin3 (List.mem_of_getElem? (i := 210) (by decide +kernel))) rfl), vm_B_nextDraw_k⟩
theorem vm_Fo_treeDrawn : bt_lkM mi_Fo_treeDrawn 1 := ⟨bt_gin (bt_tin3 (List.mem_of_getElem? (i := 217) (by decide +kernel))) rfl, bt_gin (bt_tin1 (List.mem_of_getElem? (i := 2) (by decide +kernel))) rfl, ⟨by decide +kernel, by decide +kernel, by decide +kernel⟩, by decide +kernel⟩
theorem vm_Fo_treeDrawn_k : Cond.instanceMethod mi_Fo_treeDrawn.1 ∈ bt_gw := bt_gin (bt_tin3 (List.mem_of_getElem? (i := 215) (by decide +kernel))) rfl
theorem vm_Fo_treeDrawn_s : Cond.selects mi_Fo_treeDrawn.1.cls mi_Fo_treeDrawn.1 mi_Fo_treeDrawn.1 ∈ bt_gw := bt_gin (bt_tin3 (List.mem_of_getElem? (i := 216) (by decide +kernel))) rfl
theorem bv_B_340 : bt_lkV "BellTrees" 340 mi_Fo_treeDrawn 2 1 := ⟨⟨1, bt_T1, 7, rfl, rfl, vm_Fo_treeDrawn⟩, bt_gin (bt_tin3 (List.mem_of_getElem? (i := 214) (by decide +kernel))) rfl, vm_Fo_treeDrawn_k, vm_Fo_treeDrawn_s⟩
theorem vm_Fo_stepDrawn : bt_lkM mi_Fo_stepDrawn 2 := ⟨bt_gin (bt_tin3 (List.mem_of_getElem? (i := 221) (by decide +kernel))) rfl, bt_gin (bt_tin1 (List.mem_of_getElem? (i := 2) (by decide +kernel))) rfl, ⟨by decide +kernel, by decide +kernel, by decide +kernel⟩, by decide +kernel⟩
theorem vm_Fo_stepDrawn_k : Cond.instanceMethod mi_Fo_stepDrawn.1 ∈ bt_gw := bt_gin (bt_tin3 (List.mem_of_getElem? (i := 219) (by decide +kernel))) rfl
theorem vm_Fo_stepDrawn_s : Cond.selects mi_Fo_stepDrawn.1.cls mi_Fo_stepDrawn.1 mi_Fo_stepDrawn.1 ∈ bt_gw := bt_gin (bt_tin3 (List.mem_of_getElem? (i := 220) (by decide +kernel))) rfl
theorem bv_B_343 : bt_lkV "BellTrees" 343 mi_Fo_stepDrawn 3 1 := ⟨⟨2, bt_T1, 7, rfl, rfl, vm_Fo_stepDrawn⟩, bt_gin (bt_tin3 (List.mem_of_getElem? (i := 218) (by decide +kernel))) rfl, vm_Fo_stepDrawn_k, vm_Fo_stepDrawn_s⟩
theorem lg_Fo_35 : bt_lkF "BellTrees$Forest" 35 1 4 false := ⟨bt_R1, bt_T1, 7, bt_ty1, rfl, rfl, bt_inG1, bt_tyok1, bt_nm1, rfl, bt_gin (bt_tin1 (List.mem_of_getElem? (i := 40) (by decide +kernel))) rfl, fun h => by cases h⟩
theorem lg_Fo_39 : bt_lkF "BellTrees$Forest" 39 1 5 false := ⟨bt_R1, bt_T1, 7, bt_ty1, rfl, rfl, bt_inG1, bt_tyok1, bt_nm1, rfl, bt_gin (bt_tin1 (List.mem_of_getElem? (i := 41) (by decide +kernel))) rfl, fun h => by cases h⟩
theorem lg_Fo_42 : bt_lkF "BellTrees$Forest" 42 1 6 false := ⟨bt_R1, bt_T1, 7, bt_ty1, rfl, rfl, bt_inG1, bt_tyok1, bt_nm1, rfl, bt_gin (bt_tin1 (List.mem_of_getElem? (i := 42) (by decide +kernel))) rfl, fun h => by cases h⟩
theorem vm_Fo_slots : bt_lkM mi_Fo_slots 1 := ⟨bt_gin (bt_tin2 (List.mem_of_getElem? (i := 48) (by decide +kernel))) rfl, bt_gin (bt_tin1 (List.mem_of_getElem? (i := 2) (by decide +kernel))) rfl, ⟨by decide +kernel, by decide +kernel, by decide +kernel⟩, by decide +kernel⟩
theorem vm_Fo_slots_k : Cond.instanceMethod mi_Fo_slots.1 ∈ bt_gw := bt_gin (bt_tin2 (List.mem_of_getElem? (i := 47) (by decide +kernel))) rfl
theorem vm_Fo_slots_s : Cond.selects mi_Fo_slots.1.cls mi_Fo_slots.1 mi_Fo_slots.1 ∈ bt_gw := bt_gin (List.mem_of_getElem? (i := 0) (by decide +kernel)) rfl
theorem bv_Fo_45 : bt_lkV "BellTrees$Forest" 45 mi_Fo_slots 2 1 := ⟨⟨1, bt_T1, 7, rfl, rfl, vm_Fo_slots⟩, bt_gin (bt_tin2 (List.mem_of_getElem? (i := 45) (by decide +kernel))) rfl, vm_Fo_slots_k, vm_Fo_slots_s⟩
theorem ls_Fo_9 : bt_lkG "BellTrees$Forest" 9 0 := ⟨by decide, bt_gin (bt_tin1 (List.mem_of_getElem? (i := 29) (by decide +kernel))) rfl⟩
theorem bv_Fo_49 : bt_lkV "BellTrees$Forest" 49 mi_Fo_isSlot 3 1 := ⟨⟨2, bt_T1, 7, rfl, rfl, vm_Fo_isSlot⟩, bt_gin (bt_tin2 (List.mem_of_getElem? (i := 41) (by decide +kernel))) rfl, vm_Fo_isSlot_k, vm_Fo_isSlot_s⟩
theorem lg_Fo_17 : bt_lkF "BellTrees$Forest" 17 1 0 false := ⟨bt_R1, bt_T1, 7, bt_ty1, rfl, rfl, bt_inG1, bt_tyok1, bt_nm1, rfl, bt_gin (bt_tin1 (List.mem_of_getElem? (i := 36) (by decide +kernel))) rfl, fun h => by cases h⟩
theorem lp_Fo_35 : bt_lkF "BellTrees$Forest" 35 1 4 true := ⟨bt_R1, bt_T1, 7, bt_ty1, rfl, rfl, bt_inG1, bt_tyok1, bt_nm1, rfl, bt_gin (bt_tin1 (List.mem_of_getElem? (i := 40) (by decide +kernel))) rfl, fun _ => ⟨rfl, Or.inl ⟨rfl, rfl⟩⟩⟩
theorem bv_Fo_53 : bt_lkV "BellTrees$Forest" 53 mi_Fo_set 4 1 := ⟨⟨3, bt_T1, 7, rfl, rfl, vm_Fo_set⟩, bt_gin (bt_tin2 (List.mem_of_getElem? (i := 37) (by decide +kernel))) rfl, vm_Fo_set_k, vm_Fo_set_s⟩
theorem bv_Fo_57 : bt_lkV "BellTrees$Forest" 57 mi_Fo_has 2 1 := ⟨⟨1, bt_T1, 7, rfl, rfl, vm_Fo_has⟩, bt_gin (bt_tin2 (List.mem_of_getElem? (i := 94) (by decide +kernel))) rfl, vm_Fo_has_k, vm_Fo_has_s⟩
theorem lg_Fo_20 : bt_lkF "BellTrees$Forest" 20 1 1 false := ⟨bt_R1, bt_T1, 7, bt_ty1, rfl, rfl, bt_inG1, bt_tyok1, bt_nm1, rfl, bt_gin (bt_tin1 (List.mem_of_getElem? (i := 37) (by decide +kernel))) rfl, fun h => by cases h⟩
theorem lp_Fo_39 : bt_lkF "BellTrees$Forest" 39 1 5 true := ⟨bt_R1, bt_T1, 7, bt_ty1, rfl, rfl, bt_inG1, bt_tyok1, bt_nm1, rfl, bt_gin (bt_tin1 (List.mem_of_getElem? (i := 41) (by decide +kernel))) rfl, fun _ => ⟨rfl, Or.inl ⟨rfl, rfl⟩⟩⟩
theorem lg_Fo_26 : bt_lkF "BellTrees$Forest" 26 1 3 false := ⟨bt_R1, bt_T1, 7, bt_ty1, rfl, rfl, bt_inG1, bt_tyok1, bt_nm1, rfl, bt_gin (bt_tin1 (List.mem_of_getElem? (i := 39) (by decide +kernel))) rfl, fun h => by cases h⟩
theorem bv_Fo_61 : bt_lkV "BellTrees$Forest" 61 mi_Fo_heardOf 2 1 := ⟨⟨1, bt_T1, 7, rfl, rfl, vm_Fo_heardOf⟩, bt_gin (bt_tin4 (List.mem_of_getElem? (i := 3) (by decide +kernel))) rfl, vm_Fo_heardOf_k, vm_Fo_heardOf_s⟩
theorem vm_Fo_setHeard : bt_lkM mi_Fo_setHeard 2 := ⟨bt_gin (bt_tin4 (List.mem_of_getElem? (i := 7) (by decide +kernel))) rfl, bt_gin (bt_tin1 (List.mem_of_getElem? (i := 2) (by decide +kernel))) rfl, ⟨by decide +kernel, by decide +kernel, by decide +kernel⟩, by decide +kernel⟩
theorem vm_Fo_setHeard_k : Cond.instanceMethod mi_Fo_setHeard.1 ∈ bt_gw := bt_gin (bt_tin4 (List.mem_of_getElem? (i := 5) (by decide +kernel))) rfl
theorem vm_Fo_setHeard_s : Cond.selects mi_Fo_setHeard.1.cls mi_Fo_setHeard.1 mi_Fo_setHeard.1 ∈ bt_gw := bt_gin (bt_tin4 (List.mem_of_getElem? (i := 6) (by decide +kernel))) rfl
theorem bv_Fo_64 : bt_lkV "BellTrees$Forest" 64 mi_Fo_setHeard 3 1 := ⟨⟨2, bt_T1, 7, rfl, rfl, vm_Fo_setHeard⟩, bt_gin (bt_tin4 (List.mem_of_getElem? (i := 4) (by decide +kernel))) rfl, vm_Fo_setHeard_k, vm_Fo_setHeard_s⟩
theorem lp_Fo_42 : bt_lkF "BellTrees$Forest" 42 1 6 true := ⟨bt_R1, bt_T1, 7, bt_ty1, rfl, rfl, bt_inG1, bt_tyok1, bt_nm1, rfl, bt_gin (bt_tin1 (List.mem_of_getElem? (i := 42) (by decide +kernel))) rfl, fun _ => ⟨rfl, Or.inl ⟨rfl, rfl⟩⟩⟩
theorem vm_Fo_measureFar : bt_lkM mi_Fo_measureFar 0 := ⟨bt_gin (bt_tin2 (List.mem_of_getElem? (i := 131) (by decide +kernel))) rfl, bt_gin (bt_tin1 (List.mem_of_getElem? (i := 2) (by decide +kernel))) rfl, ⟨by decide +kernel, by decide +kernel, by decide +kernel⟩, by decide +kernel⟩
theorem vm_Fo_measureFar_k : Cond.instanceMethod mi_Fo_measureFar.1 ∈ bt_gw := bt_gin (bt_tin2 (List.mem_of_getElem? (i := 129) (by decide +kernel))) rfl
theorem vm_Fo_measureFar_s : Cond.selects mi_Fo_measureFar.1.cls mi_Fo_measureFar.1 mi_Fo_measureFar.1 ∈ bt_gw := bt_gin (bt_tin2 (List.mem_of_getElem? (i := 130) (by decide +kernel))) rfl
theorem bv_Fo_68 : bt_lkV "BellTrees$Forest" 68 mi_Fo_measureFar 1 1 := ⟨⟨0, bt_T1, 7, rfl, rfl, vm_Fo_measureFar⟩, bt_gin (bt_tin2 (List.mem_of_getElem? (i := 128) (by decide +kernel))) rfl, vm_Fo_measureFar_k, vm_Fo_measureFar_s⟩
theorem vm_Fo_farMeasured : bt_lkM mi_Fo_farMeasured 1 := ⟨bt_gin (bt_tin2 (List.mem_of_getElem? (i := 136) (by decide +kernel))) rfl, bt_gin (bt_tin1 (List.mem_of_getElem? (i := 2) (by decide +kernel))) rfl, ⟨by decide +kernel, by decide +kernel, by decide +kernel⟩, by decide +kernel⟩
theorem vm_Fo_farMeasured_k : Cond.instanceMethod mi_Fo_farMeasured.1 ∈ bt_gw := bt_gin (bt_tin2 (List.mem_of_getElem? (i := 134) (by decide +kernel))) rfl
theorem vm_Fo_farMeasured_s : Cond.selects mi_Fo_farMeasured.1.cls mi_Fo_farMeasured.1 mi_Fo_farMeasured.1 ∈ bt_gw := bt_gin (bt_tin2 (List.mem_of_getElem? (i := 135) (by decide +kernel))) rfl
theorem bv_Fo_71 : bt_lkV "BellTrees$Forest" 71 mi_Fo_farMeasured 2 1 := ⟨⟨1, bt_T1, 7, rfl, rfl, vm_Fo_farMeasured⟩, bt_gin (bt_tin2 (List.mem_of_getElem? (i := 133) (by decide +kernel))) rfl, vm_Fo_farMeasured_k, vm_Fo_farMeasured_s⟩
theorem lg_Fo_23 : bt_lkF "BellTrees$Forest" 23 1 2 false := ⟨bt_R1, bt_T1, 7, bt_ty1, rfl, rfl, bt_inG1, bt_tyok1, bt_nm1, rfl, bt_gin (bt_tin1 (List.mem_of_getElem? (i := 38) (by decide +kernel))) rfl, fun h => by cases h⟩
theorem vm_JA_fillI : bt_lkM mi_JA_fillI 2 := ⟨bt_gin (bt_tin1 (List.mem_of_getElem? (i := 35) (by decide +kernel))) rfl, bt_gin (bt_tin1 (List.mem_of_getElem? (i := 3) (by decide +kernel))) rfl, ⟨by decide +kernel, by decide +kernel, by decide +kernel⟩, by decide +kernel⟩
theorem vm_JA_fillI_k : Cond.static mi_JA_fillI.1 ∈ bt_gw := bt_gin (bt_tin1 (List.mem_of_getElem? (i := 34) (by decide +kernel))) rfl
theorem bs_Fo_29 : bt_lkS "BellTrees$Forest" 29 mi_JA_fillI 2 := ⟨vm_JA_fillI, Or.inl (bt_gin (bt_tin1 (List.mem_of_getElem? (i := 33) (by decide +kernel))) rfl), vm_JA_fillI_k⟩
theorem bv_Fo_74 : bt_lkV "BellTrees$Forest" 74 mi_Fo_get 3 1 := ⟨⟨2, bt_T1, 7, rfl, rfl, vm_Fo_get⟩, bt_gin (bt_tin2 (List.mem_of_getElem? (i := 132) (by decide +kernel))) rfl, vm_Fo_get_k, vm_Fo_get_s⟩
theorem bv_Fo_78 : bt_lkV "BellTrees$Forest" 78 mi_Fo_all 1 1 := ⟨⟨0, bt_T1, 7, rfl, rfl, vm_Fo_all⟩, bt_gin (bt_tin3 (List.mem_of_getElem? (i := 195) (by decide +kernel))) rfl, vm_Fo_all_k, vm_Fo_all_s⟩
theorem bs_Fo_82 : bt_lkS "BellTrees$Forest" 82 mi_JI_bitCount 1 := ⟨vm_JI_bitCount, Or.inl (bt_gin (bt_tin3 (List.mem_of_getElem? (i := 196) (by decide +kernel))) rfl), vm_JI_bitCount_k⟩
theorem vm_Fo_isUnlikeWithout : bt_lkM mi_Fo_isUnlikeWithout 1 := ⟨bt_gin (bt_tin3 (List.mem_of_getElem? (i := 200) (by decide +kernel))) rfl, bt_gin (bt_tin1 (List.mem_of_getElem? (i := 2) (by decide +kernel))) rfl, ⟨by decide +kernel, by decide +kernel, by decide +kernel⟩, by decide +kernel⟩
theorem vm_Fo_isUnlikeWithout_k : Cond.instanceMethod mi_Fo_isUnlikeWithout.1 ∈ bt_gw := bt_gin (bt_tin3 (List.mem_of_getElem? (i := 199) (by decide +kernel))) rfl
theorem vm_Fo_isUnlikeWithout_s : Cond.selects mi_Fo_isUnlikeWithout.1.cls mi_Fo_isUnlikeWithout.1 mi_Fo_isUnlikeWithout.1 ∈ bt_gw := bt_gin (List.mem_of_getElem? (i := 32) (by decide +kernel)) rfl
theorem bv_Fo_87 : bt_lkV "BellTrees$Forest" 87 mi_Fo_isUnlikeWithout 2 1 := ⟨⟨1, bt_T1, 7, rfl, rfl, vm_Fo_isUnlikeWithout⟩, bt_gin (bt_tin3 (List.mem_of_getElem? (i := 197) (by decide +kernel))) rfl, vm_Fo_isUnlikeWithout_k, vm_Fo_isUnlikeWithout_s⟩
theorem bs_Fo_90 : bt_lkS "BellTrees$Forest" 90 mi_B_nextDraw 1 := ⟨vm_B_nextDraw, Or.inr ⟨"BellTrees", by decide +kernel⟩, vm_B_nextDraw_k⟩
theorem lx_Fo_93 : bt_lkx "BellTrees$Forest" 93 Lib.Math.max.name Lib.Math.max.code := ⟨bt_gin (bt_tin3 (List.mem_of_getElem? (i := 231) (by decide +kernel))) rfl, bt_gin (bt_tin3 (List.mem_of_getElem? (i := 232) (by decide +kernel))) rfl, bt_gin (bt_tin1 (List.mem_of_getElem? (i := 13) (by decide +kernel))) rfl, bt_gin (bt_tin3 (List.mem_of_getElem? (i := 233) (by decide +kernel))) rfl⟩
theorem lx_Fo_98 : bt_lkx "BellTrees$Forest" 98 Lib.Math.min.name Lib.Math.min.code := ⟨bt_gin (bt_tin3 (List.mem_of_getElem? (i := 234) (by decide +kernel))) rfl, bt_gin (bt_tin3 (List.mem_of_getElem? (i := 37) (by decide +kernel))) rfl, bt_gin (bt_tin1 (List.mem_of_getElem? (i := 13) (by decide +kernel))) rfl, bt_gin (bt_tin3 (List.mem_of_getElem? (i := 38) (by decide +kernel))) rfl⟩
theorem lg_La_24 : bt_lkF "BellTrees$Law" 24 2 4 false := ⟨bt_R2, bt_T2, 15, bt_ty2, rfl, rfl, bt_inG2, bt_tyok2, bt_nm2, rfl, bt_gin (bt_tin1 (List.mem_of_getElem? (i := 69) (by decide +kernel))) rfl, fun h => by cases h⟩
theorem lg_La_11 : bt_lkF "BellTrees$Law" 11 2 0 false := ⟨bt_R2, bt_T2, 15, bt_ty2, rfl, rfl, bt_inG2, bt_tyok2, bt_nm2, rfl, bt_gin (bt_tin1 (List.mem_of_getElem? (i := 65) (by decide +kernel))) rfl, fun h => by cases h⟩
theorem lp_La_24 : bt_lkF "BellTrees$Law" 24 2 4 true := ⟨bt_R2, bt_T2, 15, bt_ty2, rfl, rfl, bt_inG2, bt_tyok2, bt_nm2, rfl, bt_gin (bt_tin1 (List.mem_of_getElem? (i := 69) (by decide +kernel))) rfl, fun _ => ⟨rfl, Or.inl ⟨rfl, rfl⟩⟩⟩
theorem lp_La_28 : bt_lkF "BellTrees$Law" 28 2 5 true := ⟨bt_R2, bt_T2, 15, bt_ty2, rfl, rfl, bt_inG2, bt_tyok2, bt_nm2, rfl, bt_gin (bt_tin1 (List.mem_of_getElem? (i := 70) (by decide +kernel))) rfl, fun _ => ⟨rfl, Or.inl ⟨rfl, rfl⟩⟩⟩
theorem lp_La_31 : bt_lkF "BellTrees$Law" 31 2 6 true := ⟨bt_R2, bt_T2, 15, bt_ty2, rfl, rfl, bt_inG2, bt_tyok2, bt_nm2, rfl, bt_gin (bt_tin1 (List.mem_of_getElem? (i := 71) (by decide +kernel))) rfl, fun _ => ⟨rfl, Or.inl ⟨rfl, rfl⟩⟩⟩
theorem vm_La_readLines : bt_lkM mi_La_readLines 0 := ⟨bt_gin (bt_tin2 (List.mem_of_getElem? (i := 164) (by decide +kernel))) rfl, bt_gin (bt_tin1 (List.mem_of_getElem? (i := 4) (by decide +kernel))) rfl, ⟨by decide +kernel, by decide +kernel, by decide +kernel⟩, by decide +kernel⟩
theorem vm_La_readLines_k : Cond.instanceMethod mi_La_readLines.1 ∈ bt_gw := bt_gin (bt_tin2 (List.mem_of_getElem? (i := 163) (by decide +kernel))) rfl
theorem vm_La_readLines_s : Cond.selects mi_La_readLines.1.cls mi_La_readLines.1 mi_La_readLines.1 ∈ bt_gw := bt_gin (List.mem_of_getElem? (i := 4) (by decide +kernel)) rfl
theorem bv_La_34 : bt_lkV "BellTrees$Law" 34 mi_La_readLines 1 2 := ⟨⟨0, bt_T2, 15, rfl, rfl, vm_La_readLines⟩, bt_gin (bt_tin2 (List.mem_of_getElem? (i := 161) (by decide +kernel))) rfl, vm_La_readLines_k, vm_La_readLines_s⟩
theorem lg_La_28 : bt_lkF "BellTrees$Law" 28 2 5 false := ⟨bt_R2, bt_T2, 15, bt_ty2, rfl, rfl, bt_inG2, bt_tyok2, bt_nm2, rfl, bt_gin (bt_tin1 (List.mem_of_getElem? (i := 70) (by decide +kernel))) rfl, fun h => by cases h⟩
theorem lg_La_15 : bt_lkF "BellTrees$Law" 15 2 1 false := ⟨bt_R2, bt_T2, 15, bt_ty2, rfl, rfl, bt_inG2, bt_tyok2, bt_nm2, rfl, bt_gin (bt_tin1 (List.mem_of_getElem? (i := 66) (by decide +kernel))) rfl, fun h => by cases h⟩
theorem lg_La_18 : bt_lkF "BellTrees$Law" 18 2 2 false := ⟨bt_R2, bt_T2, 15, bt_ty2, rfl, rfl, bt_inG2, bt_tyok2, bt_nm2, rfl, bt_gin (bt_tin1 (List.mem_of_getElem? (i := 67) (by decide +kernel))) rfl, fun h => by cases h⟩
theorem lg_La_31 : bt_lkF "BellTrees$Law" 31 2 6 false := ⟨bt_R2, bt_T2, 15, bt_ty2, rfl, rfl, bt_inG2, bt_tyok2, bt_nm2, rfl, bt_gin (bt_tin1 (List.mem_of_getElem? (i := 71) (by decide +kernel))) rfl, fun h => by cases h⟩
theorem lc_La_38 : bt_lkC "BellTrees$Law" 38 := ⟨bt_gin (bt_tin2 (List.mem_of_getElem? (i := 199) (by decide +kernel))) rfl, bt_gin (bt_tin2 (List.mem_of_getElem? (i := 118) (by decide +kernel))) rfl, bt_gin (bt_tin2 (List.mem_of_getElem? (i := 117) (by decide +kernel))) rfl, bt_gin (bt_tin1 (List.mem_of_getElem? (i := 12) (by decide +kernel))) rfl⟩
theorem lp_La_44 : bt_lkF "BellTrees$Law" 44 2 7 true := ⟨bt_R2, bt_T2, 15, bt_ty2, rfl, rfl, bt_inG2, bt_tyok2, bt_nm2, rfl, bt_gin (bt_tin1 (List.mem_of_getElem? (i := 72) (by decide +kernel))) rfl, fun _ => ⟨rfl, Or.inl ⟨rfl, rfl⟩⟩⟩
theorem vm_La_readLine : bt_lkM mi_La_readLine 0 := ⟨bt_gin (bt_tin2 (List.mem_of_getElem? (i := 168) (by decide +kernel))) rfl, bt_gin (bt_tin1 (List.mem_of_getElem? (i := 4) (by decide +kernel))) rfl, ⟨by decide +kernel, by decide +kernel, by decide +kernel⟩, by decide +kernel⟩
theorem vm_La_readLine_k : Cond.instanceMethod mi_La_readLine.1 ∈ bt_gw := bt_gin (bt_tin2 (List.mem_of_getElem? (i := 167) (by decide +kernel))) rfl
theorem vm_La_readLine_s : Cond.selects mi_La_readLine.1.cls mi_La_readLine.1 mi_La_readLine.1 ∈ bt_gw := bt_gin (List.mem_of_getElem? (i := 5) (by decide +kernel)) rfl
theorem bv_La_47 : bt_lkV "BellTrees$Law" 47 mi_La_readLine 1 2 := ⟨⟨0, bt_T2, 15, rfl, rfl, vm_La_readLine⟩, bt_gin (bt_tin2 (List.mem_of_getElem? (i := 165) (by decide +kernel))) rfl, vm_La_readLine_k, vm_La_readLine_s⟩
theorem vm_La_note : bt_lkM mi_La_note 1 := ⟨bt_gin (bt_tin2 (List.mem_of_getElem? (i := 188) (by decide +kernel))) rfl, bt_gin (bt_tin1 (List.mem_of_getElem? (i := 4) (by decide +kernel))) rfl, ⟨by decide +kernel, by decide +kernel, by decide +kernel⟩, by decide +kernel⟩
theorem vm_La_note_k : Cond.instanceMethod mi_La_note.1 ∈ bt_gw := bt_gin (bt_tin2 (List.mem_of_getElem? (i := 187) (by decide +kernel))) rfl
theorem vm_La_note_s : Cond.selects mi_La_note.1.cls mi_La_note.1 mi_La_note.1 ∈ bt_gw := bt_gin (List.mem_of_getElem? (i := 10) (by decide +kernel)) rfl
theorem bv_La_50 : bt_lkV "BellTrees$Law" 50 mi_La_note 2 2 := ⟨⟨1, bt_T2, 15, rfl, rfl, vm_La_note⟩, bt_gin (bt_tin2 (List.mem_of_getElem? (i := 185) (by decide +kernel))) rfl, vm_La_note_k, vm_La_note_s⟩
theorem vm_La_next : bt_lkM mi_La_next 0 := ⟨bt_gin (bt_tin2 (List.mem_of_getElem? (i := 180) (by decide +kernel))) rfl, bt_gin (bt_tin1 (List.mem_of_getElem? (i := 4) (by decide +kernel))) rfl, ⟨by decide +kernel, by decide +kernel, by decide +kernel⟩, by decide +kernel⟩
theorem vm_La_next_k : Cond.instanceMethod mi_La_next.1 ∈ bt_gw := bt_gin (bt_tin2 (List.mem_of_getElem? (i := 179) (by decide +kernel))) rfl
theorem vm_La_next_s : Cond.selects mi_La_next.1.cls mi_La_next.1 mi_La_next.1 ∈ bt_gw := bt_gin (List.mem_of_getElem? (i := 8) (by decide +kernel)) rfl
theorem bv_La_54 : bt_lkV "BellTrees$Law" 54 mi_La_next 1 2 := ⟨⟨0, bt_T2, 15, rfl, rfl, vm_La_next⟩, bt_gin (bt_tin2 (List.mem_of_getElem? (i := 177) (by decide +kernel))) rfl, vm_La_next_k, vm_La_next_s⟩
theorem vm_La_readLevel : bt_lkM mi_La_readLevel 2 := ⟨bt_gin (bt_tin2 (List.mem_of_getElem? (i := 172) (by decide +kernel))) rfl, bt_gin (bt_tin1 (List.mem_of_getElem? (i := 4) (by decide +kernel))) rfl, ⟨by decide +kernel, by decide +kernel, by decide +kernel⟩, by decide +kernel⟩
theorem vm_La_readLevel_k : Cond.instanceMethod mi_La_readLevel.1 ∈ bt_gw := bt_gin (bt_tin2 (List.mem_of_getElem? (i := 171) (by decide +kernel))) rfl
theorem vm_La_readLevel_s : Cond.selects mi_La_readLevel.1.cls mi_La_readLevel.1 mi_La_readLevel.1 ∈ bt_gw := bt_gin (List.mem_of_getElem? (i := 6) (by decide +kernel)) rfl
theorem bv_La_58 : bt_lkV "BellTrees$Law" 58 mi_La_readLevel 3 2 := ⟨⟨2, bt_T2, 15, rfl, rfl, vm_La_readLevel⟩, bt_gin (bt_tin2 (List.mem_of_getElem? (i := 169) (by decide +kernel))) rfl, vm_La_readLevel_k, vm_La_readLevel_s⟩
theorem vm_La_readOperand : bt_lkM mi_La_readOperand 1 := ⟨bt_gin (bt_tin2 (List.mem_of_getElem? (i := 176) (by decide +kernel))) rfl, bt_gin (bt_tin1 (List.mem_of_getElem? (i := 4) (by decide +kernel))) rfl, ⟨by decide +kernel, by decide +kernel, by decide +kernel⟩, by decide +kernel⟩
theorem vm_La_readOperand_k : Cond.instanceMethod mi_La_readOperand.1 ∈ bt_gw := bt_gin (bt_tin2 (List.mem_of_getElem? (i := 175) (by decide +kernel))) rfl
theorem vm_La_readOperand_s : Cond.selects mi_La_readOperand.1.cls mi_La_readOperand.1 mi_La_readOperand.1 ∈ bt_gw := bt_gin (List.mem_of_getElem? (i := 7) (by decide +kernel)) rfl
theorem bv_La_62 : bt_lkV "BellTrees$Law" 62 mi_La_readOperand 2 2 := ⟨⟨1, bt_T2, 15, rfl, rfl, vm_La_readOperand⟩, bt_gin (bt_tin2 (List.mem_of_getElem? (i := 173) (by decide +kernel))) rfl, vm_La_readOperand_k, vm_La_readOperand_s⟩
theorem vm_La_levelOf : bt_lkM mi_La_levelOf 1 := ⟨bt_gin (bt_tin2 (List.mem_of_getElem? (i := 198) (by decide +kernel))) rfl, bt_gin (bt_tin1 (List.mem_of_getElem? (i := 4) (by decide +kernel))) rfl, ⟨by decide +kernel, by decide +kernel, by decide +kernel⟩, by decide +kernel⟩
theorem vm_La_levelOf_k : Cond.static mi_La_levelOf.1 ∈ bt_gw := bt_gin (bt_tin2 (List.mem_of_getElem? (i := 197) (by decide +kernel))) rfl
theorem bs_La_66 : bt_lkS "BellTrees$Law" 66 mi_La_levelOf 1 := ⟨vm_La_levelOf, Or.inl (bt_gin (bt_tin2 (List.mem_of_getElem? (i := 196) (by decide +kernel))) rfl), vm_La_levelOf_k⟩
theorem vm_La_readNumber : bt_lkM mi_La_readNumber 0 := ⟨bt_gin (bt_tin2 (List.mem_of_getElem? (i := 184) (by decide +kernel))) rfl, bt_gin (bt_tin1 (List.mem_of_getElem? (i := 4) (by decide +kernel))) rfl, ⟨by decide +kernel, by decide +kernel, by decide +kernel⟩, by decide +kernel⟩
theorem vm_La_readNumber_k : Cond.instanceMethod mi_La_readNumber.1 ∈ bt_gw := bt_gin (bt_tin2 (List.mem_of_getElem? (i := 183) (by decide +kernel))) rfl
theorem vm_La_readNumber_s : Cond.selects mi_La_readNumber.1.cls mi_La_readNumber.1 mi_La_readNumber.1 ∈ bt_gw := bt_gin (List.mem_of_getElem? (i := 9) (by decide +kernel)) rfl
theorem bv_La_70 : bt_lkV "BellTrees$Law" 70 mi_La_readNumber 1 2 := ⟨⟨0, bt_T2, 15, rfl, rfl, vm_La_readNumber⟩, bt_gin (bt_tin2 (List.mem_of_getElem? (i := 181) (by decide +kernel))) rfl, vm_La_readNumber_k, vm_La_readNumber_s⟩
theorem vm_La_isName : bt_lkM mi_La_isName 1 := ⟨bt_gin (bt_tin2 (List.mem_of_getElem? (i := 191) (by decide +kernel))) rfl, bt_gin (bt_tin1 (List.mem_of_getElem? (i := 4) (by decide +kernel))) rfl, ⟨by decide +kernel, by decide +kernel, by decide +kernel⟩, by decide +kernel⟩
theorem vm_La_isName_k : Cond.static mi_La_isName.1 ∈ bt_gw := bt_gin (bt_tin2 (List.mem_of_getElem? (i := 190) (by decide +kernel))) rfl
theorem bs_La_73 : bt_lkS "BellTrees$Law" 73 mi_La_isName 1 := ⟨vm_La_isName, Or.inl (bt_gin (bt_tin2 (List.mem_of_getElem? (i := 189) (by decide +kernel))) rfl), vm_La_isName_k⟩
theorem vm_La_readClosing : bt_lkM mi_La_readClosing 0 := ⟨bt_gin (bt_tin2 (List.mem_of_getElem? (i := 195) (by decide +kernel))) rfl, bt_gin (bt_tin1 (List.mem_of_getElem? (i := 4) (by decide +kernel))) rfl, ⟨by decide +kernel, by decide +kernel, by decide +kernel⟩, by decide +kernel⟩
theorem vm_La_readClosing_k : Cond.instanceMethod mi_La_readClosing.1 ∈ bt_gw := bt_gin (bt_tin2 (List.mem_of_getElem? (i := 194) (by decide +kernel))) rfl
theorem vm_La_readClosing_s : Cond.selects mi_La_readClosing.1.cls mi_La_readClosing.1 mi_La_readClosing.1 ∈ bt_gw := bt_gin (List.mem_of_getElem? (i := 11) (by decide +kernel)) rfl
theorem bv_La_76 : bt_lkV "BellTrees$Law" 76 mi_La_readClosing 1 2 := ⟨⟨0, bt_T2, 15, rfl, rfl, vm_La_readClosing⟩, bt_gin (bt_tin2 (List.mem_of_getElem? (i := 192) (by decide +kernel))) rfl, vm_La_readClosing_k, vm_La_readClosing_s⟩
theorem lp_La_79 : bt_lkF "BellTrees$Law" 79 2 9 true := ⟨bt_R2, bt_T2, 15, bt_ty2, rfl, rfl, bt_inG2, bt_tyok2, bt_nm2, rfl, bt_gin (bt_tin1 (List.mem_of_getElem? (i := 74) (by decide +kernel))) rfl, fun _ => ⟨rfl, Or.inl ⟨rfl, rfl⟩⟩⟩
theorem lp_La_82 : bt_lkF "BellTrees$Law" 82 2 10 true := ⟨bt_R2, bt_T2, 15, bt_ty2, rfl, rfl, bt_inG2, bt_tyok2, bt_nm2, rfl, bt_gin (bt_tin1 (List.mem_of_getElem? (i := 75) (by decide +kernel))) rfl, fun _ => ⟨rfl, Or.inl ⟨rfl, rfl⟩⟩⟩
theorem lp_La_85 : bt_lkF "BellTrees$Law" 85 2 12 true := ⟨bt_R2, bt_T2, 15, bt_ty2, rfl, rfl, bt_inG2, bt_tyok2, bt_nm2, rfl, bt_gin (bt_tin1 (List.mem_of_getElem? (i := 77) (by decide +kernel))) rfl, fun _ => ⟨rfl, Or.inl ⟨rfl, rfl⟩⟩⟩
theorem lp_La_88 : bt_lkF "BellTrees$Law" 88 2 13 true := ⟨bt_R2, bt_T2, 15, bt_ty2, rfl, rfl, bt_inG2, bt_tyok2, bt_nm2, rfl, bt_gin (bt_tin1 (List.mem_of_getElem? (i := 78) (by decide +kernel))) rfl, fun _ => ⟨rfl, Or.inl ⟨rfl, rfl⟩⟩⟩
theorem lp_La_91 : bt_lkF "BellTrees$Law" 91 2 14 true := ⟨bt_R2, bt_T2, 15, bt_ty2, rfl, rfl, bt_inG2, bt_tyok2, bt_nm2, rfl, bt_gin (bt_tin1 (List.mem_of_getElem? (i := 79) (by decide +kernel))) rfl, fun _ => ⟨rfl, Or.inl ⟨rfl, rfl⟩⟩⟩
theorem lp_La_94 : bt_lkF "BellTrees$Law" 94 2 11 true := ⟨bt_R2, bt_T2, 15, bt_ty2, rfl, rfl, bt_inG2, bt_tyok2, bt_nm2, rfl, bt_gin (bt_tin1 (List.mem_of_getElem? (i := 76) (by decide +kernel))) rfl, fun _ => ⟨rfl, Or.inl ⟨rfl, rfl⟩⟩⟩
theorem lg_La_44 : bt_lkF "BellTrees$Law" 44 2 7 false := ⟨bt_R2, bt_T2, 15, bt_ty2, rfl, rfl, bt_inG2, bt_tyok2, bt_nm2, rfl, bt_gin (bt_tin1 (List.mem_of_getElem? (i := 72) (by decide +kernel))) rfl, fun h => by cases h⟩
theorem lg_La_79 : bt_lkF "BellTrees$Law" 79 2 9 false := ⟨bt_R2, bt_T2, 15, bt_ty2, rfl, rfl, bt_inG2, bt_tyok2, bt_nm2, rfl, bt_gin (bt_tin1 (List.mem_of_getElem? (i := 74) (by decide +kernel))) rfl, fun h => by cases h⟩
theorem lg_La_82 : bt_lkF "BellTrees$Law" 82 2 10 false := ⟨bt_R2, bt_T2, 15, bt_ty2, rfl, rfl, bt_inG2, bt_tyok2, bt_nm2, rfl, bt_gin (bt_tin1 (List.mem_of_getElem? (i := 75) (by decide +kernel))) rfl, fun h => by cases h⟩
theorem lg_La_94 : bt_lkF "BellTrees$Law" 94 2 11 false := ⟨bt_R2, bt_T2, 15, bt_ty2, rfl, rfl, bt_inG2, bt_tyok2, bt_nm2, rfl, bt_gin (bt_tin1 (List.mem_of_getElem? (i := 76) (by decide +kernel))) rfl, fun h => by cases h⟩
theorem lg_La_88 : bt_lkF "BellTrees$Law" 88 2 13 false := ⟨bt_R2, bt_T2, 15, bt_ty2, rfl, rfl, bt_inG2, bt_tyok2, bt_nm2, rfl, bt_gin (bt_tin1 (List.mem_of_getElem? (i := 78) (by decide +kernel))) rfl, fun h => by cases h⟩
theorem vm_La_workOut : bt_lkM mi_La_workOut 0 := ⟨bt_gin (bt_tin2 (List.mem_of_getElem? (i := 239) (by decide +kernel))) rfl, bt_gin (bt_tin1 (List.mem_of_getElem? (i := 4) (by decide +kernel))) rfl, ⟨by decide +kernel, by decide +kernel, by decide +kernel⟩, by decide +kernel⟩
theorem vm_La_workOut_k : Cond.instanceMethod mi_La_workOut.1 ∈ bt_gw := bt_gin (bt_tin2 (List.mem_of_getElem? (i := 238) (by decide +kernel))) rfl
theorem vm_La_workOut_s : Cond.selects mi_La_workOut.1.cls mi_La_workOut.1 mi_La_workOut.1 ∈ bt_gw := bt_gin (List.mem_of_getElem? (i := 13) (by decide +kernel)) rfl
theorem bv_La_97 : bt_lkV "BellTrees$Law" 97 mi_La_workOut 1 2 := ⟨⟨0, bt_T2, 15, rfl, rfl, vm_La_workOut⟩, bt_gin (bt_tin2 (List.mem_of_getElem? (i := 236) (by decide +kernel))) rfl, vm_La_workOut_k, vm_La_workOut_s⟩
theorem lp_La_100 : bt_lkF "BellTrees$Law" 100 2 8 true := ⟨bt_R2, bt_T2, 15, bt_ty2, rfl, rfl, bt_inG2, bt_tyok2, bt_nm2, rfl, bt_gin (bt_tin1 (List.mem_of_getElem? (i := 73) (by decide +kernel))) rfl, fun _ => ⟨rfl, Or.inl ⟨rfl, rfl⟩⟩⟩
theorem vm_La_pop : bt_lkM mi_La_pop 0 := ⟨bt_gin (bt_tin3 (List.mem_of_getElem? (i := 3) (by decide +kernel))) rfl, bt_gin (bt_tin1 (List.mem_of_getElem? (i := 4) (by decide +kernel))) rfl, ⟨by decide +kernel, by decide +kernel, by decide +kernel⟩, by decide +kernel⟩
theorem vm_La_pop_k : Cond.instanceMethod mi_La_pop.1 ∈ bt_gw := bt_gin (bt_tin3 (List.mem_of_getElem? (i := 2) (by decide +kernel))) rfl
theorem vm_La_pop_s : Cond.selects mi_La_pop.1.cls mi_La_pop.1 mi_La_pop.1 ∈ bt_gw := bt_gin (List.mem_of_getElem? (i := 14) (by decide +kernel)) rfl
theorem bv_La_103 : bt_lkV "BellTrees$Law" 103 mi_La_pop 1 2 := ⟨⟨0, bt_T2, 15, rfl, rfl, vm_La_pop⟩, bt_gin (bt_tin3 (List.mem_of_getElem? (i := 0) (by decide +kernel))) rfl, vm_La_pop_k, vm_La_pop_s⟩
theorem vm_La_valueBy : bt_lkM mi_La_valueBy 1 := ⟨bt_gin (bt_tin3 (List.mem_of_getElem? (i := 7) (by decide +kernel))) rfl, bt_gin (bt_tin1 (List.mem_of_getElem? (i := 4) (by decide +kernel))) rfl, ⟨by decide +kernel, by decide +kernel, by decide +kernel⟩, by decide +kernel⟩
theorem vm_La_valueBy_k : Cond.instanceMethod mi_La_valueBy.1 ∈ bt_gw := bt_gin (bt_tin3 (List.mem_of_getElem? (i := 6) (by decide +kernel))) rfl
theorem vm_La_valueBy_s : Cond.selects mi_La_valueBy.1.cls mi_La_valueBy.1 mi_La_valueBy.1 ∈ bt_gw := bt_gin (List.mem_of_getElem? (i := 15) (by decide +kernel)) rfl
theorem bv_La_106 : bt_lkV "BellTrees$Law" 106 mi_La_valueBy 2 2 := ⟨⟨1, bt_T2, 15, rfl, rfl, vm_La_valueBy⟩, bt_gin (bt_tin3 (List.mem_of_getElem? (i := 4) (by decide +kernel))) rfl, vm_La_valueBy_k, vm_La_valueBy_s⟩
theorem vm_La_push : bt_lkM mi_La_push 1 := ⟨bt_gin (bt_tin3 (List.mem_of_getElem? (i := 18) (by decide +kernel))) rfl, bt_gin (bt_tin1 (List.mem_of_getElem? (i := 4) (by decide +kernel))) rfl, ⟨by decide +kernel, by decide +kernel, by decide +kernel⟩, by decide +kernel⟩
theorem vm_La_push_k : Cond.instanceMethod mi_La_push.1 ∈ bt_gw := bt_gin (bt_tin3 (List.mem_of_getElem? (i := 17) (by decide +kernel))) rfl
theorem vm_La_push_s : Cond.selects mi_La_push.1.cls mi_La_push.1 mi_La_push.1 ∈ bt_gw := bt_gin (List.mem_of_getElem? (i := 17) (by decide +kernel)) rfl
theorem bv_La_109 : bt_lkV "BellTrees$Law" 109 mi_La_push 2 2 := ⟨⟨1, bt_T2, 15, rfl, rfl, vm_La_push⟩, bt_gin (bt_tin3 (List.mem_of_getElem? (i := 15) (by decide +kernel))) rfl, vm_La_push_k, vm_La_push_s⟩
theorem vm_La_named : bt_lkM mi_La_named 1 := ⟨bt_gin (bt_tin3 (List.mem_of_getElem? (i := 11) (by decide +kernel))) rfl, bt_gin (bt_tin1 (List.mem_of_getElem? (i := 4) (by decide +kernel))) rfl, ⟨by decide +kernel, by decide +kernel, by decide +kernel⟩, by decide +kernel⟩
theorem vm_La_named_k : Cond.instanceMethod mi_La_named.1 ∈ bt_gw := bt_gin (bt_tin3 (List.mem_of_getElem? (i := 10) (by decide +kernel))) rfl
theorem vm_La_named_s : Cond.selects mi_La_named.1.cls mi_La_named.1 mi_La_named.1 ∈ bt_gw := bt_gin (List.mem_of_getElem? (i := 16) (by decide +kernel)) rfl
theorem bv_La_112 : bt_lkV "BellTrees$Law" 112 mi_La_named 2 2 := ⟨⟨1, bt_T2, 15, rfl, rfl, vm_La_named⟩, bt_gin (bt_tin3 (List.mem_of_getElem? (i := 8) (by decide +kernel))) rfl, vm_La_named_k, vm_La_named_s⟩
theorem vm_La_joined : bt_lkM mi_La_joined 3 := ⟨bt_gin (bt_tin3 (List.mem_of_getElem? (i := 14) (by decide +kernel))) rfl, bt_gin (bt_tin1 (List.mem_of_getElem? (i := 4) (by decide +kernel))) rfl, ⟨by decide +kernel, by decide +kernel, by decide +kernel⟩, by decide +kernel⟩
theorem vm_La_joined_k : Cond.static mi_La_joined.1 ∈ bt_gw := bt_gin (bt_tin3 (List.mem_of_getElem? (i := 13) (by decide +kernel))) rfl
theorem bs_La_115 : bt_lkS "BellTrees$Law" 115 mi_La_joined 3 := ⟨vm_La_joined, Or.inl (bt_gin (bt_tin3 (List.mem_of_getElem? (i := 12) (by decide +kernel))) rfl), vm_La_joined_k⟩
theorem lg_La_85 : bt_lkF "BellTrees$Law" 85 2 12 false := ⟨bt_R2, bt_T2, 15, bt_ty2, rfl, rfl, bt_inG2, bt_tyok2, bt_nm2, rfl, bt_gin (bt_tin1 (List.mem_of_getElem? (i := 77) (by decide +kernel))) rfl, fun h => by cases h⟩
theorem lg_La_91 : bt_lkF "BellTrees$Law" 91 2 14 false := ⟨bt_R2, bt_T2, 15, bt_ty2, rfl, rfl, bt_inG2, bt_tyok2, bt_nm2, rfl, bt_gin (bt_tin1 (List.mem_of_getElem? (i := 79) (by decide +kernel))) rfl, fun h => by cases h⟩
theorem lg_La_100 : bt_lkF "BellTrees$Law" 100 2 8 false := ⟨bt_R2, bt_T2, 15, bt_ty2, rfl, rfl, bt_inG2, bt_tyok2, bt_nm2, rfl, bt_gin (bt_tin1 (List.mem_of_getElem? (i := 73) (by decide +kernel))) rfl, fun h => by cases h⟩
theorem lg_La_21 : bt_lkF "BellTrees$Law" 21 2 3 false := ⟨bt_R2, bt_T2, 15, bt_ty2, rfl, rfl, bt_inG2, bt_tyok2, bt_nm2, rfl, bt_gin (bt_tin1 (List.mem_of_getElem? (i := 68) (by decide +kernel))) rfl, fun h => by cases h⟩
theorem lg_So_20 : bt_lkF "BellTrees$Sounds" 20 3 0 false := ⟨bt_R3, bt_T3, 4, bt_ty3, rfl, rfl, bt_inG3, bt_tyok3, bt_nm3, rfl, bt_gin (bt_tin1 (List.mem_of_getElem? (i := 118) (by decide +kernel))) rfl, fun h => by cases h⟩
theorem bv_So_28 : bt_lkV "BellTrees$Sounds" 28 mi_Fo_get 3 1 := ⟨⟨2, bt_T1, 7, rfl, rfl, vm_Fo_get⟩, bt_gin (bt_tin2 (List.mem_of_getElem? (i := 215) (by decide +kernel))) rfl, vm_Fo_get_k, vm_Fo_get_s⟩
theorem bv_So_34 : bt_lkV "BellTrees$Sounds" 34 mi_Fo_measureFar 1 1 := ⟨⟨0, bt_T1, 7, rfl, rfl, vm_Fo_measureFar⟩, bt_gin (bt_tin2 (List.mem_of_getElem? (i := 216) (by decide +kernel))) rfl, vm_Fo_measureFar_k, vm_Fo_measureFar_s⟩
theorem bv_So_37 : bt_lkV "BellTrees$Sounds" 37 mi_Fo_has 2 1 := ⟨⟨1, bt_T1, 7, rfl, rfl, vm_Fo_has⟩, bt_gin (bt_tin2 (List.mem_of_getElem? (i := 217) (by decide +kernel))) rfl, vm_Fo_has_k, vm_Fo_has_s⟩
theorem vm_Fo_rings : bt_lkM mi_Fo_rings 2 := ⟨bt_gin (bt_tin2 (List.mem_of_getElem? (i := 221) (by decide +kernel))) rfl, bt_gin (bt_tin1 (List.mem_of_getElem? (i := 2) (by decide +kernel))) rfl, ⟨by decide +kernel, by decide +kernel, by decide +kernel⟩, by decide +kernel⟩
theorem vm_Fo_rings_k : Cond.instanceMethod mi_Fo_rings.1 ∈ bt_gw := bt_gin (bt_tin2 (List.mem_of_getElem? (i := 219) (by decide +kernel))) rfl
theorem vm_Fo_rings_s : Cond.selects mi_Fo_rings.1.cls mi_Fo_rings.1 mi_Fo_rings.1 ∈ bt_gw := bt_gin (bt_tin2 (List.mem_of_getElem? (i := 220) (by decide +kernel))) rfl
theorem bv_So_41 : bt_lkV "BellTrees$Sounds" 41 mi_Fo_rings 3 1 := ⟨⟨2, bt_T1, 7, rfl, rfl, vm_Fo_rings⟩, bt_gin (bt_tin2 (List.mem_of_getElem? (i := 218) (by decide +kernel))) rfl, vm_Fo_rings_k, vm_Fo_rings_s⟩
theorem lg_So_24 : bt_lkF "BellTrees$Sounds" 24 3 1 false := ⟨bt_R3, bt_T3, 4, bt_ty3, rfl, rfl, bt_inG3, bt_tyok3, bt_nm3, rfl, bt_gin (bt_tin1 (List.mem_of_getElem? (i := 119) (by decide +kernel))) rfl, fun h => by cases h⟩
theorem bv_So_45 : bt_lkV "BellTrees$Sounds" 45 mi_Fo_farMeasured 2 1 := ⟨⟨1, bt_T1, 7, rfl, rfl, vm_Fo_farMeasured⟩, bt_gin (bt_tin2 (List.mem_of_getElem? (i := 222) (by decide +kernel))) rfl, vm_Fo_farMeasured_k, vm_Fo_farMeasured_s⟩
theorem vm_La_ask : bt_lkM mi_La_ask 5 := ⟨bt_gin (bt_tin2 (List.mem_of_getElem? (i := 226) (by decide +kernel))) rfl, bt_gin (bt_tin1 (List.mem_of_getElem? (i := 4) (by decide +kernel))) rfl, ⟨by decide +kernel, by decide +kernel, by decide +kernel⟩, by decide +kernel⟩
theorem vm_La_ask_k : Cond.instanceMethod mi_La_ask.1 ∈ bt_gw := bt_gin (bt_tin2 (List.mem_of_getElem? (i := 224) (by decide +kernel))) rfl
theorem vm_La_ask_s : Cond.selects mi_La_ask.1.cls mi_La_ask.1 mi_La_ask.1 ∈ bt_gw := bt_gin (bt_tin2 (List.mem_of_getElem? (i := 225) (by decide +kernel))) rfl
theorem bv_So_49 : bt_lkV "BellTrees$Sounds" 49 mi_La_ask 6 2 := ⟨⟨5, bt_T2, 15, rfl, rfl, vm_La_ask⟩, bt_gin (bt_tin2 (List.mem_of_getElem? (i := 223) (by decide +kernel))) rfl, vm_La_ask_k, vm_La_ask_s⟩
theorem lg_So_16 : bt_lkF "BellTrees$Sounds" 16 3 3 false := ⟨bt_R3, bt_T3, 4, bt_ty3, rfl, rfl, bt_inG3, bt_tyok3, bt_nm3, rfl, bt_gin (bt_tin1 (List.mem_of_getElem? (i := 121) (by decide +kernel))) rfl, fun h => by cases h⟩
theorem bs_So_55 : bt_lkS "BellTrees$Sounds" 55 mi_JA_fillI 2 := ⟨vm_JA_fillI, Or.inl (bt_gin (bt_tin2 (List.mem_of_getElem? (i := 227) (by decide +kernel))) rfl), vm_JA_fillI_k⟩
theorem lg_So_11 : bt_lkF "BellTrees$Sounds" 11 3 2 false := ⟨bt_R3, bt_T3, 4, bt_ty3, rfl, rfl, bt_inG3, bt_tyok3, bt_nm3, rfl, bt_gin (bt_tin1 (List.mem_of_getElem? (i := 120) (by decide +kernel))) rfl, fun h => by cases h⟩
theorem vm_So_isHeard : bt_lkM mi_So_isHeard 1 := ⟨bt_gin (bt_tin2 (List.mem_of_getElem? (i := 231) (by decide +kernel))) rfl, bt_gin (bt_tin1 (List.mem_of_getElem? (i := 5) (by decide +kernel))) rfl, ⟨by decide +kernel, by decide +kernel, by decide +kernel⟩, by decide +kernel⟩
theorem vm_So_isHeard_k : Cond.instanceMethod mi_So_isHeard.1 ∈ bt_gw := bt_gin (bt_tin2 (List.mem_of_getElem? (i := 230) (by decide +kernel))) rfl
theorem vm_So_isHeard_s : Cond.selects mi_So_isHeard.1.cls mi_So_isHeard.1 mi_So_isHeard.1 ∈ bt_gw := bt_gin (List.mem_of_getElem? (i := 12) (by decide +kernel)) rfl
theorem bv_So_61 : bt_lkV "BellTrees$Sounds" 61 mi_So_isHeard 2 3 := ⟨⟨1, bt_T3, 4, rfl, rfl, vm_So_isHeard⟩, bt_gin (bt_tin2 (List.mem_of_getElem? (i := 228) (by decide +kernel))) rfl, vm_So_isHeard_k, vm_So_isHeard_s⟩
theorem vm_La_hears : bt_lkM mi_La_hears 1 := ⟨bt_gin (bt_tin2 (List.mem_of_getElem? (i := 235) (by decide +kernel))) rfl, bt_gin (bt_tin1 (List.mem_of_getElem? (i := 4) (by decide +kernel))) rfl, ⟨by decide +kernel, by decide +kernel, by decide +kernel⟩, by decide +kernel⟩
theorem vm_La_hears_k : Cond.instanceMethod mi_La_hears.1 ∈ bt_gw := bt_gin (bt_tin2 (List.mem_of_getElem? (i := 233) (by decide +kernel))) rfl
theorem vm_La_hears_s : Cond.selects mi_La_hears.1.cls mi_La_hears.1 mi_La_hears.1 ∈ bt_gw := bt_gin (bt_tin2 (List.mem_of_getElem? (i := 234) (by decide +kernel))) rfl
theorem bv_So_64 : bt_lkV "BellTrees$Sounds" 64 mi_La_hears 2 2 := ⟨⟨1, bt_T2, 15, rfl, rfl, vm_La_hears⟩, bt_gin (bt_tin2 (List.mem_of_getElem? (i := 232) (by decide +kernel))) rfl, vm_La_hears_k, vm_La_hears_s⟩
theorem bs_So_67 : bt_lkS "BellTrees$Sounds" 67 mi_B_isMinute 1 := ⟨vm_B_isMinute, Or.inr ⟨"BellTrees", by decide +kernel⟩, vm_B_isMinute_k⟩
theorem bv_So_70 : bt_lkV "BellTrees$Sounds" 70 mi_So_at 3 3 := ⟨⟨2, bt_T3, 4, rfl, rfl, vm_So_at⟩, bt_gin (bt_tin3 (List.mem_of_getElem? (i := 105) (by decide +kernel))) rfl, vm_So_at_k, vm_So_at_s⟩
theorem bv_So_73 : bt_lkV "BellTrees$Sounds" 73 mi_Fo_size 1 1 := ⟨⟨0, bt_T1, 7, rfl, rfl, vm_Fo_size⟩, bt_gin (bt_tin3 (List.mem_of_getElem? (i := 104) (by decide +kernel))) rfl, vm_Fo_size_k, vm_Fo_size_s⟩
theorem bv_Wa_20 : bt_lkV "BellTrees$Walks" 20 mi_Sh_minutes 1 8 := ⟨⟨0, bt_T8, 4, rfl, rfl, vm_Sh_minutes⟩, bt_gin (bt_tin3 (List.mem_of_getElem? (i := 43) (by decide +kernel))) rfl, vm_Sh_minutes_k, vm_Sh_minutes_s⟩
theorem lg_Wa_16 : bt_lkF "BellTrees$Walks" 16 4 0 false := ⟨bt_R4, bt_T4, 2, bt_ty4, rfl, rfl, bt_inG4, bt_tyok4, bt_nm4, rfl, bt_gin (bt_tin1 (List.mem_of_getElem? (i := 138) (by decide +kernel))) rfl, fun h => by cases h⟩
theorem bv_Wa_26 : bt_lkV "BellTrees$Walks" 26 mi_Fo_size 1 1 := ⟨⟨0, bt_T1, 7, rfl, rfl, vm_Fo_size⟩, bt_gin (bt_tin3 (List.mem_of_getElem? (i := 44) (by decide +kernel))) rfl, vm_Fo_size_k, vm_Fo_size_s⟩
theorem bv_Wa_31 : bt_lkV "BellTrees$Walks" 31 mi_So_at 3 3 := ⟨⟨2, bt_T3, 4, rfl, rfl, vm_So_at⟩, bt_gin (bt_tin3 (List.mem_of_getElem? (i := 48) (by decide +kernel))) rfl, vm_So_at_k, vm_So_at_s⟩
theorem bv_Wa_37 : bt_lkV "BellTrees$Walks" 37 mi_Sh_at 2 8 := ⟨⟨1, bt_T8, 4, rfl, rfl, vm_Sh_at⟩, bt_gin (bt_tin3 (List.mem_of_getElem? (i := 49) (by decide +kernel))) rfl, vm_Sh_at_k, vm_Sh_at_s⟩
theorem bv_Wa_40 : bt_lkV "BellTrees$Walks" 40 mi_Fo_around 2 1 := ⟨⟨1, bt_T1, 7, rfl, rfl, vm_Fo_around⟩, bt_gin (bt_tin3 (List.mem_of_getElem? (i := 50) (by decide +kernel))) rfl, vm_Fo_around_k, vm_Fo_around_s⟩
theorem vm_Wa_ways : bt_lkM mi_Wa_ways 2 := ⟨bt_gin (bt_tin3 (List.mem_of_getElem? (i := 57) (by decide +kernel))) rfl, bt_gin (bt_tin1 (List.mem_of_getElem? (i := 6) (by decide +kernel))) rfl, ⟨by decide +kernel, by decide +kernel, by decide +kernel⟩, by decide +kernel⟩
theorem vm_Wa_ways_k : Cond.instanceMethod mi_Wa_ways.1 ∈ bt_gw := bt_gin (bt_tin3 (List.mem_of_getElem? (i := 56) (by decide +kernel))) rfl
theorem vm_Wa_ways_s : Cond.selects mi_Wa_ways.1.cls mi_Wa_ways.1 mi_Wa_ways.1 ∈ bt_gw := bt_gin (List.mem_of_getElem? (i := 19) (by decide +kernel)) rfl
theorem bv_Wa_43 : bt_lkV "BellTrees$Walks" 43 mi_Wa_ways 3 4 := ⟨⟨2, bt_T4, 2, rfl, rfl, vm_Wa_ways⟩, bt_gin (bt_tin3 (List.mem_of_getElem? (i := 54) (by decide +kernel))) rfl, vm_Wa_ways_k, vm_Wa_ways_s⟩
theorem lg_Wa_11 : bt_lkF "BellTrees$Walks" 11 4 1 false := ⟨bt_R4, bt_T4, 2, bt_ty4, rfl, rfl, bt_inG4, bt_tyok4, bt_nm4, rfl, bt_gin (bt_tin1 (List.mem_of_getElem? (i := 139) (by decide +kernel))) rfl, fun h => by cases h⟩
theorem bv_Wa_46 : bt_lkV "BellTrees$Walks" 46 mi_Fo_all 1 1 := ⟨⟨0, bt_T1, 7, rfl, rfl, vm_Fo_all⟩, bt_gin (bt_tin3 (List.mem_of_getElem? (i := 66) (by decide +kernel))) rfl, vm_Fo_all_k, vm_Fo_all_s⟩
theorem lk_Wa_49 : Cond.constant "BellTrees$Walks" 49 999999999 ∈ bt_gw := bt_gin (bt_tin3 (List.mem_of_getElem? (i := 58) (by decide +kernel))) rfl
theorem vm_Wa_onwardAt : bt_lkM mi_Wa_onwardAt 2 := ⟨bt_gin (bt_tin3 (List.mem_of_getElem? (i := 62) (by decide +kernel))) rfl, bt_gin (bt_tin1 (List.mem_of_getElem? (i := 6) (by decide +kernel))) rfl, ⟨by decide +kernel, by decide +kernel, by decide +kernel⟩, by decide +kernel⟩
theorem vm_Wa_onwardAt_k : Cond.instanceMethod mi_Wa_onwardAt.1 ∈ bt_gw := bt_gin (bt_tin3 (List.mem_of_getElem? (i := 61) (by decide +kernel))) rfl
theorem vm_Wa_onwardAt_s : Cond.selects mi_Wa_onwardAt.1.cls mi_Wa_onwardAt.1 mi_Wa_onwardAt.1 ∈ bt_gw := bt_gin (List.mem_of_getElem? (i := 20) (by decide +kernel)) rfl
theorem bv_Wa_50 : bt_lkV "BellTrees$Walks" 50 mi_Wa_onwardAt 3 4 := ⟨⟨2, bt_T4, 2, rfl, rfl, vm_Wa_onwardAt⟩, bt_gin (bt_tin3 (List.mem_of_getElem? (i := 59) (by decide +kernel))) rfl, vm_Wa_onwardAt_k, vm_Wa_onwardAt_s⟩
theorem lx_Wa_53 : bt_lkx "BellTrees$Walks" 53 Lib.Math.min.name Lib.Math.min.code := ⟨bt_gin (bt_tin3 (List.mem_of_getElem? (i := 65) (by decide +kernel))) rfl, bt_gin (bt_tin3 (List.mem_of_getElem? (i := 37) (by decide +kernel))) rfl, bt_gin (bt_tin1 (List.mem_of_getElem? (i := 13) (by decide +kernel))) rfl, bt_gin (bt_tin3 (List.mem_of_getElem? (i := 38) (by decide +kernel))) rfl⟩
theorem bs_Wa_58 : bt_lkS "BellTrees$Walks" 58 mi_B_isMinute 1 := ⟨vm_B_isMinute, Or.inr ⟨"BellTrees", by decide +kernel⟩, vm_B_isMinute_k⟩
theorem bv_Wa_62 : bt_lkV "BellTrees$Walks" 62 mi_Fo_has 2 1 := ⟨⟨1, bt_T1, 7, rfl, rfl, vm_Fo_has⟩, bt_gin (bt_tin3 (List.mem_of_getElem? (i := 64) (by decide +kernel))) rfl, vm_Fo_has_k, vm_Fo_has_s⟩
theorem vm_Wa_fittingOf : bt_lkM mi_Wa_fittingOf 2 := ⟨bt_gin (bt_tin3 (List.mem_of_getElem? (i := 77) (by decide +kernel))) rfl, bt_gin (bt_tin1 (List.mem_of_getElem? (i := 6) (by decide +kernel))) rfl, ⟨by decide +kernel, by decide +kernel, by decide +kernel⟩, by decide +kernel⟩
theorem vm_Wa_fittingOf_k : Cond.instanceMethod mi_Wa_fittingOf.1 ∈ bt_gw := bt_gin (bt_tin3 (List.mem_of_getElem? (i := 76) (by decide +kernel))) rfl
theorem vm_Wa_fittingOf_s : Cond.selects mi_Wa_fittingOf.1.cls mi_Wa_fittingOf.1 mi_Wa_fittingOf.1 ∈ bt_gw := bt_gin (List.mem_of_getElem? (i := 21) (by decide +kernel)) rfl
theorem bv_Wa_65 : bt_lkV "BellTrees$Walks" 65 mi_Wa_fittingOf 3 4 := ⟨⟨2, bt_T4, 2, rfl, rfl, vm_Wa_fittingOf⟩, bt_gin (bt_tin3 (List.mem_of_getElem? (i := 74) (by decide +kernel))) rfl, vm_Wa_fittingOf_k, vm_Wa_fittingOf_s⟩
theorem vm_Wa_lowestOf : bt_lkM mi_Wa_lowestOf 1 := ⟨bt_gin (bt_tin3 (List.mem_of_getElem? (i := 80) (by decide +kernel))) rfl, bt_gin (bt_tin1 (List.mem_of_getElem? (i := 6) (by decide +kernel))) rfl, ⟨by decide +kernel, by decide +kernel, by decide +kernel⟩, by decide +kernel⟩
theorem vm_Wa_lowestOf_k : Cond.static mi_Wa_lowestOf.1 ∈ bt_gw := bt_gin (bt_tin3 (List.mem_of_getElem? (i := 79) (by decide +kernel))) rfl
theorem bs_Wa_68 : bt_lkS "BellTrees$Walks" 68 mi_Wa_lowestOf 1 := ⟨vm_Wa_lowestOf, Or.inl (bt_gin (bt_tin3 (List.mem_of_getElem? (i := 78) (by decide +kernel))) rfl), vm_Wa_lowestOf_k⟩
theorem vm_Wa_quietest : bt_lkM mi_Wa_quietest 2 := ⟨bt_gin (bt_tin3 (List.mem_of_getElem? (i := 117) (by decide +kernel))) rfl, bt_gin (bt_tin1 (List.mem_of_getElem? (i := 6) (by decide +kernel))) rfl, ⟨by decide +kernel, by decide +kernel, by decide +kernel⟩, by decide +kernel⟩
theorem vm_Wa_quietest_k : Cond.instanceMethod mi_Wa_quietest.1 ∈ bt_gw := bt_gin (bt_tin3 (List.mem_of_getElem? (i := 116) (by decide +kernel))) rfl
theorem vm_Wa_quietest_s : Cond.selects mi_Wa_quietest.1.cls mi_Wa_quietest.1 mi_Wa_quietest.1 ∈ bt_gw := bt_gin (List.mem_of_getElem? (i := 23) (by decide +kernel)) rfl
theorem bv_Wa_71 : bt_lkV "BellTrees$Walks" 71 mi_Wa_quietest 3 4 := ⟨⟨2, bt_T4, 2, rfl, rfl, vm_Wa_quietest⟩, bt_gin (bt_tin3 (List.mem_of_getElem? (i := 114) (by decide +kernel))) rfl, vm_Wa_quietest_k, vm_Wa_quietest_s⟩
theorem lg_Ch_24 : bt_lkF "BellTrees$Changes" 24 5 4 false := ⟨bt_R5, bt_T5, 6, bt_ty5, rfl, rfl, bt_inG5, bt_tyok5, bt_nm5, rfl, bt_gin (bt_tin1 (List.mem_of_getElem? (i := 155) (by decide +kernel))) rfl, fun h => by cases h⟩
theorem vm_Ch_dropOldest : bt_lkM mi_Ch_dropOldest 0 := ⟨bt_gin (bt_tin2 (List.mem_of_getElem? (i := 115) (by decide +kernel))) rfl, bt_gin (bt_tin1 (List.mem_of_getElem? (i := 7) (by decide +kernel))) rfl, ⟨by decide +kernel, by decide +kernel, by decide +kernel⟩, by decide +kernel⟩
theorem vm_Ch_dropOldest_k : Cond.instanceMethod mi_Ch_dropOldest.1 ∈ bt_gw := bt_gin (bt_tin2 (List.mem_of_getElem? (i := 114) (by decide +kernel))) rfl
theorem vm_Ch_dropOldest_s : Cond.selects mi_Ch_dropOldest.1.cls mi_Ch_dropOldest.1 mi_Ch_dropOldest.1 ∈ bt_gw := bt_gin (List.mem_of_getElem? (i := 3) (by decide +kernel)) rfl
theorem bv_Ch_28 : bt_lkV "BellTrees$Changes" 28 mi_Ch_dropOldest 1 5 := ⟨⟨0, bt_T5, 6, rfl, rfl, vm_Ch_dropOldest⟩, bt_gin (bt_tin2 (List.mem_of_getElem? (i := 112) (by decide +kernel))) rfl, vm_Ch_dropOldest_k, vm_Ch_dropOldest_s⟩
theorem lg_Ch_11 : bt_lkF "BellTrees$Changes" 11 5 0 false := ⟨bt_R5, bt_T5, 6, bt_ty5, rfl, rfl, bt_inG5, bt_tyok5, bt_nm5, rfl, bt_gin (bt_tin1 (List.mem_of_getElem? (i := 151) (by decide +kernel))) rfl, fun h => by cases h⟩
theorem lg_Ch_15 : bt_lkF "BellTrees$Changes" 15 5 1 false := ⟨bt_R5, bt_T5, 6, bt_ty5, rfl, rfl, bt_inG5, bt_tyok5, bt_nm5, rfl, bt_gin (bt_tin1 (List.mem_of_getElem? (i := 152) (by decide +kernel))) rfl, fun h => by cases h⟩
theorem lg_Ch_18 : bt_lkF "BellTrees$Changes" 18 5 2 false := ⟨bt_R5, bt_T5, 6, bt_ty5, rfl, rfl, bt_inG5, bt_tyok5, bt_nm5, rfl, bt_gin (bt_tin1 (List.mem_of_getElem? (i := 153) (by decide +kernel))) rfl, fun h => by cases h⟩
theorem lg_Ch_21 : bt_lkF "BellTrees$Changes" 21 5 3 false := ⟨bt_R5, bt_T5, 6, bt_ty5, rfl, rfl, bt_inG5, bt_tyok5, bt_nm5, rfl, bt_gin (bt_tin1 (List.mem_of_getElem? (i := 154) (by decide +kernel))) rfl, fun h => by cases h⟩
theorem lp_Ch_24 : bt_lkF "BellTrees$Changes" 24 5 4 true := ⟨bt_R5, bt_T5, 6, bt_ty5, rfl, rfl, bt_inG5, bt_tyok5, bt_nm5, rfl, bt_gin (bt_tin1 (List.mem_of_getElem? (i := 155) (by decide +kernel))) rfl, fun _ => ⟨rfl, Or.inl ⟨rfl, rfl⟩⟩⟩
theorem lp_Ch_31 : bt_lkF "BellTrees$Changes" 31 5 5 true := ⟨bt_R5, bt_T5, 6, bt_ty5, rfl, rfl, bt_inG5, bt_tyok5, bt_nm5, rfl, bt_gin (bt_tin1 (List.mem_of_getElem? (i := 156) (by decide +kernel))) rfl, fun _ => ⟨rfl, Or.inl ⟨rfl, rfl⟩⟩⟩
theorem lc_Ch_34 : bt_lkC "BellTrees$Changes" 34 := ⟨bt_gin (bt_tin2 (List.mem_of_getElem? (i := 116) (by decide +kernel))) rfl, bt_gin (bt_tin2 (List.mem_of_getElem? (i := 118) (by decide +kernel))) rfl, bt_gin (bt_tin2 (List.mem_of_getElem? (i := 117) (by decide +kernel))) rfl, bt_gin (bt_tin1 (List.mem_of_getElem? (i := 12) (by decide +kernel))) rfl⟩
theorem bv_Ch_40 : bt_lkV "BellTrees$Changes" 40 mi_Fo_set 4 1 := ⟨⟨3, bt_T1, 7, rfl, rfl, vm_Fo_set⟩, bt_gin (bt_tin4 (List.mem_of_getElem? (i := 50) (by decide +kernel))) rfl, vm_Fo_set_k, vm_Fo_set_s⟩
theorem lg_Ch_31 : bt_lkF "BellTrees$Changes" 31 5 5 false := ⟨bt_R5, bt_T5, 6, bt_ty5, rfl, rfl, bt_inG5, bt_tyok5, bt_nm5, rfl, bt_gin (bt_tin1 (List.mem_of_getElem? (i := 156) (by decide +kernel))) rfl, fun h => by cases h⟩
theorem lp_Im_24 : bt_lkF "BellTrees$Image" 24 6 4 true := ⟨bt_R6, bt_T6, 7, bt_ty6, rfl, rfl, bt_inG6, bt_tyok6, bt_nm6, rfl, bt_gin (bt_tin1 (List.mem_of_getElem? (i := 180) (by decide +kernel))) rfl, fun _ => ⟨rfl, Or.inr ⟨rfl, rfl⟩⟩⟩
theorem bv_Im_28 : bt_lkV "BellTrees$Image" 28 mi_Fo_size 1 1 := ⟨⟨0, bt_T1, 7, rfl, rfl, vm_Fo_size⟩, bt_gin (bt_tin4 (List.mem_of_getElem? (i := 24) (by decide +kernel))) rfl, vm_Fo_size_k, vm_Fo_size_s⟩
theorem lp_Im_34 : bt_lkF "BellTrees$Image" 34 6 5 true := ⟨bt_R6, bt_T6, 7, bt_ty6, rfl, rfl, bt_inG6, bt_tyok6, bt_nm6, rfl, bt_gin (bt_tin1 (List.mem_of_getElem? (i := 181) (by decide +kernel))) rfl, fun _ => ⟨rfl, Or.inl ⟨rfl, rfl⟩⟩⟩
theorem bv_Im_38 : bt_lkV "BellTrees$Image" 38 mi_Fo_walked 1 1 := ⟨⟨0, bt_T1, 7, rfl, rfl, vm_Fo_walked⟩, bt_gin (bt_tin4 (List.mem_of_getElem? (i := 25) (by decide +kernel))) rfl, vm_Fo_walked_k, vm_Fo_walked_s⟩
theorem lp_Im_41 : bt_lkF "BellTrees$Image" 41 6 6 true := ⟨bt_R6, bt_T6, 7, bt_ty6, rfl, rfl, bt_inG6, bt_tyok6, bt_nm6, rfl, bt_gin (bt_tin1 (List.mem_of_getElem? (i := 182) (by decide +kernel))) rfl, fun _ => ⟨rfl, Or.inl ⟨rfl, rfl⟩⟩⟩
theorem lg_Im_9 : bt_lkF "BellTrees$Image" 9 6 0 false := ⟨bt_R6, bt_T6, 7, bt_ty6, rfl, rfl, bt_inG6, bt_tyok6, bt_nm6, rfl, bt_gin (bt_tin1 (List.mem_of_getElem? (i := 176) (by decide +kernel))) rfl, fun h => by cases h⟩
theorem bv_Im_44 : bt_lkV "BellTrees$Image" 44 mi_Fo_get 3 1 := ⟨⟨2, bt_T1, 7, rfl, rfl, vm_Fo_get⟩, bt_gin (bt_tin4 (List.mem_of_getElem? (i := 26) (by decide +kernel))) rfl, vm_Fo_get_k, vm_Fo_get_s⟩
theorem lg_Im_15 : bt_lkF "BellTrees$Image" 15 6 1 false := ⟨bt_R6, bt_T6, 7, bt_ty6, rfl, rfl, bt_inG6, bt_tyok6, bt_nm6, rfl, bt_gin (bt_tin1 (List.mem_of_getElem? (i := 177) (by decide +kernel))) rfl, fun h => by cases h⟩
theorem lg_Im_18 : bt_lkF "BellTrees$Image" 18 6 2 false := ⟨bt_R6, bt_T6, 7, bt_ty6, rfl, rfl, bt_inG6, bt_tyok6, bt_nm6, rfl, bt_gin (bt_tin1 (List.mem_of_getElem? (i := 178) (by decide +kernel))) rfl, fun h => by cases h⟩
theorem lg_Im_21 : bt_lkF "BellTrees$Image" 21 6 3 false := ⟨bt_R6, bt_T6, 7, bt_ty6, rfl, rfl, bt_inG6, bt_tyok6, bt_nm6, rfl, bt_gin (bt_tin1 (List.mem_of_getElem? (i := 179) (by decide +kernel))) rfl, fun h => by cases h⟩
theorem bv_Im_48 : bt_lkV "BellTrees$Image" 48 mi_Fo_heardOf 2 1 := ⟨⟨1, bt_T1, 7, rfl, rfl, vm_Fo_heardOf⟩, bt_gin (bt_tin4 (List.mem_of_getElem? (i := 27) (by decide +kernel))) rfl, vm_Fo_heardOf_k, vm_Fo_heardOf_s⟩
theorem lg_Im_34 : bt_lkF "BellTrees$Image" 34 6 5 false := ⟨bt_R6, bt_T6, 7, bt_ty6, rfl, rfl, bt_inG6, bt_tyok6, bt_nm6, rfl, bt_gin (bt_tin1 (List.mem_of_getElem? (i := 181) (by decide +kernel))) rfl, fun h => by cases h⟩
theorem lg_Im_24 : bt_lkF "BellTrees$Image" 24 6 4 false := ⟨bt_R6, bt_T6, 7, bt_ty6, rfl, rfl, bt_inG6, bt_tyok6, bt_nm6, rfl, bt_gin (bt_tin1 (List.mem_of_getElem? (i := 180) (by decide +kernel))) rfl, fun h => by cases h⟩
theorem bv_Im_52 : bt_lkV "BellTrees$Image" 52 mi_Fo_set 4 1 := ⟨⟨3, bt_T1, 7, rfl, rfl, vm_Fo_set⟩, bt_gin (bt_tin4 (List.mem_of_getElem? (i := 36) (by decide +kernel))) rfl, vm_Fo_set_k, vm_Fo_set_s⟩
theorem bv_Im_56 : bt_lkV "BellTrees$Image" 56 mi_Fo_setHeard 3 1 := ⟨⟨2, bt_T1, 7, rfl, rfl, vm_Fo_setHeard⟩, bt_gin (bt_tin4 (List.mem_of_getElem? (i := 37) (by decide +kernel))) rfl, vm_Fo_setHeard_k, vm_Fo_setHeard_s⟩
theorem lg_Im_41 : bt_lkF "BellTrees$Image" 41 6 6 false := ⟨bt_R6, bt_T6, 7, bt_ty6, rfl, rfl, bt_inG6, bt_tyok6, bt_nm6, rfl, bt_gin (bt_tin1 (List.mem_of_getElem? (i := 182) (by decide +kernel))) rfl, fun h => by cases h⟩
theorem vm_Fo_setWalked : bt_lkM mi_Fo_setWalked 1 := ⟨bt_gin (bt_tin4 (List.mem_of_getElem? (i := 41) (by decide +kernel))) rfl, bt_gin (bt_tin1 (List.mem_of_getElem? (i := 2) (by decide +kernel))) rfl, ⟨by decide +kernel, by decide +kernel, by decide +kernel⟩, by decide +kernel⟩
theorem vm_Fo_setWalked_k : Cond.instanceMethod mi_Fo_setWalked.1 ∈ bt_gw := bt_gin (bt_tin4 (List.mem_of_getElem? (i := 39) (by decide +kernel))) rfl
theorem vm_Fo_setWalked_s : Cond.selects mi_Fo_setWalked.1.cls mi_Fo_setWalked.1 mi_Fo_setWalked.1 ∈ bt_gw := bt_gin (bt_tin4 (List.mem_of_getElem? (i := 40) (by decide +kernel))) rfl
theorem bv_Im_60 : bt_lkV "BellTrees$Image" 60 mi_Fo_setWalked 2 1 := ⟨⟨1, bt_T1, 7, rfl, rfl, vm_Fo_setWalked⟩, bt_gin (bt_tin4 (List.mem_of_getElem? (i := 38) (by decide +kernel))) rfl, vm_Fo_setWalked_k, vm_Fo_setWalked_s⟩
theorem lg_Bo_18 : bt_lkF "BellTrees$Bodies" 18 7 2 false := ⟨bt_R7, bt_T7, 5, bt_ty7, rfl, rfl, bt_inG7, bt_tyok7, bt_nm7, rfl, bt_gin (bt_tin1 (List.mem_of_getElem? (i := 206) (by decide +kernel))) rfl, fun h => by cases h⟩
theorem lg_Bo_22 : bt_lkF "BellTrees$Bodies" 22 7 3 false := ⟨bt_R7, bt_T7, 5, bt_ty7, rfl, rfl, bt_inG7, bt_tyok7, bt_nm7, rfl, bt_gin (bt_tin1 (List.mem_of_getElem? (i := 207) (by decide +kernel))) rfl, fun h => by cases h⟩
theorem lg_Bo_11 : bt_lkF "BellTrees$Bodies" 11 7 0 false := ⟨bt_R7, bt_T7, 5, bt_ty7, rfl, rfl, bt_inG7, bt_tyok7, bt_nm7, rfl, bt_gin (bt_tin1 (List.mem_of_getElem? (i := 204) (by decide +kernel))) rfl, fun h => by cases h⟩
theorem bv_Bo_25 : bt_lkV "BellTrees$Bodies" 25 mi_Bo_isKind 2 7 := ⟨⟨1, bt_T7, 5, rfl, rfl, vm_Bo_isKind⟩, bt_gin (bt_tin4 (List.mem_of_getElem? (i := 67) (by decide +kernel))) rfl, vm_Bo_isKind_k, vm_Bo_isKind_s⟩
theorem ls_Bo_29 : bt_lkG "BellTrees$Bodies" 29 1 := ⟨by decide, bt_gin (bt_tin4 (List.mem_of_getElem? (i := 105) (by decide +kernel))) rfl⟩
theorem lp_Bo_18 : bt_lkF "BellTrees$Bodies" 18 7 2 true := ⟨bt_R7, bt_T7, 5, bt_ty7, rfl, rfl, bt_inG7, bt_tyok7, bt_nm7, rfl, bt_gin (bt_tin1 (List.mem_of_getElem? (i := 206) (by decide +kernel))) rfl, fun _ => ⟨rfl, Or.inl ⟨rfl, rfl⟩⟩⟩
theorem lg_Bo_15 : bt_lkF "BellTrees$Bodies" 15 7 1 false := ⟨bt_R7, bt_T7, 5, bt_ty7, rfl, rfl, bt_inG7, bt_tyok7, bt_nm7, rfl, bt_gin (bt_tin1 (List.mem_of_getElem? (i := 205) (by decide +kernel))) rfl, fun h => by cases h⟩
theorem lp_Bo_22 : bt_lkF "BellTrees$Bodies" 22 7 3 true := ⟨bt_R7, bt_T7, 5, bt_ty7, rfl, rfl, bt_inG7, bt_tyok7, bt_nm7, rfl, bt_gin (bt_tin1 (List.mem_of_getElem? (i := 207) (by decide +kernel))) rfl, fun _ => ⟨rfl, Or.inl ⟨rfl, rfl⟩⟩⟩
theorem bv_Bo_32 : bt_lkV "BellTrees$Bodies" 32 mi_Bo_kindOf 2 7 := ⟨⟨1, bt_T7, 5, rfl, rfl, vm_Bo_kindOf⟩, bt_gin (bt_tin4 (List.mem_of_getElem? (i := 79) (by decide +kernel))) rfl, vm_Bo_kindOf_k, vm_Bo_kindOf_s⟩
theorem lp_Bo_36 : bt_lkF "BellTrees$Bodies" 36 7 4 true := ⟨bt_R7, bt_T7, 5, bt_ty7, rfl, rfl, bt_inG7, bt_tyok7, bt_nm7, rfl, bt_gin (bt_tin1 (List.mem_of_getElem? (i := 208) (by decide +kernel))) rfl, fun _ => ⟨rfl, Or.inl ⟨rfl, rfl⟩⟩⟩
theorem vm_Bo_runOwn : bt_lkM mi_Bo_runOwn 3 := ⟨bt_gin (bt_tin4 (List.mem_of_getElem? (i := 86) (by decide +kernel))) rfl, bt_gin (bt_tin1 (List.mem_of_getElem? (i := 9) (by decide +kernel))) rfl, ⟨by decide +kernel, by decide +kernel, by decide +kernel⟩, by decide +kernel⟩
theorem vm_Bo_runOwn_k : Cond.instanceMethod mi_Bo_runOwn.1 ∈ bt_gw := bt_gin (bt_tin4 (List.mem_of_getElem? (i := 85) (by decide +kernel))) rfl
theorem vm_Bo_runOwn_s : Cond.selects mi_Bo_runOwn.1.cls mi_Bo_runOwn.1 mi_Bo_runOwn.1 ∈ bt_gw := bt_gin (List.mem_of_getElem? (i := 34) (by decide +kernel)) rfl
theorem bv_Bo_39 : bt_lkV "BellTrees$Bodies" 39 mi_Bo_runOwn 4 7 := ⟨⟨3, bt_T7, 5, rfl, rfl, vm_Bo_runOwn⟩, bt_gin (bt_tin4 (List.mem_of_getElem? (i := 83) (by decide +kernel))) rfl, vm_Bo_runOwn_k, vm_Bo_runOwn_s⟩
theorem lg_Bo_36 : bt_lkF "BellTrees$Bodies" 36 7 4 false := ⟨bt_R7, bt_T7, 5, bt_ty7, rfl, rfl, bt_inG7, bt_tyok7, bt_nm7, rfl, bt_gin (bt_tin1 (List.mem_of_getElem? (i := 208) (by decide +kernel))) rfl, fun h => by cases h⟩
theorem vm_Bo_runFrom : bt_lkM mi_Bo_runFrom 4 := ⟨bt_gin (bt_tin4 (List.mem_of_getElem? (i := 90) (by decide +kernel))) rfl, bt_gin (bt_tin1 (List.mem_of_getElem? (i := 9) (by decide +kernel))) rfl, ⟨by decide +kernel, by decide +kernel, by decide +kernel⟩, by decide +kernel⟩
theorem vm_Bo_runFrom_k : Cond.instanceMethod mi_Bo_runFrom.1 ∈ bt_gw := bt_gin (bt_tin4 (List.mem_of_getElem? (i := 89) (by decide +kernel))) rfl
theorem vm_Bo_runFrom_s : Cond.selects mi_Bo_runFrom.1.cls mi_Bo_runFrom.1 mi_Bo_runFrom.1 ∈ bt_gw := bt_gin (List.mem_of_getElem? (i := 35) (by decide +kernel)) rfl
theorem bv_Bo_43 : bt_lkV "BellTrees$Bodies" 43 mi_Bo_runFrom 5 7 := ⟨⟨4, bt_T7, 5, rfl, rfl, vm_Bo_runFrom⟩, bt_gin (bt_tin4 (List.mem_of_getElem? (i := 87) (by decide +kernel))) rfl, vm_Bo_runFrom_k, vm_Bo_runFrom_s⟩
theorem ls_Bo_47 : bt_lkG "BellTrees$Bodies" 47 2 := ⟨by decide, bt_gin (bt_tin4 (List.mem_of_getElem? (i := 91) (by decide +kernel))) rfl⟩
theorem vm_Bo_runBody : bt_lkM mi_Bo_runBody 4 := ⟨bt_gin (bt_tin4 (List.mem_of_getElem? (i := 96) (by decide +kernel))) rfl, bt_gin (bt_tin1 (List.mem_of_getElem? (i := 9) (by decide +kernel))) rfl, ⟨by decide +kernel, by decide +kernel, by decide +kernel⟩, by decide +kernel⟩
theorem vm_Bo_runBody_k : Cond.instanceMethod mi_Bo_runBody.1 ∈ bt_gw := bt_gin (bt_tin4 (List.mem_of_getElem? (i := 95) (by decide +kernel))) rfl
theorem vm_Bo_runBody_s : Cond.selects mi_Bo_runBody.1.cls mi_Bo_runBody.1 mi_Bo_runBody.1 ∈ bt_gw := bt_gin (List.mem_of_getElem? (i := 36) (by decide +kernel)) rfl
theorem bv_Bo_50 : bt_lkV "BellTrees$Bodies" 50 mi_Bo_runBody 5 7 := ⟨⟨4, bt_T7, 5, rfl, rfl, vm_Bo_runBody⟩, bt_gin (bt_tin4 (List.mem_of_getElem? (i := 93) (by decide +kernel))) rfl, vm_Bo_runBody_k, vm_Bo_runBody_s⟩
theorem vm_Bo_note : bt_lkM mi_Bo_note 1 := ⟨bt_gin (bt_tin4 (List.mem_of_getElem? (i := 100) (by decide +kernel))) rfl, bt_gin (bt_tin1 (List.mem_of_getElem? (i := 9) (by decide +kernel))) rfl, ⟨by decide +kernel, by decide +kernel, by decide +kernel⟩, by decide +kernel⟩
theorem vm_Bo_note_k : Cond.instanceMethod mi_Bo_note.1 ∈ bt_gw := bt_gin (bt_tin4 (List.mem_of_getElem? (i := 99) (by decide +kernel))) rfl
theorem vm_Bo_note_s : Cond.selects mi_Bo_note.1.cls mi_Bo_note.1 mi_Bo_note.1 ∈ bt_gw := bt_gin (List.mem_of_getElem? (i := 37) (by decide +kernel)) rfl
theorem bv_Bo_53 : bt_lkV "BellTrees$Bodies" 53 mi_Bo_note 2 7 := ⟨⟨1, bt_T7, 5, rfl, rfl, vm_Bo_note⟩, bt_gin (bt_tin4 (List.mem_of_getElem? (i := 97) (by decide +kernel))) rfl, vm_Bo_note_k, vm_Bo_note_s⟩
theorem vm_Bo_runAbove : bt_lkM mi_Bo_runAbove 4 := ⟨bt_gin (bt_tin4 (List.mem_of_getElem? (i := 104) (by decide +kernel))) rfl, bt_gin (bt_tin1 (List.mem_of_getElem? (i := 9) (by decide +kernel))) rfl, ⟨by decide +kernel, by decide +kernel, by decide +kernel⟩, by decide +kernel⟩
theorem vm_Bo_runAbove_k : Cond.instanceMethod mi_Bo_runAbove.1 ∈ bt_gw := bt_gin (bt_tin4 (List.mem_of_getElem? (i := 103) (by decide +kernel))) rfl
theorem vm_Bo_runAbove_s : Cond.selects mi_Bo_runAbove.1.cls mi_Bo_runAbove.1 mi_Bo_runAbove.1 ∈ bt_gw := bt_gin (List.mem_of_getElem? (i := 38) (by decide +kernel)) rfl
theorem bv_Bo_57 : bt_lkV "BellTrees$Bodies" 57 mi_Bo_runAbove 5 7 := ⟨⟨4, bt_T7, 5, rfl, rfl, vm_Bo_runAbove⟩, bt_gin (bt_tin4 (List.mem_of_getElem? (i := 101) (by decide +kernel))) rfl, vm_Bo_runAbove_k, vm_Bo_runAbove_s⟩
theorem lg_Sh_15 : bt_lkF "BellTrees$Shelf" 15 8 1 false := ⟨bt_R8, bt_T8, 4, bt_ty8, rfl, rfl, bt_inG8, bt_tyok8, bt_nm8, rfl, bt_gin (bt_tin1 (List.mem_of_getElem? (i := 228) (by decide +kernel))) rfl, fun h => by cases h⟩
theorem lg_Sh_19 : bt_lkF "BellTrees$Shelf" 19 8 2 false := ⟨bt_R8, bt_T8, 4, bt_ty8, rfl, rfl, bt_inG8, bt_tyok8, bt_nm8, rfl, bt_gin (bt_tin1 (List.mem_of_getElem? (i := 229) (by decide +kernel))) rfl, fun h => by cases h⟩
theorem lp_Sh_15 : bt_lkF "BellTrees$Shelf" 15 8 1 true := ⟨bt_R8, bt_T8, 4, bt_ty8, rfl, rfl, bt_inG8, bt_tyok8, bt_nm8, rfl, bt_gin (bt_tin1 (List.mem_of_getElem? (i := 228) (by decide +kernel))) rfl, fun _ => ⟨rfl, Or.inl ⟨rfl, rfl⟩⟩⟩
theorem lp_Sh_19 : bt_lkF "BellTrees$Shelf" 19 8 2 true := ⟨bt_R8, bt_T8, 4, bt_ty8, rfl, rfl, bt_inG8, bt_tyok8, bt_nm8, rfl, bt_gin (bt_tin1 (List.mem_of_getElem? (i := 229) (by decide +kernel))) rfl, fun _ => ⟨rfl, Or.inl ⟨rfl, rfl⟩⟩⟩
theorem lp_Sh_22 : bt_lkF "BellTrees$Shelf" 22 8 3 true := ⟨bt_R8, bt_T8, 4, bt_ty8, rfl, rfl, bt_inG8, bt_tyok8, bt_nm8, rfl, bt_gin (bt_tin1 (List.mem_of_getElem? (i := 230) (by decide +kernel))) rfl, fun _ => ⟨rfl, Or.inl ⟨rfl, rfl⟩⟩⟩
theorem lx_Sh_25 : bt_lkx "BellTrees$Shelf" 25 Lib.Math.min.name Lib.Math.min.code := ⟨bt_gin (bt_tin3 (List.mem_of_getElem? (i := 36) (by decide +kernel))) rfl, bt_gin (bt_tin3 (List.mem_of_getElem? (i := 37) (by decide +kernel))) rfl, bt_gin (bt_tin1 (List.mem_of_getElem? (i := 13) (by decide +kernel))) rfl, bt_gin (bt_tin3 (List.mem_of_getElem? (i := 38) (by decide +kernel))) rfl⟩
theorem lx_Sh_31 : bt_lkx "BellTrees$Shelf" 31 Lib.Math.max.name Lib.Math.max.code := ⟨bt_gin (bt_tin4 (List.mem_of_getElem? (i := 135) (by decide +kernel))) rfl, bt_gin (bt_tin3 (List.mem_of_getElem? (i := 232) (by decide +kernel))) rfl, bt_gin (bt_tin1 (List.mem_of_getElem? (i := 13) (by decide +kernel))) rfl, bt_gin (bt_tin3 (List.mem_of_getElem? (i := 233) (by decide +kernel))) rfl⟩
theorem lg_Sh_11 : bt_lkF "BellTrees$Shelf" 11 8 0 false := ⟨bt_R8, bt_T8, 4, bt_ty8, rfl, rfl, bt_inG8, bt_tyok8, bt_nm8, rfl, bt_gin (bt_tin1 (List.mem_of_getElem? (i := 227) (by decide +kernel))) rfl, fun h => by cases h⟩
theorem vm_JA_fillL : bt_lkM mi_JA_fillL 2 := ⟨bt_gin (bt_tin4 (List.mem_of_getElem? (i := 138) (by decide +kernel))) rfl, bt_gin (bt_tin1 (List.mem_of_getElem? (i := 3) (by decide +kernel))) rfl, ⟨by decide +kernel, by decide +kernel, by decide +kernel⟩, by decide +kernel⟩
theorem vm_JA_fillL_k : Cond.static mi_JA_fillL.1 ∈ bt_gw := bt_gin (bt_tin4 (List.mem_of_getElem? (i := 137) (by decide +kernel))) rfl
theorem bs_Sh_34 : bt_lkS "BellTrees$Shelf" 34 mi_JA_fillL 2 := ⟨vm_JA_fillL, Or.inl (bt_gin (bt_tin4 (List.mem_of_getElem? (i := 136) (by decide +kernel))) rfl), vm_JA_fillL_k⟩
theorem lg_Sh_22 : bt_lkF "BellTrees$Shelf" 22 8 3 false := ⟨bt_R8, bt_T8, 4, bt_ty8, rfl, rfl, bt_inG8, bt_tyok8, bt_nm8, rfl, bt_gin (bt_tin1 (List.mem_of_getElem? (i := 230) (by decide +kernel))) rfl, fun h => by cases h⟩
theorem bv_Sh_40 : bt_lkV "BellTrees$Shelf" 40 mi_Sh_hasPlaces 3 8 := ⟨⟨2, bt_T8, 4, rfl, rfl, vm_Sh_hasPlaces⟩, bt_gin (bt_tin2 (List.mem_of_getElem? (i := 81) (by decide +kernel))) rfl, vm_Sh_hasPlaces_k, vm_Sh_hasPlaces_s⟩
theorem vm_Sh_lowest : bt_lkM mi_Sh_lowest 1 := ⟨bt_gin (bt_tin4 (List.mem_of_getElem? (i := 158) (by decide +kernel))) rfl, bt_gin (bt_tin1 (List.mem_of_getElem? (i := 10) (by decide +kernel))) rfl, ⟨by decide +kernel, by decide +kernel, by decide +kernel⟩, by decide +kernel⟩
theorem vm_Sh_lowest_k : Cond.instanceMethod mi_Sh_lowest.1 ∈ bt_gw := bt_gin (bt_tin4 (List.mem_of_getElem? (i := 157) (by decide +kernel))) rfl
theorem vm_Sh_lowest_s : Cond.selects mi_Sh_lowest.1.cls mi_Sh_lowest.1 mi_Sh_lowest.1 ∈ bt_gw := bt_gin (List.mem_of_getElem? (i := 40) (by decide +kernel)) rfl
theorem bv_Sh_44 : bt_lkV "BellTrees$Shelf" 44 mi_Sh_lowest 2 8 := ⟨⟨1, bt_T8, 4, rfl, rfl, vm_Sh_lowest⟩, bt_gin (bt_tin4 (List.mem_of_getElem? (i := 155) (by decide +kernel))) rfl, vm_Sh_lowest_k, vm_Sh_lowest_s⟩
theorem lc_Sh_48 : bt_lkC "BellTrees$Shelf" 48 := ⟨bt_gin (bt_tin4 (List.mem_of_getElem? (i := 177) (by decide +kernel))) rfl, bt_gin (bt_tin2 (List.mem_of_getElem? (i := 118) (by decide +kernel))) rfl, bt_gin (bt_tin2 (List.mem_of_getElem? (i := 117) (by decide +kernel))) rfl, bt_gin (bt_tin1 (List.mem_of_getElem? (i := 12) (by decide +kernel))) rfl⟩
theorem bv_Sh_54 : bt_lkV "BellTrees$Shelf" 54 mi_Sh_read 2 8 := ⟨⟨1, bt_T8, 4, rfl, rfl, vm_Sh_read⟩, bt_gin (bt_tin2 (List.mem_of_getElem? (i := 77) (by decide +kernel))) rfl, vm_Sh_read_k, vm_Sh_read_s⟩
theorem lg_M_122 : bt_lkF "BellTreesModel" 122 9 1 false := ⟨bt_R9, bt_T9, 53, bt_ty9, rfl, rfl, bt_inG9, bt_tyok9, bt_nm9, rfl, bt_gin (bt_tin4 (List.mem_of_getElem? (i := 218) (by decide +kernel))) rfl, fun h => by cases h⟩
theorem vm_M_in : bt_lkM mi_M_in 3 := ⟨bt_gin (bt_tin5 (List.mem_of_getElem? (i := 145) (by decide +kernel))) rfl, bt_gin (bt_tin1 (List.mem_of_getElem? (i := 11) (by decide +kernel))) rfl, ⟨by decide +kernel, by decide +kernel, by decide +kernel⟩, by decide +kernel⟩
theorem vm_M_in_k : Cond.static mi_M_in.1 ∈ bt_gw := bt_gin (bt_tin5 (List.mem_of_getElem? (i := 144) (by decide +kernel))) rfl
theorem bs_M_125 : bt_lkS "BellTreesModel" 125 mi_M_in 3 := ⟨vm_M_in, Or.inl (bt_gin (bt_tin5 (List.mem_of_getElem? (i := 143) (by decide +kernel))) rfl), vm_M_in_k⟩
theorem lg_M_7 : bt_lkF "BellTreesModel" 7 9 2 false := ⟨bt_R9, bt_T9, 53, bt_ty9, rfl, rfl, bt_inG9, bt_tyok9, bt_nm9, rfl, bt_gin (bt_tin4 (List.mem_of_getElem? (i := 219) (by decide +kernel))) rfl, fun h => by cases h⟩
theorem lg_M_13 : bt_lkF "BellTreesModel" 13 9 3 false := ⟨bt_R9, bt_T9, 53, bt_ty9, rfl, rfl, bt_inG9, bt_tyok9, bt_nm9, rfl, bt_gin (bt_tin4 (List.mem_of_getElem? (i := 220) (by decide +kernel))) rfl, fun h => by cases h⟩
theorem lg_M_16 : bt_lkF "BellTreesModel" 16 9 4 false := ⟨bt_R9, bt_T9, 53, bt_ty9, rfl, rfl, bt_inG9, bt_tyok9, bt_nm9, rfl, bt_gin (bt_tin4 (List.mem_of_getElem? (i := 221) (by decide +kernel))) rfl, fun h => by cases h⟩
theorem lg_M_19 : bt_lkF "BellTreesModel" 19 9 5 false := ⟨bt_R9, bt_T9, 53, bt_ty9, rfl, rfl, bt_inG9, bt_tyok9, bt_nm9, rfl, bt_gin (bt_tin4 (List.mem_of_getElem? (i := 222) (by decide +kernel))) rfl, fun h => by cases h⟩
theorem lg_M_22 : bt_lkF "BellTreesModel" 22 9 6 false := ⟨bt_R9, bt_T9, 53, bt_ty9, rfl, rfl, bt_inG9, bt_tyok9, bt_nm9, rfl, bt_gin (bt_tin4 (List.mem_of_getElem? (i := 223) (by decide +kernel))) rfl, fun h => by cases h⟩
theorem lg_M_25 : bt_lkF "BellTreesModel" 25 9 7 false := ⟨bt_R9, bt_T9, 53, bt_ty9, rfl, rfl, bt_inG9, bt_tyok9, bt_nm9, rfl, bt_gin (bt_tin4 (List.mem_of_getElem? (i := 224) (by decide +kernel))) rfl, fun h => by cases h⟩
theorem lp_M_122 : bt_lkF "BellTreesModel" 122 9 1 true := ⟨bt_R9, bt_T9, 53, bt_ty9, rfl, rfl, bt_inG9, bt_tyok9, bt_nm9, rfl, bt_gin (bt_tin4 (List.mem_of_getElem? (i := 218) (by decide +kernel))) rfl, fun _ => ⟨rfl, Or.inl ⟨rfl, rfl⟩⟩⟩
theorem vm_M_addTree : bt_lkM mi_M_addTree 3 := ⟨bt_gin (bt_tin5 (List.mem_of_getElem? (i := 149) (by decide +kernel))) rfl, bt_gin (bt_tin1 (List.mem_of_getElem? (i := 11) (by decide +kernel))) rfl, ⟨by decide +kernel, by decide +kernel, by decide +kernel⟩, by decide +kernel⟩
theorem vm_M_addTree_k : Cond.instanceMethod mi_M_addTree.1 ∈ bt_gw := bt_gin (bt_tin5 (List.mem_of_getElem? (i := 148) (by decide +kernel))) rfl
theorem vm_M_addTree_s : Cond.selects mi_M_addTree.1.cls mi_M_addTree.1 mi_M_addTree.1 ∈ bt_gw := bt_gin (List.mem_of_getElem? (i := 41) (by decide +kernel)) rfl
theorem bv_M_129 : bt_lkV "BellTreesModel" 129 mi_M_addTree 4 9 := ⟨⟨3, bt_T9, 53, rfl, rfl, vm_M_addTree⟩, bt_gin (bt_tin5 (List.mem_of_getElem? (i := 146) (by decide +kernel))) rfl, vm_M_addTree_k, vm_M_addTree_s⟩
theorem vm_M_isShelf : bt_lkM mi_M_isShelf 1 := ⟨bt_gin (bt_tin5 (List.mem_of_getElem? (i := 156) (by decide +kernel))) rfl, bt_gin (bt_tin1 (List.mem_of_getElem? (i := 11) (by decide +kernel))) rfl, ⟨by decide +kernel, by decide +kernel, by decide +kernel⟩, by decide +kernel⟩
theorem vm_M_isShelf_k : Cond.static mi_M_isShelf.1 ∈ bt_gw := bt_gin (bt_tin5 (List.mem_of_getElem? (i := 155) (by decide +kernel))) rfl
theorem bs_M_133 : bt_lkS "BellTreesModel" 133 mi_M_isShelf 1 := ⟨vm_M_isShelf, Or.inl (bt_gin (bt_tin5 (List.mem_of_getElem? (i := 154) (by decide +kernel))) rfl), vm_M_isShelf_k⟩
theorem lg_M_107 : bt_lkF "BellTreesModel" 107 9 49 false := ⟨bt_R9, bt_T9, 53, bt_ty9, rfl, rfl, bt_inG9, bt_tyok9, bt_nm9, rfl, bt_gin (bt_tin5 (List.mem_of_getElem? (i := 26) (by decide +kernel))) rfl, fun h => by cases h⟩
theorem lk_M_137 : Cond.constantLong "BellTreesModel" 137 2 ∈ bt_gw := bt_gin (bt_tin5 (List.mem_of_getElem? (i := 157) (by decide +kernel))) rfl
theorem lg_M_110 : bt_lkF "BellTreesModel" 110 9 50 false := ⟨bt_R9, bt_T9, 53, bt_ty9, rfl, rfl, bt_inG9, bt_tyok9, bt_nm9, rfl, bt_gin (bt_tin5 (List.mem_of_getElem? (i := 27) (by decide +kernel))) rfl, fun h => by cases h⟩
theorem lg_M_113 : bt_lkF "BellTreesModel" 113 9 51 false := ⟨bt_R9, bt_T9, 53, bt_ty9, rfl, rfl, bt_inG9, bt_tyok9, bt_nm9, rfl, bt_gin (bt_tin5 (List.mem_of_getElem? (i := 28) (by decide +kernel))) rfl, fun h => by cases h⟩
theorem vm_M_isTree : bt_lkM mi_M_isTree 1 := ⟨bt_gin (bt_tin5 (List.mem_of_getElem? (i := 165) (by decide +kernel))) rfl, bt_gin (bt_tin1 (List.mem_of_getElem? (i := 11) (by decide +kernel))) rfl, ⟨by decide +kernel, by decide +kernel, by decide +kernel⟩, by decide +kernel⟩
theorem vm_M_isTree_k : Cond.instanceMethod mi_M_isTree.1 ∈ bt_gw := bt_gin (bt_tin5 (List.mem_of_getElem? (i := 164) (by decide +kernel))) rfl
theorem vm_M_isTree_s : Cond.selects mi_M_isTree.1.cls mi_M_isTree.1 mi_M_isTree.1 ∈ bt_gw := bt_gin (List.mem_of_getElem? (i := 42) (by decide +kernel)) rfl
theorem bv_M_139 : bt_lkV "BellTreesModel" 139 mi_M_isTree 2 9 := ⟨⟨1, bt_T9, 53, rfl, rfl, vm_M_isTree⟩, bt_gin (bt_tin5 (List.mem_of_getElem? (i := 162) (by decide +kernel))) rfl, vm_M_isTree_k, vm_M_isTree_s⟩
theorem vm_M_areBeside : bt_lkM mi_M_areBeside 2 := ⟨bt_gin (bt_tin5 (List.mem_of_getElem? (i := 169) (by decide +kernel))) rfl, bt_gin (bt_tin1 (List.mem_of_getElem? (i := 11) (by decide +kernel))) rfl, ⟨by decide +kernel, by decide +kernel, by decide +kernel⟩, by decide +kernel⟩
theorem vm_M_areBeside_k : Cond.instanceMethod mi_M_areBeside.1 ∈ bt_gw := bt_gin (bt_tin5 (List.mem_of_getElem? (i := 168) (by decide +kernel))) rfl
theorem vm_M_areBeside_s : Cond.selects mi_M_areBeside.1.cls mi_M_areBeside.1 mi_M_areBeside.1 ∈ bt_gw := bt_gin (List.mem_of_getElem? (i := 43) (by decide +kernel)) rfl
theorem bv_M_142 : bt_lkV "BellTreesModel" 142 mi_M_areBeside 3 9 := ⟨⟨2, bt_T9, 53, rfl, rfl, vm_M_areBeside⟩, bt_gin (bt_tin5 (List.mem_of_getElem? (i := 166) (by decide +kernel))) rfl, vm_M_areBeside_k, vm_M_areBeside_s⟩
theorem lg_M_146 : bt_lkF "BellTreesModel" 146 9 8 false := ⟨bt_R9, bt_T9, 53, bt_ty9, rfl, rfl, bt_inG9, bt_tyok9, bt_nm9, rfl, bt_gin (bt_tin4 (List.mem_of_getElem? (i := 225) (by decide +kernel))) rfl, fun h => by cases h⟩
theorem lp_M_146 : bt_lkF "BellTreesModel" 146 9 8 true := ⟨bt_R9, bt_T9, 53, bt_ty9, rfl, rfl, bt_inG9, bt_tyok9, bt_nm9, rfl, bt_gin (bt_tin4 (List.mem_of_getElem? (i := 225) (by decide +kernel))) rfl, fun _ => ⟨rfl, Or.inl ⟨rfl, rfl⟩⟩⟩
theorem lg_M_28 : bt_lkF "BellTreesModel" 28 9 10 false := ⟨bt_R9, bt_T9, 53, bt_ty9, rfl, rfl, bt_inG9, bt_tyok9, bt_nm9, rfl, bt_gin (bt_tin4 (List.mem_of_getElem? (i := 227) (by decide +kernel))) rfl, fun h => by cases h⟩
theorem lg_M_31 : bt_lkF "BellTreesModel" 31 9 11 false := ⟨bt_R9, bt_T9, 53, bt_ty9, rfl, rfl, bt_inG9, bt_tyok9, bt_nm9, rfl, bt_gin (bt_tin4 (List.mem_of_getElem? (i := 228) (by decide +kernel))) rfl, fun h => by cases h⟩
theorem lg_M_149 : bt_lkF "BellTreesModel" 149 9 12 false := ⟨bt_R9, bt_T9, 53, bt_ty9, rfl, rfl, bt_inG9, bt_tyok9, bt_nm9, rfl, bt_gin (bt_tin4 (List.mem_of_getElem? (i := 229) (by decide +kernel))) rfl, fun h => by cases h⟩
theorem lg_M_152 : bt_lkF "BellTreesModel" 152 9 13 false := ⟨bt_R9, bt_T9, 53, bt_ty9, rfl, rfl, bt_inG9, bt_tyok9, bt_nm9, rfl, bt_gin (bt_tin4 (List.mem_of_getElem? (i := 230) (by decide +kernel))) rfl, fun h => by cases h⟩
theorem lp_M_149 : bt_lkF "BellTreesModel" 149 9 12 true := ⟨bt_R9, bt_T9, 53, bt_ty9, rfl, rfl, bt_inG9, bt_tyok9, bt_nm9, rfl, bt_gin (bt_tin4 (List.mem_of_getElem? (i := 229) (by decide +kernel))) rfl, fun _ => ⟨rfl, Or.inl ⟨rfl, rfl⟩⟩⟩
theorem lp_M_152 : bt_lkF "BellTreesModel" 152 9 13 true := ⟨bt_R9, bt_T9, 53, bt_ty9, rfl, rfl, bt_inG9, bt_tyok9, bt_nm9, rfl, bt_gin (bt_tin4 (List.mem_of_getElem? (i := 230) (by decide +kernel))) rfl, fun _ => ⟨rfl, Or.inl ⟨rfl, rfl⟩⟩⟩
theorem vm_M_valueAt : bt_lkM mi_M_valueAt 2 := ⟨bt_gin (bt_tin5 (List.mem_of_getElem? (i := 203) (by decide +kernel))) rfl, bt_gin (bt_tin1 (List.mem_of_getElem? (i := 11) (by decide +kernel))) rfl, ⟨by decide +kernel, by decide +kernel, by decide +kernel⟩, by decide +kernel⟩
theorem vm_M_valueAt_k : Cond.instanceMethod mi_M_valueAt.1 ∈ bt_gw := bt_gin (bt_tin5 (List.mem_of_getElem? (i := 202) (by decide +kernel))) rfl
theorem vm_M_valueAt_s : Cond.selects mi_M_valueAt.1.cls mi_M_valueAt.1 mi_M_valueAt.1 ∈ bt_gw := bt_gin (List.mem_of_getElem? (i := 47) (by decide +kernel)) rfl
theorem bv_M_155 : bt_lkV "BellTreesModel" 155 mi_M_valueAt 3 9 := ⟨⟨2, bt_T9, 53, rfl, rfl, vm_M_valueAt⟩, bt_gin (bt_tin5 (List.mem_of_getElem? (i := 200) (by decide +kernel))) rfl, vm_M_valueAt_k, vm_M_valueAt_s⟩
theorem lp_M_159 : bt_lkF "BellTreesModel" 159 9 15 true := ⟨bt_R9, bt_T9, 53, bt_ty9, rfl, rfl, bt_inG9, bt_tyok9, bt_nm9, rfl, bt_gin (bt_tin4 (List.mem_of_getElem? (i := 232) (by decide +kernel))) rfl, fun _ => ⟨rfl, Or.inl ⟨rfl, rfl⟩⟩⟩
theorem lg_M_162 : bt_lkF "BellTreesModel" 162 9 14 false := ⟨bt_R9, bt_T9, 53, bt_ty9, rfl, rfl, bt_inG9, bt_tyok9, bt_nm9, rfl, bt_gin (bt_tin4 (List.mem_of_getElem? (i := 231) (by decide +kernel))) rfl, fun h => by cases h⟩
theorem lg_M_34 : bt_lkF "BellTreesModel" 34 9 16 false := ⟨bt_R9, bt_T9, 53, bt_ty9, rfl, rfl, bt_inG9, bt_tyok9, bt_nm9, rfl, bt_gin (bt_tin4 (List.mem_of_getElem? (i := 233) (by decide +kernel))) rfl, fun h => by cases h⟩
theorem lg_M_37 : bt_lkF "BellTreesModel" 37 9 17 false := ⟨bt_R9, bt_T9, 53, bt_ty9, rfl, rfl, bt_inG9, bt_tyok9, bt_nm9, rfl, bt_gin (bt_tin4 (List.mem_of_getElem? (i := 234) (by decide +kernel))) rfl, fun h => by cases h⟩
theorem lg_M_40 : bt_lkF "BellTreesModel" 40 9 18 false := ⟨bt_R9, bt_T9, 53, bt_ty9, rfl, rfl, bt_inG9, bt_tyok9, bt_nm9, rfl, bt_gin (bt_tin4 (List.mem_of_getElem? (i := 235) (by decide +kernel))) rfl, fun h => by cases h⟩
theorem lg_M_43 : bt_lkF "BellTreesModel" 43 9 19 false := ⟨bt_R9, bt_T9, 53, bt_ty9, rfl, rfl, bt_inG9, bt_tyok9, bt_nm9, rfl, bt_gin (bt_tin4 (List.mem_of_getElem? (i := 236) (by decide +kernel))) rfl, fun h => by cases h⟩
theorem lp_M_162 : bt_lkF "BellTreesModel" 162 9 14 true := ⟨bt_R9, bt_T9, 53, bt_ty9, rfl, rfl, bt_inG9, bt_tyok9, bt_nm9, rfl, bt_gin (bt_tin4 (List.mem_of_getElem? (i := 231) (by decide +kernel))) rfl, fun _ => ⟨rfl, Or.inl ⟨rfl, rfl⟩⟩⟩
theorem vm_M_lays : bt_lkM mi_M_lays 3 := ⟨bt_gin (bt_tin5 (List.mem_of_getElem? (i := 177) (by decide +kernel))) rfl, bt_gin (bt_tin1 (List.mem_of_getElem? (i := 11) (by decide +kernel))) rfl, ⟨by decide +kernel, by decide +kernel, by decide +kernel⟩, by decide +kernel⟩
theorem vm_M_lays_k : Cond.instanceMethod mi_M_lays.1 ∈ bt_gw := bt_gin (bt_tin5 (List.mem_of_getElem? (i := 176) (by decide +kernel))) rfl
theorem vm_M_lays_s : Cond.selects mi_M_lays.1.cls mi_M_lays.1 mi_M_lays.1 ∈ bt_gw := bt_gin (List.mem_of_getElem? (i := 44) (by decide +kernel)) rfl
theorem bv_M_165 : bt_lkV "BellTreesModel" 165 mi_M_lays 4 9 := ⟨⟨3, bt_T9, 53, rfl, rfl, vm_M_lays⟩, bt_gin (bt_tin5 (List.mem_of_getElem? (i := 174) (by decide +kernel))) rfl, vm_M_lays_k, vm_M_lays_s⟩
theorem lg_M_159 : bt_lkF "BellTreesModel" 159 9 15 false := ⟨bt_R9, bt_T9, 53, bt_ty9, rfl, rfl, bt_inG9, bt_tyok9, bt_nm9, rfl, bt_gin (bt_tin4 (List.mem_of_getElem? (i := 232) (by decide +kernel))) rfl, fun h => by cases h⟩
theorem vm_M_isMinute : bt_lkM mi_M_isMinute 1 := ⟨bt_gin (bt_tin5 (List.mem_of_getElem? (i := 192) (by decide +kernel))) rfl, bt_gin (bt_tin1 (List.mem_of_getElem? (i := 11) (by decide +kernel))) rfl, ⟨by decide +kernel, by decide +kernel, by decide +kernel⟩, by decide +kernel⟩
theorem vm_M_isMinute_k : Cond.static mi_M_isMinute.1 ∈ bt_gw := bt_gin (bt_tin5 (List.mem_of_getElem? (i := 191) (by decide +kernel))) rfl
theorem bs_M_169 : bt_lkS "BellTreesModel" 169 mi_M_isMinute 1 := ⟨vm_M_isMinute, Or.inl (bt_gin (bt_tin5 (List.mem_of_getElem? (i := 190) (by decide +kernel))) rfl), vm_M_isMinute_k⟩
theorem vm_M_isSort : bt_lkM mi_M_isSort 1 := ⟨bt_gin (bt_tin5 (List.mem_of_getElem? (i := 195) (by decide +kernel))) rfl, bt_gin (bt_tin1 (List.mem_of_getElem? (i := 11) (by decide +kernel))) rfl, ⟨by decide +kernel, by decide +kernel, by decide +kernel⟩, by decide +kernel⟩
theorem vm_M_isSort_k : Cond.static mi_M_isSort.1 ∈ bt_gw := bt_gin (bt_tin5 (List.mem_of_getElem? (i := 194) (by decide +kernel))) rfl
theorem bs_M_172 : bt_lkS "BellTreesModel" 172 mi_M_isSort 1 := ⟨vm_M_isSort, Or.inl (bt_gin (bt_tin5 (List.mem_of_getElem? (i := 193) (by decide +kernel))) rfl), vm_M_isSort_k⟩
theorem vm_M_isThing : bt_lkM mi_M_isThing 2 := ⟨bt_gin (bt_tin5 (List.mem_of_getElem? (i := 189) (by decide +kernel))) rfl, bt_gin (bt_tin1 (List.mem_of_getElem? (i := 11) (by decide +kernel))) rfl, ⟨by decide +kernel, by decide +kernel, by decide +kernel⟩, by decide +kernel⟩
theorem vm_M_isThing_k : Cond.instanceMethod mi_M_isThing.1 ∈ bt_gw := bt_gin (bt_tin5 (List.mem_of_getElem? (i := 188) (by decide +kernel))) rfl
theorem vm_M_isThing_s : Cond.selects mi_M_isThing.1.cls mi_M_isThing.1 mi_M_isThing.1 ∈ bt_gw := bt_gin (List.mem_of_getElem? (i := 45) (by decide +kernel)) rfl
theorem bv_M_175 : bt_lkV "BellTreesModel" 175 mi_M_isThing 3 9 := ⟨⟨2, bt_T9, 53, rfl, rfl, vm_M_isThing⟩, bt_gin (bt_tin5 (List.mem_of_getElem? (i := 186) (by decide +kernel))) rfl, vm_M_isThing_k, vm_M_isThing_s⟩
theorem vm_M_changes : bt_lkM mi_M_changes 3 := ⟨bt_gin (bt_tin5 (List.mem_of_getElem? (i := 199) (by decide +kernel))) rfl, bt_gin (bt_tin1 (List.mem_of_getElem? (i := 11) (by decide +kernel))) rfl, ⟨by decide +kernel, by decide +kernel, by decide +kernel⟩, by decide +kernel⟩
theorem vm_M_changes_k : Cond.instanceMethod mi_M_changes.1 ∈ bt_gw := bt_gin (bt_tin5 (List.mem_of_getElem? (i := 198) (by decide +kernel))) rfl
theorem vm_M_changes_s : Cond.selects mi_M_changes.1.cls mi_M_changes.1 mi_M_changes.1 ∈ bt_gw := bt_gin (List.mem_of_getElem? (i := 46) (by decide +kernel)) rfl
theorem bv_M_178 : bt_lkV "BellTreesModel" 178 mi_M_changes 4 9 := ⟨⟨3, bt_T9, 53, rfl, rfl, vm_M_changes⟩, bt_gin (bt_tin5 (List.mem_of_getElem? (i := 196) (by decide +kernel))) rfl, vm_M_changes_k, vm_M_changes_s⟩
theorem lg_M_46 : bt_lkF "BellTreesModel" 46 9 20 false := ⟨bt_R9, bt_T9, 53, bt_ty9, rfl, rfl, bt_inG9, bt_tyok9, bt_nm9, rfl, bt_gin (bt_tin4 (List.mem_of_getElem? (i := 237) (by decide +kernel))) rfl, fun h => by cases h⟩
theorem lg_M_181 : bt_lkF "BellTreesModel" 181 9 9 false := ⟨bt_R9, bt_T9, 53, bt_ty9, rfl, rfl, bt_inG9, bt_tyok9, bt_nm9, rfl, bt_gin (bt_tin4 (List.mem_of_getElem? (i := 226) (by decide +kernel))) rfl, fun h => by cases h⟩
theorem vm_M_findFar : bt_lkM mi_M_findFar 0 := ⟨bt_gin (bt_tin5 (List.mem_of_getElem? (i := 211) (by decide +kernel))) rfl, bt_gin (bt_tin1 (List.mem_of_getElem? (i := 11) (by decide +kernel))) rfl, ⟨by decide +kernel, by decide +kernel, by decide +kernel⟩, by decide +kernel⟩
theorem vm_M_findFar_k : Cond.instanceMethod mi_M_findFar.1 ∈ bt_gw := bt_gin (bt_tin5 (List.mem_of_getElem? (i := 210) (by decide +kernel))) rfl
theorem vm_M_findFar_s : Cond.selects mi_M_findFar.1.cls mi_M_findFar.1 mi_M_findFar.1 ∈ bt_gw := bt_gin (List.mem_of_getElem? (i := 48) (by decide +kernel)) rfl
theorem bv_M_184 : bt_lkV "BellTreesModel" 184 mi_M_findFar 1 9 := ⟨⟨0, bt_T9, 53, rfl, rfl, vm_M_findFar⟩, bt_gin (bt_tin5 (List.mem_of_getElem? (i := 208) (by decide +kernel))) rfl, vm_M_findFar_k, vm_M_findFar_s⟩
theorem lg_M_187 : bt_lkF "BellTreesModel" 187 9 22 false := ⟨bt_R9, bt_T9, 53, bt_ty9, rfl, rfl, bt_inG9, bt_tyok9, bt_nm9, rfl, bt_gin (bt_tin4 (List.mem_of_getElem? (i := 239) (by decide +kernel))) rfl, fun h => by cases h⟩
theorem lg_M_49 : bt_lkF "BellTreesModel" 49 9 21 false := ⟨bt_R9, bt_T9, 53, bt_ty9, rfl, rfl, bt_inG9, bt_tyok9, bt_nm9, rfl, bt_gin (bt_tin4 (List.mem_of_getElem? (i := 238) (by decide +kernel))) rfl, fun h => by cases h⟩
theorem lp_M_187 : bt_lkF "BellTreesModel" 187 9 22 true := ⟨bt_R9, bt_T9, 53, bt_ty9, rfl, rfl, bt_inG9, bt_tyok9, bt_nm9, rfl, bt_gin (bt_tin4 (List.mem_of_getElem? (i := 239) (by decide +kernel))) rfl, fun _ => ⟨rfl, Or.inl ⟨rfl, rfl⟩⟩⟩
theorem lg_M_190 : bt_lkF "BellTreesModel" 190 9 23 false := ⟨bt_R9, bt_T9, 53, bt_ty9, rfl, rfl, bt_inG9, bt_tyok9, bt_nm9, rfl, bt_gin (bt_tin5 (List.mem_of_getElem? (i := 0) (by decide +kernel))) rfl, fun h => by cases h⟩
theorem lg_M_193 : bt_lkF "BellTreesModel" 193 9 24 false := ⟨bt_R9, bt_T9, 53, bt_ty9, rfl, rfl, bt_inG9, bt_tyok9, bt_nm9, rfl, bt_gin (bt_tin5 (List.mem_of_getElem? (i := 1) (by decide +kernel))) rfl, fun h => by cases h⟩
theorem lp_M_193 : bt_lkF "BellTreesModel" 193 9 24 true := ⟨bt_R9, bt_T9, 53, bt_ty9, rfl, rfl, bt_inG9, bt_tyok9, bt_nm9, rfl, bt_gin (bt_tin5 (List.mem_of_getElem? (i := 1) (by decide +kernel))) rfl, fun _ => ⟨rfl, Or.inl ⟨rfl, rfl⟩⟩⟩
theorem lg_M_53 : bt_lkF "BellTreesModel" 53 9 27 false := ⟨bt_R9, bt_T9, 53, bt_ty9, rfl, rfl, bt_inG9, bt_tyok9, bt_nm9, rfl, bt_gin (bt_tin5 (List.mem_of_getElem? (i := 4) (by decide +kernel))) rfl, fun h => by cases h⟩
theorem lg_M_196 : bt_lkF "BellTreesModel" 196 9 26 false := ⟨bt_R9, bt_T9, 53, bt_ty9, rfl, rfl, bt_inG9, bt_tyok9, bt_nm9, rfl, bt_gin (bt_tin5 (List.mem_of_getElem? (i := 3) (by decide +kernel))) rfl, fun h => by cases h⟩
theorem lg_M_56 : bt_lkF "BellTreesModel" 56 9 28 false := ⟨bt_R9, bt_T9, 53, bt_ty9, rfl, rfl, bt_inG9, bt_tyok9, bt_nm9, rfl, bt_gin (bt_tin5 (List.mem_of_getElem? (i := 5) (by decide +kernel))) rfl, fun h => by cases h⟩
theorem lp_M_196 : bt_lkF "BellTreesModel" 196 9 26 true := ⟨bt_R9, bt_T9, 53, bt_ty9, rfl, rfl, bt_inG9, bt_tyok9, bt_nm9, rfl, bt_gin (bt_tin5 (List.mem_of_getElem? (i := 3) (by decide +kernel))) rfl, fun _ => ⟨rfl, Or.inl ⟨rfl, rfl⟩⟩⟩
theorem lg_M_199 : bt_lkF "BellTreesModel" 199 9 25 false := ⟨bt_R9, bt_T9, 53, bt_ty9, rfl, rfl, bt_inG9, bt_tyok9, bt_nm9, rfl, bt_gin (bt_tin5 (List.mem_of_getElem? (i := 2) (by decide +kernel))) rfl, fun h => by cases h⟩
theorem vm_M_faulty : bt_lkM mi_M_faulty 0 := ⟨bt_gin (bt_tin6 (List.mem_of_getElem? (i := 30) (by decide +kernel))) rfl, bt_gin (bt_tin1 (List.mem_of_getElem? (i := 11) (by decide +kernel))) rfl, ⟨by decide +kernel, by decide +kernel, by decide +kernel⟩, by decide +kernel⟩
theorem vm_M_faulty_k : Cond.instanceMethod mi_M_faulty.1 ∈ bt_gw := bt_gin (bt_tin6 (List.mem_of_getElem? (i := 29) (by decide +kernel))) rfl
theorem vm_M_faulty_s : Cond.selects mi_M_faulty.1.cls mi_M_faulty.1 mi_M_faulty.1 ∈ bt_gw := bt_gin (List.mem_of_getElem? (i := 60) (by decide +kernel)) rfl
theorem bv_M_202 : bt_lkV "BellTreesModel" 202 mi_M_faulty 1 9 := ⟨⟨0, bt_T9, 53, rfl, rfl, vm_M_faulty⟩, bt_gin (bt_tin6 (List.mem_of_getElem? (i := 27) (by decide +kernel))) rfl, vm_M_faulty_k, vm_M_faulty_s⟩
theorem lp_M_199 : bt_lkF "BellTreesModel" 199 9 25 true := ⟨bt_R9, bt_T9, 53, bt_ty9, rfl, rfl, bt_inG9, bt_tyok9, bt_nm9, rfl, bt_gin (bt_tin5 (List.mem_of_getElem? (i := 2) (by decide +kernel))) rfl, fun _ => ⟨rfl, Or.inl ⟨rfl, rfl⟩⟩⟩
theorem lp_M_190 : bt_lkF "BellTreesModel" 190 9 23 true := ⟨bt_R9, bt_T9, 53, bt_ty9, rfl, rfl, bt_inG9, bt_tyok9, bt_nm9, rfl, bt_gin (bt_tin5 (List.mem_of_getElem? (i := 0) (by decide +kernel))) rfl, fun _ => ⟨rfl, Or.inl ⟨rfl, rfl⟩⟩⟩
theorem vm_M_look : bt_lkM mi_M_look 0 := ⟨bt_gin (bt_tin6 (List.mem_of_getElem? (i := 15) (by decide +kernel))) rfl, bt_gin (bt_tin1 (List.mem_of_getElem? (i := 11) (by decide +kernel))) rfl, ⟨by decide +kernel, by decide +kernel, by decide +kernel⟩, by decide +kernel⟩
theorem vm_M_look_k : Cond.instanceMethod mi_M_look.1 ∈ bt_gw := bt_gin (bt_tin6 (List.mem_of_getElem? (i := 14) (by decide +kernel))) rfl
theorem vm_M_look_s : Cond.selects mi_M_look.1.cls mi_M_look.1 mi_M_look.1 ∈ bt_gw := bt_gin (List.mem_of_getElem? (i := 57) (by decide +kernel)) rfl
theorem bv_M_205 : bt_lkV "BellTreesModel" 205 mi_M_look 1 9 := ⟨⟨0, bt_T9, 53, rfl, rfl, vm_M_look⟩, bt_gin (bt_tin6 (List.mem_of_getElem? (i := 12) (by decide +kernel))) rfl, vm_M_look_k, vm_M_look_s⟩
theorem vm_M_addStep : bt_lkM mi_M_addStep 2 := ⟨bt_gin (bt_tin6 (List.mem_of_getElem? (i := 22) (by decide +kernel))) rfl, bt_gin (bt_tin1 (List.mem_of_getElem? (i := 11) (by decide +kernel))) rfl, ⟨by decide +kernel, by decide +kernel, by decide +kernel⟩, by decide +kernel⟩
theorem vm_M_addStep_k : Cond.instanceMethod mi_M_addStep.1 ∈ bt_gw := bt_gin (bt_tin6 (List.mem_of_getElem? (i := 21) (by decide +kernel))) rfl
theorem vm_M_addStep_s : Cond.selects mi_M_addStep.1.cls mi_M_addStep.1 mi_M_addStep.1 ∈ bt_gw := bt_gin (List.mem_of_getElem? (i := 58) (by decide +kernel)) rfl
theorem bv_M_209 : bt_lkV "BellTreesModel" 209 mi_M_addStep 3 9 := ⟨⟨2, bt_T9, 53, rfl, rfl, vm_M_addStep⟩, bt_gin (bt_tin6 (List.mem_of_getElem? (i := 19) (by decide +kernel))) rfl, vm_M_addStep_k, vm_M_addStep_s⟩
theorem vm_M_nameOf : bt_lkM mi_M_nameOf 1 := ⟨bt_gin (bt_tin6 (List.mem_of_getElem? (i := 18) (by decide +kernel))) rfl, bt_gin (bt_tin1 (List.mem_of_getElem? (i := 11) (by decide +kernel))) rfl, ⟨by decide +kernel, by decide +kernel, by decide +kernel⟩, by decide +kernel⟩
theorem vm_M_nameOf_k : Cond.static mi_M_nameOf.1 ∈ bt_gw := bt_gin (bt_tin6 (List.mem_of_getElem? (i := 17) (by decide +kernel))) rfl
theorem bs_M_213 : bt_lkS "BellTreesModel" 213 mi_M_nameOf 1 := ⟨vm_M_nameOf, Or.inl (bt_gin (bt_tin6 (List.mem_of_getElem? (i := 16) (by decide +kernel))) rfl), vm_M_nameOf_k⟩
theorem vm_M_opens : bt_lkM mi_M_opens 0 := ⟨bt_gin (bt_tin6 (List.mem_of_getElem? (i := 26) (by decide +kernel))) rfl, bt_gin (bt_tin1 (List.mem_of_getElem? (i := 11) (by decide +kernel))) rfl, ⟨by decide +kernel, by decide +kernel, by decide +kernel⟩, by decide +kernel⟩
theorem vm_M_opens_k : Cond.instanceMethod mi_M_opens.1 ∈ bt_gw := bt_gin (bt_tin6 (List.mem_of_getElem? (i := 25) (by decide +kernel))) rfl
theorem vm_M_opens_s : Cond.selects mi_M_opens.1.cls mi_M_opens.1 mi_M_opens.1 ∈ bt_gw := bt_gin (List.mem_of_getElem? (i := 59) (by decide +kernel)) rfl
theorem bv_M_217 : bt_lkV "BellTreesModel" 217 mi_M_opens 1 9 := ⟨⟨0, bt_T9, 53, rfl, rfl, vm_M_opens⟩, bt_gin (bt_tin6 (List.mem_of_getElem? (i := 23) (by decide +kernel))) rfl, vm_M_opens_k, vm_M_opens_s⟩
theorem vm_M_operand : bt_lkM mi_M_operand 0 := ⟨bt_gin (bt_tin6 (List.mem_of_getElem? (i := 11) (by decide +kernel))) rfl, bt_gin (bt_tin1 (List.mem_of_getElem? (i := 11) (by decide +kernel))) rfl, ⟨by decide +kernel, by decide +kernel, by decide +kernel⟩, by decide +kernel⟩
theorem vm_M_operand_k : Cond.instanceMethod mi_M_operand.1 ∈ bt_gw := bt_gin (bt_tin6 (List.mem_of_getElem? (i := 10) (by decide +kernel))) rfl
theorem vm_M_operand_s : Cond.selects mi_M_operand.1.cls mi_M_operand.1 mi_M_operand.1 ∈ bt_gw := bt_gin (List.mem_of_getElem? (i := 56) (by decide +kernel)) rfl
theorem bv_M_221 : bt_lkV "BellTreesModel" 221 mi_M_operand 1 9 := ⟨⟨0, bt_T9, 53, rfl, rfl, vm_M_operand⟩, bt_gin (bt_tin6 (List.mem_of_getElem? (i := 8) (by decide +kernel))) rfl, vm_M_operand_k, vm_M_operand_s⟩
theorem vm_M_either : bt_lkM mi_M_either 0 := ⟨bt_gin (bt_tin5 (List.mem_of_getElem? (i := 231) (by decide +kernel))) rfl, bt_gin (bt_tin1 (List.mem_of_getElem? (i := 11) (by decide +kernel))) rfl, ⟨by decide +kernel, by decide +kernel, by decide +kernel⟩, by decide +kernel⟩
theorem vm_M_either_k : Cond.instanceMethod mi_M_either.1 ∈ bt_gw := bt_gin (bt_tin5 (List.mem_of_getElem? (i := 230) (by decide +kernel))) rfl
theorem vm_M_either_s : Cond.selects mi_M_either.1.cls mi_M_either.1 mi_M_either.1 ∈ bt_gw := bt_gin (List.mem_of_getElem? (i := 51) (by decide +kernel)) rfl
theorem bv_M_224 : bt_lkV "BellTreesModel" 224 mi_M_either 1 9 := ⟨⟨0, bt_T9, 53, rfl, rfl, vm_M_either⟩, bt_gin (bt_tin5 (List.mem_of_getElem? (i := 228) (by decide +kernel))) rfl, vm_M_either_k, vm_M_either_s⟩
theorem vm_M_figure : bt_lkM mi_M_figure 0 := ⟨bt_gin (bt_tin6 (List.mem_of_getElem? (i := 34) (by decide +kernel))) rfl, bt_gin (bt_tin1 (List.mem_of_getElem? (i := 11) (by decide +kernel))) rfl, ⟨by decide +kernel, by decide +kernel, by decide +kernel⟩, by decide +kernel⟩
theorem vm_M_figure_k : Cond.instanceMethod mi_M_figure.1 ∈ bt_gw := bt_gin (bt_tin6 (List.mem_of_getElem? (i := 33) (by decide +kernel))) rfl
theorem vm_M_figure_s : Cond.selects mi_M_figure.1.cls mi_M_figure.1 mi_M_figure.1 ∈ bt_gw := bt_gin (List.mem_of_getElem? (i := 61) (by decide +kernel)) rfl
theorem bv_M_227 : bt_lkV "BellTreesModel" 227 mi_M_figure 1 9 := ⟨⟨0, bt_T9, 53, rfl, rfl, vm_M_figure⟩, bt_gin (bt_tin6 (List.mem_of_getElem? (i := 31) (by decide +kernel))) rfl, vm_M_figure_k, vm_M_figure_s⟩
theorem vm_M_product : bt_lkM mi_M_product 0 := ⟨bt_gin (bt_tin6 (List.mem_of_getElem? (i := 7) (by decide +kernel))) rfl, bt_gin (bt_tin1 (List.mem_of_getElem? (i := 11) (by decide +kernel))) rfl, ⟨by decide +kernel, by decide +kernel, by decide +kernel⟩, by decide +kernel⟩
theorem vm_M_product_k : Cond.instanceMethod mi_M_product.1 ∈ bt_gw := bt_gin (bt_tin6 (List.mem_of_getElem? (i := 6) (by decide +kernel))) rfl
theorem vm_M_product_s : Cond.selects mi_M_product.1.cls mi_M_product.1 mi_M_product.1 ∈ bt_gw := bt_gin (List.mem_of_getElem? (i := 55) (by decide +kernel)) rfl
theorem bv_M_230 : bt_lkV "BellTreesModel" 230 mi_M_product 1 9 := ⟨⟨0, bt_T9, 53, rfl, rfl, vm_M_product⟩, bt_gin (bt_tin6 (List.mem_of_getElem? (i := 4) (by decide +kernel))) rfl, vm_M_product_k, vm_M_product_s⟩
theorem vm_M_sum : bt_lkM mi_M_sum 0 := ⟨bt_gin (bt_tin6 (List.mem_of_getElem? (i := 3) (by decide +kernel))) rfl, bt_gin (bt_tin1 (List.mem_of_getElem? (i := 11) (by decide +kernel))) rfl, ⟨by decide +kernel, by decide +kernel, by decide +kernel⟩, by decide +kernel⟩
theorem vm_M_sum_k : Cond.instanceMethod mi_M_sum.1 ∈ bt_gw := bt_gin (bt_tin6 (List.mem_of_getElem? (i := 2) (by decide +kernel))) rfl
theorem vm_M_sum_s : Cond.selects mi_M_sum.1.cls mi_M_sum.1 mi_M_sum.1 ∈ bt_gw := bt_gin (List.mem_of_getElem? (i := 54) (by decide +kernel)) rfl
theorem bv_M_233 : bt_lkV "BellTreesModel" 233 mi_M_sum 1 9 := ⟨⟨0, bt_T9, 53, rfl, rfl, vm_M_sum⟩, bt_gin (bt_tin6 (List.mem_of_getElem? (i := 0) (by decide +kernel))) rfl, vm_M_sum_k, vm_M_sum_s⟩
theorem vm_M_compared : bt_lkM mi_M_compared 0 := ⟨bt_gin (bt_tin5 (List.mem_of_getElem? (i := 239) (by decide +kernel))) rfl, bt_gin (bt_tin1 (List.mem_of_getElem? (i := 11) (by decide +kernel))) rfl, ⟨by decide +kernel, by decide +kernel, by decide +kernel⟩, by decide +kernel⟩
theorem vm_M_compared_k : Cond.instanceMethod mi_M_compared.1 ∈ bt_gw := bt_gin (bt_tin5 (List.mem_of_getElem? (i := 238) (by decide +kernel))) rfl
theorem vm_M_compared_s : Cond.selects mi_M_compared.1.cls mi_M_compared.1 mi_M_compared.1 ∈ bt_gw := bt_gin (List.mem_of_getElem? (i := 53) (by decide +kernel)) rfl
theorem bv_M_236 : bt_lkV "BellTreesModel" 236 mi_M_compared 1 9 := ⟨⟨0, bt_T9, 53, rfl, rfl, vm_M_compared⟩, bt_gin (bt_tin5 (List.mem_of_getElem? (i := 236) (by decide +kernel))) rfl, vm_M_compared_k, vm_M_compared_s⟩
theorem vm_M_both : bt_lkM mi_M_both 0 := ⟨bt_gin (bt_tin5 (List.mem_of_getElem? (i := 235) (by decide +kernel))) rfl, bt_gin (bt_tin1 (List.mem_of_getElem? (i := 11) (by decide +kernel))) rfl, ⟨by decide +kernel, by decide +kernel, by decide +kernel⟩, by decide +kernel⟩
theorem vm_M_both_k : Cond.instanceMethod mi_M_both.1 ∈ bt_gw := bt_gin (bt_tin5 (List.mem_of_getElem? (i := 234) (by decide +kernel))) rfl
theorem vm_M_both_s : Cond.selects mi_M_both.1.cls mi_M_both.1 mi_M_both.1 ∈ bt_gw := bt_gin (List.mem_of_getElem? (i := 52) (by decide +kernel)) rfl
theorem bv_M_239 : bt_lkV "BellTreesModel" 239 mi_M_both 1 9 := ⟨⟨0, bt_T9, 53, rfl, rfl, vm_M_both⟩, bt_gin (bt_tin5 (List.mem_of_getElem? (i := 232) (by decide +kernel))) rfl, vm_M_both_k, vm_M_both_s⟩
theorem lg_M_59 : bt_lkF "BellTreesModel" 59 9 29 false := ⟨bt_R9, bt_T9, 53, bt_ty9, rfl, rfl, bt_inG9, bt_tyok9, bt_nm9, rfl, bt_gin (bt_tin5 (List.mem_of_getElem? (i := 6) (by decide +kernel))) rfl, fun h => by cases h⟩
theorem lg_M_62 : bt_lkF "BellTreesModel" 62 9 30 false := ⟨bt_R9, bt_T9, 53, bt_ty9, rfl, rfl, bt_inG9, bt_tyok9, bt_nm9, rfl, bt_gin (bt_tin5 (List.mem_of_getElem? (i := 7) (by decide +kernel))) rfl, fun h => by cases h⟩
theorem lg_M_66 : bt_lkF "BellTreesModel" 66 9 31 false := ⟨bt_R9, bt_T9, 53, bt_ty9, rfl, rfl, bt_inG9, bt_tyok9, bt_nm9, rfl, bt_gin (bt_tin5 (List.mem_of_getElem? (i := 8) (by decide +kernel))) rfl, fun h => by cases h⟩
theorem vm_M_line : bt_lkM mi_M_line 0 := ⟨bt_gin (bt_tin5 (List.mem_of_getElem? (i := 227) (by decide +kernel))) rfl, bt_gin (bt_tin1 (List.mem_of_getElem? (i := 11) (by decide +kernel))) rfl, ⟨by decide +kernel, by decide +kernel, by decide +kernel⟩, by decide +kernel⟩
theorem vm_M_line_k : Cond.instanceMethod mi_M_line.1 ∈ bt_gw := bt_gin (bt_tin5 (List.mem_of_getElem? (i := 226) (by decide +kernel))) rfl
theorem vm_M_line_s : Cond.selects mi_M_line.1.cls mi_M_line.1 mi_M_line.1 ∈ bt_gw := bt_gin (List.mem_of_getElem? (i := 50) (by decide +kernel)) rfl
theorem bv_M_242 : bt_lkV "BellTreesModel" 242 mi_M_line 1 9 := ⟨⟨0, bt_T9, 53, rfl, rfl, vm_M_line⟩, bt_gin (bt_tin5 (List.mem_of_getElem? (i := 224) (by decide +kernel))) rfl, vm_M_line_k, vm_M_line_s⟩
theorem lg_M_72 : bt_lkF "BellTreesModel" 72 9 33 false := ⟨bt_R9, bt_T9, 53, bt_ty9, rfl, rfl, bt_inG9, bt_tyok9, bt_nm9, rfl, bt_gin (bt_tin5 (List.mem_of_getElem? (i := 10) (by decide +kernel))) rfl, fun h => by cases h⟩
theorem lg_M_69 : bt_lkF "BellTreesModel" 69 9 32 false := ⟨bt_R9, bt_T9, 53, bt_ty9, rfl, rfl, bt_inG9, bt_tyok9, bt_nm9, rfl, bt_gin (bt_tin5 (List.mem_of_getElem? (i := 9) (by decide +kernel))) rfl, fun h => by cases h⟩
theorem vm_M_twoOf : bt_lkM mi_M_twoOf 3 := ⟨bt_gin (bt_tin6 (List.mem_of_getElem? (i := 61) (by decide +kernel))) rfl, bt_gin (bt_tin1 (List.mem_of_getElem? (i := 11) (by decide +kernel))) rfl, ⟨by decide +kernel, by decide +kernel, by decide +kernel⟩, by decide +kernel⟩
theorem vm_M_twoOf_k : Cond.static mi_M_twoOf.1 ∈ bt_gw := bt_gin (bt_tin6 (List.mem_of_getElem? (i := 60) (by decide +kernel))) rfl
theorem bs_M_245 : bt_lkS "BellTreesModel" 245 mi_M_twoOf 3 := ⟨vm_M_twoOf, Or.inl (bt_gin (bt_tin6 (List.mem_of_getElem? (i := 59) (by decide +kernel))) rfl), vm_M_twoOf_k⟩
theorem vm_M_worked : bt_lkM mi_M_worked 3 := ⟨bt_gin (bt_tin6 (List.mem_of_getElem? (i := 58) (by decide +kernel))) rfl, bt_gin (bt_tin1 (List.mem_of_getElem? (i := 11) (by decide +kernel))) rfl, ⟨by decide +kernel, by decide +kernel, by decide +kernel⟩, by decide +kernel⟩
theorem vm_M_worked_k : Cond.instanceMethod mi_M_worked.1 ∈ bt_gw := bt_gin (bt_tin6 (List.mem_of_getElem? (i := 57) (by decide +kernel))) rfl
theorem vm_M_worked_s : Cond.selects mi_M_worked.1.cls mi_M_worked.1 mi_M_worked.1 ∈ bt_gw := bt_gin (List.mem_of_getElem? (i := 65) (by decide +kernel)) rfl
theorem bv_M_248 : bt_lkV "BellTreesModel" 248 mi_M_worked 4 9 := ⟨⟨3, bt_T9, 53, rfl, rfl, vm_M_worked⟩, bt_gin (bt_tin6 (List.mem_of_getElem? (i := 55) (by decide +kernel))) rfl, vm_M_worked_k, vm_M_worked_s⟩
theorem vm_M_readText : bt_lkM mi_M_readText 1 := ⟨bt_gin (bt_tin5 (List.mem_of_getElem? (i := 223) (by decide +kernel))) rfl, bt_gin (bt_tin1 (List.mem_of_getElem? (i := 11) (by decide +kernel))) rfl, ⟨by decide +kernel, by decide +kernel, by decide +kernel⟩, by decide +kernel⟩
theorem vm_M_readText_k : Cond.instanceMethod mi_M_readText.1 ∈ bt_gw := bt_gin (bt_tin5 (List.mem_of_getElem? (i := 222) (by decide +kernel))) rfl
theorem vm_M_readText_s : Cond.selects mi_M_readText.1.cls mi_M_readText.1 mi_M_readText.1 ∈ bt_gw := bt_gin (List.mem_of_getElem? (i := 49) (by decide +kernel)) rfl
theorem bv_M_251 : bt_lkV "BellTreesModel" 251 mi_M_readText 2 9 := ⟨⟨1, bt_T9, 53, rfl, rfl, vm_M_readText⟩, bt_gin (bt_tin5 (List.mem_of_getElem? (i := 220) (by decide +kernel))) rfl, vm_M_readText_k, vm_M_readText_s⟩
theorem lp_M_254 : bt_lkF "BellTreesModel" 254 9 34 true := ⟨bt_R9, bt_T9, 53, bt_ty9, rfl, rfl, bt_inG9, bt_tyok9, bt_nm9, rfl, bt_gin (bt_tin5 (List.mem_of_getElem? (i := 11) (by decide +kernel))) rfl, fun _ => ⟨rfl, Or.inr ⟨rfl, rfl⟩⟩⟩
theorem lg_M_254 : bt_lkF "BellTreesModel" 254 9 34 false := ⟨bt_R9, bt_T9, 53, bt_ty9, rfl, rfl, bt_inG9, bt_tyok9, bt_nm9, rfl, bt_gin (bt_tin5 (List.mem_of_getElem? (i := 11) (by decide +kernel))) rfl, fun h => by cases h⟩
theorem vm_M_gives : bt_lkM mi_M_gives 1 := ⟨bt_gin (bt_tin6 (List.mem_of_getElem? (i := 54) (by decide +kernel))) rfl, bt_gin (bt_tin1 (List.mem_of_getElem? (i := 11) (by decide +kernel))) rfl, ⟨by decide +kernel, by decide +kernel, by decide +kernel⟩, by decide +kernel⟩
theorem vm_M_gives_k : Cond.instanceMethod mi_M_gives.1 ∈ bt_gw := bt_gin (bt_tin6 (List.mem_of_getElem? (i := 53) (by decide +kernel))) rfl
theorem vm_M_gives_s : Cond.selects mi_M_gives.1.cls mi_M_gives.1 mi_M_gives.1 ∈ bt_gw := bt_gin (List.mem_of_getElem? (i := 64) (by decide +kernel)) rfl
theorem bv_M_258 : bt_lkV "BellTreesModel" 258 mi_M_gives 2 9 := ⟨⟨1, bt_T9, 53, rfl, rfl, vm_M_gives⟩, bt_gin (bt_tin6 (List.mem_of_getElem? (i := 51) (by decide +kernel))) rfl, vm_M_gives_k, vm_M_gives_s⟩
theorem vm_M_isHeard : bt_lkM mi_M_isHeard 3 := ⟨bt_gin (bt_tin6 (List.mem_of_getElem? (i := 50) (by decide +kernel))) rfl, bt_gin (bt_tin1 (List.mem_of_getElem? (i := 11) (by decide +kernel))) rfl, ⟨by decide +kernel, by decide +kernel, by decide +kernel⟩, by decide +kernel⟩
theorem vm_M_isHeard_k : Cond.instanceMethod mi_M_isHeard.1 ∈ bt_gw := bt_gin (bt_tin6 (List.mem_of_getElem? (i := 49) (by decide +kernel))) rfl
theorem vm_M_isHeard_s : Cond.selects mi_M_isHeard.1.cls mi_M_isHeard.1 mi_M_isHeard.1 ∈ bt_gw := bt_gin (List.mem_of_getElem? (i := 63) (by decide +kernel)) rfl
theorem bv_M_261 : bt_lkV "BellTreesModel" 261 mi_M_isHeard 4 9 := ⟨⟨3, bt_T9, 53, rfl, rfl, vm_M_isHeard⟩, bt_gin (bt_tin6 (List.mem_of_getElem? (i := 47) (by decide +kernel))) rfl, vm_M_isHeard_k, vm_M_isHeard_s⟩
theorem lk_M_264 : Cond.constant "BellTreesModel" 264 (-2000000000) ∈ bt_gw := bt_gin (bt_tin6 (List.mem_of_getElem? (i := 39) (by decide +kernel))) rfl
theorem vm_M_every : bt_lkM mi_M_every 0 := ⟨bt_gin (bt_tin6 (List.mem_of_getElem? (i := 42) (by decide +kernel))) rfl, bt_gin (bt_tin1 (List.mem_of_getElem? (i := 11) (by decide +kernel))) rfl, ⟨by decide +kernel, by decide +kernel, by decide +kernel⟩, by decide +kernel⟩
theorem vm_M_every_k : Cond.static mi_M_every.1 ∈ bt_gw := bt_gin (bt_tin6 (List.mem_of_getElem? (i := 41) (by decide +kernel))) rfl
theorem bs_M_265 : bt_lkS "BellTreesModel" 265 mi_M_every 0 := ⟨vm_M_every, Or.inl (bt_gin (bt_tin6 (List.mem_of_getElem? (i := 40) (by decide +kernel))) rfl), vm_M_every_k⟩
theorem vm_M_soundOf : bt_lkM mi_M_soundOf 4 := ⟨bt_gin (bt_tin6 (List.mem_of_getElem? (i := 46) (by decide +kernel))) rfl, bt_gin (bt_tin1 (List.mem_of_getElem? (i := 11) (by decide +kernel))) rfl, ⟨by decide +kernel, by decide +kernel, by decide +kernel⟩, by decide +kernel⟩
theorem vm_M_soundOf_k : Cond.instanceMethod mi_M_soundOf.1 ∈ bt_gw := bt_gin (bt_tin6 (List.mem_of_getElem? (i := 45) (by decide +kernel))) rfl
theorem vm_M_soundOf_s : Cond.selects mi_M_soundOf.1.cls mi_M_soundOf.1 mi_M_soundOf.1 ∈ bt_gw := bt_gin (List.mem_of_getElem? (i := 62) (by decide +kernel)) rfl
theorem bv_M_268 : bt_lkV "BellTreesModel" 268 mi_M_soundOf 5 9 := ⟨⟨4, bt_T9, 53, rfl, rfl, vm_M_soundOf⟩, bt_gin (bt_tin6 (List.mem_of_getElem? (i := 43) (by decide +kernel))) rfl, vm_M_soundOf_k, vm_M_soundOf_s⟩
theorem lk_M_272 : Cond.constantLong "BellTreesModel" 272 999999999 ∈ bt_gw := bt_gin (bt_tin6 (List.mem_of_getElem? (i := 85) (by decide +kernel))) rfl
theorem vm_M_minutesOf : bt_lkM mi_M_minutesOf 1 := ⟨bt_gin (bt_tin6 (List.mem_of_getElem? (i := 73) (by decide +kernel))) rfl, bt_gin (bt_tin1 (List.mem_of_getElem? (i := 11) (by decide +kernel))) rfl, ⟨by decide +kernel, by decide +kernel, by decide +kernel⟩, by decide +kernel⟩
theorem vm_M_minutesOf_k : Cond.instanceMethod mi_M_minutesOf.1 ∈ bt_gw := bt_gin (bt_tin6 (List.mem_of_getElem? (i := 72) (by decide +kernel))) rfl
theorem vm_M_minutesOf_s : Cond.selects mi_M_minutesOf.1.cls mi_M_minutesOf.1 mi_M_minutesOf.1 ∈ bt_gw := bt_gin (List.mem_of_getElem? (i := 67) (by decide +kernel)) rfl
theorem bv_M_274 : bt_lkV "BellTreesModel" 274 mi_M_minutesOf 2 9 := ⟨⟨1, bt_T9, 53, rfl, rfl, vm_M_minutesOf⟩, bt_gin (bt_tin6 (List.mem_of_getElem? (i := 70) (by decide +kernel))) rfl, vm_M_minutesOf_k, vm_M_minutesOf_s⟩
theorem vm_M_mayGo : bt_lkM mi_M_mayGo 2 := ⟨bt_gin (bt_tin6 (List.mem_of_getElem? (i := 81) (by decide +kernel))) rfl, bt_gin (bt_tin1 (List.mem_of_getElem? (i := 11) (by decide +kernel))) rfl, ⟨by decide +kernel, by decide +kernel, by decide +kernel⟩, by decide +kernel⟩
theorem vm_M_mayGo_k : Cond.instanceMethod mi_M_mayGo.1 ∈ bt_gw := bt_gin (bt_tin6 (List.mem_of_getElem? (i := 80) (by decide +kernel))) rfl
theorem vm_M_mayGo_s : Cond.selects mi_M_mayGo.1.cls mi_M_mayGo.1 mi_M_mayGo.1 ∈ bt_gw := bt_gin (List.mem_of_getElem? (i := 69) (by decide +kernel)) rfl
theorem bv_M_277 : bt_lkV "BellTreesModel" 277 mi_M_mayGo 3 9 := ⟨⟨2, bt_T9, 53, rfl, rfl, vm_M_mayGo⟩, bt_gin (bt_tin6 (List.mem_of_getElem? (i := 78) (by decide +kernel))) rfl, vm_M_mayGo_k, vm_M_mayGo_s⟩
theorem lg_M_75 : bt_lkF "BellTreesModel" 75 9 35 false := ⟨bt_R9, bt_T9, 53, bt_ty9, rfl, rfl, bt_inG9, bt_tyok9, bt_nm9, rfl, bt_gin (bt_tin5 (List.mem_of_getElem? (i := 12) (by decide +kernel))) rfl, fun h => by cases h⟩
theorem vm_M_capped : bt_lkM mi_M_capped 1 := ⟨bt_gin (bt_tin6 (List.mem_of_getElem? (i := 84) (by decide +kernel))) rfl, bt_gin (bt_tin1 (List.mem_of_getElem? (i := 11) (by decide +kernel))) rfl, ⟨by decide +kernel, by decide +kernel, by decide +kernel⟩, by decide +kernel⟩
theorem vm_M_capped_k : Cond.static mi_M_capped.1 ∈ bt_gw := bt_gin (bt_tin6 (List.mem_of_getElem? (i := 83) (by decide +kernel))) rfl
theorem bs_M_280 : bt_lkS "BellTreesModel" 280 mi_M_capped 1 := ⟨vm_M_capped, Or.inl (bt_gin (bt_tin6 (List.mem_of_getElem? (i := 82) (by decide +kernel))) rfl), vm_M_capped_k⟩
theorem vm_M_told : bt_lkM mi_M_told 2 := ⟨bt_gin (bt_tin6 (List.mem_of_getElem? (i := 89) (by decide +kernel))) rfl, bt_gin (bt_tin1 (List.mem_of_getElem? (i := 11) (by decide +kernel))) rfl, ⟨by decide +kernel, by decide +kernel, by decide +kernel⟩, by decide +kernel⟩
theorem vm_M_told_k : Cond.instanceMethod mi_M_told.1 ∈ bt_gw := bt_gin (bt_tin6 (List.mem_of_getElem? (i := 88) (by decide +kernel))) rfl
theorem vm_M_told_s : Cond.selects mi_M_told.1.cls mi_M_told.1 mi_M_told.1 ∈ bt_gw := bt_gin (List.mem_of_getElem? (i := 70) (by decide +kernel)) rfl
theorem bv_M_284 : bt_lkV "BellTreesModel" 284 mi_M_told 3 9 := ⟨⟨2, bt_T9, 53, rfl, rfl, vm_M_told⟩, bt_gin (bt_tin6 (List.mem_of_getElem? (i := 86) (by decide +kernel))) rfl, vm_M_told_k, vm_M_told_s⟩
theorem lg_M_79 : bt_lkF "BellTreesModel" 79 9 36 false := ⟨bt_R9, bt_T9, 53, bt_ty9, rfl, rfl, bt_inG9, bt_tyok9, bt_nm9, rfl, bt_gin (bt_tin5 (List.mem_of_getElem? (i := 13) (by decide +kernel))) rfl, fun h => by cases h⟩
theorem vm_M_rowFault : bt_lkM mi_M_rowFault 1 := ⟨bt_gin (bt_tin6 (List.mem_of_getElem? (i := 69) (by decide +kernel))) rfl, bt_gin (bt_tin1 (List.mem_of_getElem? (i := 11) (by decide +kernel))) rfl, ⟨by decide +kernel, by decide +kernel, by decide +kernel⟩, by decide +kernel⟩
theorem vm_M_rowFault_k : Cond.instanceMethod mi_M_rowFault.1 ∈ bt_gw := bt_gin (bt_tin6 (List.mem_of_getElem? (i := 68) (by decide +kernel))) rfl
theorem vm_M_rowFault_s : Cond.selects mi_M_rowFault.1.cls mi_M_rowFault.1 mi_M_rowFault.1 ∈ bt_gw := bt_gin (List.mem_of_getElem? (i := 66) (by decide +kernel)) rfl
theorem bv_M_288 : bt_lkV "BellTreesModel" 288 mi_M_rowFault 2 9 := ⟨⟨1, bt_T9, 53, rfl, rfl, vm_M_rowFault⟩, bt_gin (bt_tin6 (List.mem_of_getElem? (i := 66) (by decide +kernel))) rfl, vm_M_rowFault_k, vm_M_rowFault_s⟩
theorem vm_M_findWalks : bt_lkM mi_M_findWalks 2 := ⟨bt_gin (bt_tin6 (List.mem_of_getElem? (i := 77) (by decide +kernel))) rfl, bt_gin (bt_tin1 (List.mem_of_getElem? (i := 11) (by decide +kernel))) rfl, ⟨by decide +kernel, by decide +kernel, by decide +kernel⟩, by decide +kernel⟩
theorem vm_M_findWalks_k : Cond.instanceMethod mi_M_findWalks.1 ∈ bt_gw := bt_gin (bt_tin6 (List.mem_of_getElem? (i := 76) (by decide +kernel))) rfl
theorem vm_M_findWalks_s : Cond.selects mi_M_findWalks.1.cls mi_M_findWalks.1 mi_M_findWalks.1 ∈ bt_gw := bt_gin (List.mem_of_getElem? (i := 68) (by decide +kernel)) rfl
theorem bv_M_291 : bt_lkV "BellTreesModel" 291 mi_M_findWalks 3 9 := ⟨⟨2, bt_T9, 53, rfl, rfl, vm_M_findWalks⟩, bt_gin (bt_tin6 (List.mem_of_getElem? (i := 74) (by decide +kernel))) rfl, vm_M_findWalks_k, vm_M_findWalks_s⟩
theorem vm_M_walksMany : bt_lkM mi_M_walksMany 1 := ⟨bt_gin (bt_tin6 (List.mem_of_getElem? (i := 93) (by decide +kernel))) rfl, bt_gin (bt_tin1 (List.mem_of_getElem? (i := 11) (by decide +kernel))) rfl, ⟨by decide +kernel, by decide +kernel, by decide +kernel⟩, by decide +kernel⟩
theorem vm_M_walksMany_k : Cond.instanceMethod mi_M_walksMany.1 ∈ bt_gw := bt_gin (bt_tin6 (List.mem_of_getElem? (i := 92) (by decide +kernel))) rfl
theorem vm_M_walksMany_s : Cond.selects mi_M_walksMany.1.cls mi_M_walksMany.1 mi_M_walksMany.1 ∈ bt_gw := bt_gin (List.mem_of_getElem? (i := 71) (by decide +kernel)) rfl
theorem bv_M_294 : bt_lkV "BellTreesModel" 294 mi_M_walksMany 2 9 := ⟨⟨1, bt_T9, 53, rfl, rfl, vm_M_walksMany⟩, bt_gin (bt_tin6 (List.mem_of_getElem? (i := 90) (by decide +kernel))) rfl, vm_M_walksMany_k, vm_M_walksMany_s⟩
theorem vm_M_areSorts : bt_lkM mi_M_areSorts 1 := ⟨bt_gin (bt_tin6 (List.mem_of_getElem? (i := 104) (by decide +kernel))) rfl, bt_gin (bt_tin1 (List.mem_of_getElem? (i := 11) (by decide +kernel))) rfl, ⟨by decide +kernel, by decide +kernel, by decide +kernel⟩, by decide +kernel⟩
theorem vm_M_areSorts_k : Cond.static mi_M_areSorts.1 ∈ bt_gw := bt_gin (bt_tin6 (List.mem_of_getElem? (i := 103) (by decide +kernel))) rfl
theorem bs_M_297 : bt_lkS "BellTreesModel" 297 mi_M_areSorts 1 := ⟨vm_M_areSorts, Or.inl (bt_gin (bt_tin6 (List.mem_of_getElem? (i := 102) (by decide +kernel))) rfl), vm_M_areSorts_k⟩
theorem vm_M_canBeOf : bt_lkM mi_M_canBeOf 3 := ⟨bt_gin (bt_tin6 (List.mem_of_getElem? (i := 108) (by decide +kernel))) rfl, bt_gin (bt_tin1 (List.mem_of_getElem? (i := 11) (by decide +kernel))) rfl, ⟨by decide +kernel, by decide +kernel, by decide +kernel⟩, by decide +kernel⟩
theorem vm_M_canBeOf_k : Cond.instanceMethod mi_M_canBeOf.1 ∈ bt_gw := bt_gin (bt_tin6 (List.mem_of_getElem? (i := 107) (by decide +kernel))) rfl
theorem vm_M_canBeOf_s : Cond.selects mi_M_canBeOf.1.cls mi_M_canBeOf.1 mi_M_canBeOf.1 ∈ bt_gw := bt_gin (List.mem_of_getElem? (i := 72) (by decide +kernel)) rfl
theorem bv_M_300 : bt_lkV "BellTreesModel" 300 mi_M_canBeOf 4 9 := ⟨⟨3, bt_T9, 53, rfl, rfl, vm_M_canBeOf⟩, bt_gin (bt_tin6 (List.mem_of_getElem? (i := 105) (by decide +kernel))) rfl, vm_M_canBeOf_k, vm_M_canBeOf_s⟩
theorem lg_M_82 : bt_lkF "BellTreesModel" 82 9 37 false := ⟨bt_R9, bt_T9, 53, bt_ty9, rfl, rfl, bt_inG9, bt_tyok9, bt_nm9, rfl, bt_gin (bt_tin5 (List.mem_of_getElem? (i := 14) (by decide +kernel))) rfl, fun h => by cases h⟩
theorem vm_M_soundIn : bt_lkM mi_M_soundIn 3 := ⟨bt_gin (bt_tin6 (List.mem_of_getElem? (i := 120) (by decide +kernel))) rfl, bt_gin (bt_tin1 (List.mem_of_getElem? (i := 11) (by decide +kernel))) rfl, ⟨by decide +kernel, by decide +kernel, by decide +kernel⟩, by decide +kernel⟩
theorem vm_M_soundIn_k : Cond.instanceMethod mi_M_soundIn.1 ∈ bt_gw := bt_gin (bt_tin6 (List.mem_of_getElem? (i := 119) (by decide +kernel))) rfl
theorem vm_M_soundIn_s : Cond.selects mi_M_soundIn.1.cls mi_M_soundIn.1 mi_M_soundIn.1 ∈ bt_gw := bt_gin (List.mem_of_getElem? (i := 74) (by decide +kernel)) rfl
theorem bv_M_304 : bt_lkV "BellTreesModel" 304 mi_M_soundIn 4 9 := ⟨⟨3, bt_T9, 53, rfl, rfl, vm_M_soundIn⟩, bt_gin (bt_tin6 (List.mem_of_getElem? (i := 117) (by decide +kernel))) rfl, vm_M_soundIn_k, vm_M_soundIn_s⟩
theorem lk_M_307 : Cond.constant "BellTreesModel" 307 1000000 ∈ bt_gw := bt_gin (bt_tin6 (List.mem_of_getElem? (i := 121) (by decide +kernel))) rfl
theorem vm_M_findLeast : bt_lkM mi_M_findLeast 4 := ⟨bt_gin (bt_tin6 (List.mem_of_getElem? (i := 116) (by decide +kernel))) rfl, bt_gin (bt_tin1 (List.mem_of_getElem? (i := 11) (by decide +kernel))) rfl, ⟨by decide +kernel, by decide +kernel, by decide +kernel⟩, by decide +kernel⟩
theorem vm_M_findLeast_k : Cond.instanceMethod mi_M_findLeast.1 ∈ bt_gw := bt_gin (bt_tin6 (List.mem_of_getElem? (i := 115) (by decide +kernel))) rfl
theorem vm_M_findLeast_s : Cond.selects mi_M_findLeast.1.cls mi_M_findLeast.1 mi_M_findLeast.1 ∈ bt_gw := bt_gin (List.mem_of_getElem? (i := 73) (by decide +kernel)) rfl
theorem bv_M_308 : bt_lkV "BellTreesModel" 308 mi_M_findLeast 5 9 := ⟨⟨4, bt_T9, 53, rfl, rfl, vm_M_findLeast⟩, bt_gin (bt_tin6 (List.mem_of_getElem? (i := 113) (by decide +kernel))) rfl, vm_M_findLeast_k, vm_M_findLeast_s⟩
theorem vm_M_areShelves : bt_lkM mi_M_areShelves 1 := ⟨bt_gin (bt_tin6 (List.mem_of_getElem? (i := 128) (by decide +kernel))) rfl, bt_gin (bt_tin1 (List.mem_of_getElem? (i := 11) (by decide +kernel))) rfl, ⟨by decide +kernel, by decide +kernel, by decide +kernel⟩, by decide +kernel⟩
theorem vm_M_areShelves_k : Cond.static mi_M_areShelves.1 ∈ bt_gw := bt_gin (bt_tin6 (List.mem_of_getElem? (i := 127) (by decide +kernel))) rfl
theorem bs_M_312 : bt_lkS "BellTreesModel" 312 mi_M_areShelves 1 := ⟨vm_M_areShelves, Or.inl (bt_gin (bt_tin6 (List.mem_of_getElem? (i := 126) (by decide +kernel))) rfl), vm_M_areShelves_k⟩
theorem vm_M_rowsFault : bt_lkM mi_M_rowsFault 1 := ⟨bt_gin (bt_tin6 (List.mem_of_getElem? (i := 132) (by decide +kernel))) rfl, bt_gin (bt_tin1 (List.mem_of_getElem? (i := 11) (by decide +kernel))) rfl, ⟨by decide +kernel, by decide +kernel, by decide +kernel⟩, by decide +kernel⟩
theorem vm_M_rowsFault_k : Cond.instanceMethod mi_M_rowsFault.1 ∈ bt_gw := bt_gin (bt_tin6 (List.mem_of_getElem? (i := 131) (by decide +kernel))) rfl
theorem vm_M_rowsFault_s : Cond.selects mi_M_rowsFault.1.cls mi_M_rowsFault.1 mi_M_rowsFault.1 ∈ bt_gw := bt_gin (List.mem_of_getElem? (i := 75) (by decide +kernel)) rfl
theorem bv_M_315 : bt_lkV "BellTreesModel" 315 mi_M_rowsFault 2 9 := ⟨⟨1, bt_T9, 53, rfl, rfl, vm_M_rowsFault⟩, bt_gin (bt_tin6 (List.mem_of_getElem? (i := 129) (by decide +kernel))) rfl, vm_M_rowsFault_k, vm_M_rowsFault_s⟩
theorem vm_M_isWalk : bt_lkM mi_M_isWalk 1 := ⟨bt_gin (bt_tin6 (List.mem_of_getElem? (i := 136) (by decide +kernel))) rfl, bt_gin (bt_tin1 (List.mem_of_getElem? (i := 11) (by decide +kernel))) rfl, ⟨by decide +kernel, by decide +kernel, by decide +kernel⟩, by decide +kernel⟩
theorem vm_M_isWalk_k : Cond.instanceMethod mi_M_isWalk.1 ∈ bt_gw := bt_gin (bt_tin6 (List.mem_of_getElem? (i := 135) (by decide +kernel))) rfl
theorem vm_M_isWalk_s : Cond.selects mi_M_isWalk.1.cls mi_M_isWalk.1 mi_M_isWalk.1 ∈ bt_gw := bt_gin (List.mem_of_getElem? (i := 76) (by decide +kernel)) rfl
theorem bv_M_318 : bt_lkV "BellTreesModel" 318 mi_M_isWalk 2 9 := ⟨⟨1, bt_T9, 53, rfl, rfl, vm_M_isWalk⟩, bt_gin (bt_tin6 (List.mem_of_getElem? (i := 133) (by decide +kernel))) rfl, vm_M_isWalk_k, vm_M_isWalk_s⟩
theorem vm_M_bothHave : bt_lkM mi_M_bothHave 1 := ⟨bt_gin (bt_tin6 (List.mem_of_getElem? (i := 140) (by decide +kernel))) rfl, bt_gin (bt_tin1 (List.mem_of_getElem? (i := 11) (by decide +kernel))) rfl, ⟨by decide +kernel, by decide +kernel, by decide +kernel⟩, by decide +kernel⟩
theorem vm_M_bothHave_k : Cond.instanceMethod mi_M_bothHave.1 ∈ bt_gw := bt_gin (bt_tin6 (List.mem_of_getElem? (i := 139) (by decide +kernel))) rfl
theorem vm_M_bothHave_s : Cond.selects mi_M_bothHave.1.cls mi_M_bothHave.1 mi_M_bothHave.1 ∈ bt_gw := bt_gin (List.mem_of_getElem? (i := 77) (by decide +kernel)) rfl
theorem bv_M_321 : bt_lkV "BellTreesModel" 321 mi_M_bothHave 2 9 := ⟨⟨1, bt_T9, 53, rfl, rfl, vm_M_bothHave⟩, bt_gin (bt_tin6 (List.mem_of_getElem? (i := 137) (by decide +kernel))) rfl, vm_M_bothHave_k, vm_M_bothHave_s⟩
theorem vm_M_walkedSound : bt_lkM mi_M_walkedSound 4 := ⟨bt_gin (bt_tin6 (List.mem_of_getElem? (i := 144) (by decide +kernel))) rfl, bt_gin (bt_tin1 (List.mem_of_getElem? (i := 11) (by decide +kernel))) rfl, ⟨by decide +kernel, by decide +kernel, by decide +kernel⟩, by decide +kernel⟩
theorem vm_M_walkedSound_k : Cond.instanceMethod mi_M_walkedSound.1 ∈ bt_gw := bt_gin (bt_tin6 (List.mem_of_getElem? (i := 143) (by decide +kernel))) rfl
theorem vm_M_walkedSound_s : Cond.selects mi_M_walkedSound.1.cls mi_M_walkedSound.1 mi_M_walkedSound.1 ∈ bt_gw := bt_gin (List.mem_of_getElem? (i := 78) (by decide +kernel)) rfl
theorem bv_M_324 : bt_lkV "BellTreesModel" 324 mi_M_walkedSound 5 9 := ⟨⟨4, bt_T9, 53, rfl, rfl, vm_M_walkedSound⟩, bt_gin (bt_tin6 (List.mem_of_getElem? (i := 141) (by decide +kernel))) rfl, vm_M_walkedSound_k, vm_M_walkedSound_s⟩
theorem lk_M_327 : Cond.constantLong "BellTreesModel" 327 (-1) ∈ bt_gw := bt_gin (bt_tin6 (List.mem_of_getElem? (i := 145) (by decide +kernel))) rfl
theorem vm_M_unlikeIn : bt_lkM mi_M_unlikeIn 5 := ⟨bt_gin (bt_tin6 (List.mem_of_getElem? (i := 153) (by decide +kernel))) rfl, bt_gin (bt_tin1 (List.mem_of_getElem? (i := 11) (by decide +kernel))) rfl, ⟨by decide +kernel, by decide +kernel, by decide +kernel⟩, by decide +kernel⟩
theorem vm_M_unlikeIn_k : Cond.instanceMethod mi_M_unlikeIn.1 ∈ bt_gw := bt_gin (bt_tin6 (List.mem_of_getElem? (i := 152) (by decide +kernel))) rfl
theorem vm_M_unlikeIn_s : Cond.selects mi_M_unlikeIn.1.cls mi_M_unlikeIn.1 mi_M_unlikeIn.1 ∈ bt_gw := bt_gin (List.mem_of_getElem? (i := 79) (by decide +kernel)) rfl
theorem bv_M_329 : bt_lkV "BellTreesModel" 329 mi_M_unlikeIn 6 9 := ⟨⟨5, bt_T9, 53, rfl, rfl, vm_M_unlikeIn⟩, bt_gin (bt_tin6 (List.mem_of_getElem? (i := 150) (by decide +kernel))) rfl, vm_M_unlikeIn_k, vm_M_unlikeIn_s⟩
theorem vm_M_hasSound : bt_lkM mi_M_hasSound 3 := ⟨bt_gin (bt_tin6 (List.mem_of_getElem? (i := 172) (by decide +kernel))) rfl, bt_gin (bt_tin1 (List.mem_of_getElem? (i := 11) (by decide +kernel))) rfl, ⟨by decide +kernel, by decide +kernel, by decide +kernel⟩, by decide +kernel⟩
theorem vm_M_hasSound_k : Cond.instanceMethod mi_M_hasSound.1 ∈ bt_gw := bt_gin (bt_tin6 (List.mem_of_getElem? (i := 171) (by decide +kernel))) rfl
theorem vm_M_hasSound_s : Cond.selects mi_M_hasSound.1.cls mi_M_hasSound.1 mi_M_hasSound.1 ∈ bt_gw := bt_gin (List.mem_of_getElem? (i := 82) (by decide +kernel)) rfl
theorem bv_M_333 : bt_lkV "BellTreesModel" 333 mi_M_hasSound 4 9 := ⟨⟨3, bt_T9, 53, rfl, rfl, vm_M_hasSound⟩, bt_gin (bt_tin6 (List.mem_of_getElem? (i := 169) (by decide +kernel))) rfl, vm_M_hasSound_k, vm_M_hasSound_s⟩
theorem vm_M_walksFault : bt_lkM mi_M_walksFault 1 := ⟨bt_gin (bt_tin6 (List.mem_of_getElem? (i := 161) (by decide +kernel))) rfl, bt_gin (bt_tin1 (List.mem_of_getElem? (i := 11) (by decide +kernel))) rfl, ⟨by decide +kernel, by decide +kernel, by decide +kernel⟩, by decide +kernel⟩
theorem vm_M_walksFault_k : Cond.instanceMethod mi_M_walksFault.1 ∈ bt_gw := bt_gin (bt_tin6 (List.mem_of_getElem? (i := 160) (by decide +kernel))) rfl
theorem vm_M_walksFault_s : Cond.selects mi_M_walksFault.1.cls mi_M_walksFault.1 mi_M_walksFault.1 ∈ bt_gw := bt_gin (List.mem_of_getElem? (i := 80) (by decide +kernel)) rfl
theorem bv_M_336 : bt_lkV "BellTreesModel" 336 mi_M_walksFault 2 9 := ⟨⟨1, bt_T9, 53, rfl, rfl, vm_M_walksFault⟩, bt_gin (bt_tin6 (List.mem_of_getElem? (i := 158) (by decide +kernel))) rfl, vm_M_walksFault_k, vm_M_walksFault_s⟩
theorem vm_M_bitsOf : bt_lkM mi_M_bitsOf 1 := ⟨bt_gin (bt_tin6 (List.mem_of_getElem? (i := 164) (by decide +kernel))) rfl, bt_gin (bt_tin1 (List.mem_of_getElem? (i := 11) (by decide +kernel))) rfl, ⟨by decide +kernel, by decide +kernel, by decide +kernel⟩, by decide +kernel⟩
theorem vm_M_bitsOf_k : Cond.static mi_M_bitsOf.1 ∈ bt_gw := bt_gin (bt_tin6 (List.mem_of_getElem? (i := 163) (by decide +kernel))) rfl
theorem bs_M_339 : bt_lkS "BellTreesModel" 339 mi_M_bitsOf 1 := ⟨vm_M_bitsOf, Or.inl (bt_gin (bt_tin6 (List.mem_of_getElem? (i := 162) (by decide +kernel))) rfl), vm_M_bitsOf_k⟩
theorem vm_M_areEnough : bt_lkM mi_M_areEnough 3 := ⟨bt_gin (bt_tin6 (List.mem_of_getElem? (i := 168) (by decide +kernel))) rfl, bt_gin (bt_tin1 (List.mem_of_getElem? (i := 11) (by decide +kernel))) rfl, ⟨by decide +kernel, by decide +kernel, by decide +kernel⟩, by decide +kernel⟩
theorem vm_M_areEnough_k : Cond.instanceMethod mi_M_areEnough.1 ∈ bt_gw := bt_gin (bt_tin6 (List.mem_of_getElem? (i := 167) (by decide +kernel))) rfl
theorem vm_M_areEnough_s : Cond.selects mi_M_areEnough.1.cls mi_M_areEnough.1 mi_M_areEnough.1 ∈ bt_gw := bt_gin (List.mem_of_getElem? (i := 81) (by decide +kernel)) rfl
theorem bv_M_342 : bt_lkV "BellTreesModel" 342 mi_M_areEnough 4 9 := ⟨⟨3, bt_T9, 53, rfl, rfl, vm_M_areEnough⟩, bt_gin (bt_tin6 (List.mem_of_getElem? (i := 165) (by decide +kernel))) rfl, vm_M_areEnough_k, vm_M_areEnough_s⟩
theorem vm_M_isTuned : bt_lkM mi_M_isTuned 1 := ⟨bt_gin (bt_tin6 (List.mem_of_getElem? (i := 180) (by decide +kernel))) rfl, bt_gin (bt_tin1 (List.mem_of_getElem? (i := 11) (by decide +kernel))) rfl, ⟨by decide +kernel, by decide +kernel, by decide +kernel⟩, by decide +kernel⟩
theorem vm_M_isTuned_k : Cond.instanceMethod mi_M_isTuned.1 ∈ bt_gw := bt_gin (bt_tin6 (List.mem_of_getElem? (i := 179) (by decide +kernel))) rfl
theorem vm_M_isTuned_s : Cond.selects mi_M_isTuned.1.cls mi_M_isTuned.1 mi_M_isTuned.1 ∈ bt_gw := bt_gin (List.mem_of_getElem? (i := 83) (by decide +kernel)) rfl
theorem bv_M_345 : bt_lkV "BellTreesModel" 345 mi_M_isTuned 2 9 := ⟨⟨1, bt_T9, 53, rfl, rfl, vm_M_isTuned⟩, bt_gin (bt_tin6 (List.mem_of_getElem? (i := 177) (by decide +kernel))) rfl, vm_M_isTuned_k, vm_M_isTuned_s⟩
theorem lg_M_348 : bt_lkF "BellTreesModel" 348 9 38 false := ⟨bt_R9, bt_T9, 53, bt_ty9, rfl, rfl, bt_inG9, bt_tyok9, bt_nm9, rfl, bt_gin (bt_tin5 (List.mem_of_getElem? (i := 15) (by decide +kernel))) rfl, fun h => by cases h⟩
theorem lk_M_351 : Cond.constant "BellTreesModel" 351 1103515245 ∈ bt_gw := bt_gin (bt_tin6 (List.mem_of_getElem? (i := 189) (by decide +kernel))) rfl
theorem lp_M_348 : bt_lkF "BellTreesModel" 348 9 38 true := ⟨bt_R9, bt_T9, 53, bt_ty9, rfl, rfl, bt_inG9, bt_tyok9, bt_nm9, rfl, bt_gin (bt_tin5 (List.mem_of_getElem? (i := 15) (by decide +kernel))) rfl, fun _ => ⟨rfl, Or.inl ⟨rfl, rfl⟩⟩⟩
theorem vm_M_draw : bt_lkM mi_M_draw 1 := ⟨bt_gin (bt_tin6 (List.mem_of_getElem? (i := 188) (by decide +kernel))) rfl, bt_gin (bt_tin1 (List.mem_of_getElem? (i := 11) (by decide +kernel))) rfl, ⟨by decide +kernel, by decide +kernel, by decide +kernel⟩, by decide +kernel⟩
theorem vm_M_draw_k : Cond.instanceMethod mi_M_draw.1 ∈ bt_gw := bt_gin (bt_tin6 (List.mem_of_getElem? (i := 187) (by decide +kernel))) rfl
theorem vm_M_draw_s : Cond.selects mi_M_draw.1.cls mi_M_draw.1 mi_M_draw.1 ∈ bt_gw := bt_gin (List.mem_of_getElem? (i := 84) (by decide +kernel)) rfl
theorem bv_M_352 : bt_lkV "BellTreesModel" 352 mi_M_draw 2 9 := ⟨⟨1, bt_T9, 53, rfl, rfl, vm_M_draw⟩, bt_gin (bt_tin6 (List.mem_of_getElem? (i := 185) (by decide +kernel))) rfl, vm_M_draw_k, vm_M_draw_s⟩
theorem vm_M_neighbour : bt_lkM mi_M_neighbour 2 := ⟨bt_gin (bt_tin6 (List.mem_of_getElem? (i := 193) (by decide +kernel))) rfl, bt_gin (bt_tin1 (List.mem_of_getElem? (i := 11) (by decide +kernel))) rfl, ⟨by decide +kernel, by decide +kernel, by decide +kernel⟩, by decide +kernel⟩
theorem vm_M_neighbour_k : Cond.instanceMethod mi_M_neighbour.1 ∈ bt_gw := bt_gin (bt_tin6 (List.mem_of_getElem? (i := 192) (by decide +kernel))) rfl
theorem vm_M_neighbour_s : Cond.selects mi_M_neighbour.1.cls mi_M_neighbour.1 mi_M_neighbour.1 ∈ bt_gw := bt_gin (List.mem_of_getElem? (i := 85) (by decide +kernel)) rfl
theorem bv_M_355 : bt_lkV "BellTreesModel" 355 mi_M_neighbour 3 9 := ⟨⟨2, bt_T9, 53, rfl, rfl, vm_M_neighbour⟩, bt_gin (bt_tin6 (List.mem_of_getElem? (i := 190) (by decide +kernel))) rfl, vm_M_neighbour_k, vm_M_neighbour_s⟩
theorem lp_M_181 : bt_lkF "BellTreesModel" 181 9 9 true := ⟨bt_R9, bt_T9, 53, bt_ty9, rfl, rfl, bt_inG9, bt_tyok9, bt_nm9, rfl, bt_gin (bt_tin4 (List.mem_of_getElem? (i := 226) (by decide +kernel))) rfl, fun _ => ⟨rfl, Or.inl ⟨rfl, rfl⟩⟩⟩
theorem lp_M_85 : bt_lkF "BellTreesModel" 85 9 39 true := ⟨bt_R9, bt_T9, 53, bt_ty9, rfl, rfl, bt_inG9, bt_tyok9, bt_nm9, rfl, bt_gin (bt_tin5 (List.mem_of_getElem? (i := 16) (by decide +kernel))) rfl, fun _ => ⟨rfl, Or.inl ⟨rfl, rfl⟩⟩⟩
theorem lp_M_358 : bt_lkF "BellTreesModel" 358 9 40 true := ⟨bt_R9, bt_T9, 53, bt_ty9, rfl, rfl, bt_inG9, bt_tyok9, bt_nm9, rfl, bt_gin (bt_tin5 (List.mem_of_getElem? (i := 17) (by decide +kernel))) rfl, fun _ => ⟨rfl, Or.inl ⟨rfl, rfl⟩⟩⟩
theorem lg_M_89 : bt_lkF "BellTreesModel" 89 9 41 false := ⟨bt_R9, bt_T9, 53, bt_ty9, rfl, rfl, bt_inG9, bt_tyok9, bt_nm9, rfl, bt_gin (bt_tin5 (List.mem_of_getElem? (i := 18) (by decide +kernel))) rfl, fun h => by cases h⟩
theorem lg_M_92 : bt_lkF "BellTreesModel" 92 9 42 false := ⟨bt_R9, bt_T9, 53, bt_ty9, rfl, rfl, bt_inG9, bt_tyok9, bt_nm9, rfl, bt_gin (bt_tin5 (List.mem_of_getElem? (i := 19) (by decide +kernel))) rfl, fun h => by cases h⟩
theorem lg_M_95 : bt_lkF "BellTreesModel" 95 9 43 false := ⟨bt_R9, bt_T9, 53, bt_ty9, rfl, rfl, bt_inG9, bt_tyok9, bt_nm9, rfl, bt_gin (bt_tin5 (List.mem_of_getElem? (i := 20) (by decide +kernel))) rfl, fun h => by cases h⟩
theorem lg_M_98 : bt_lkF "BellTreesModel" 98 9 44 false := ⟨bt_R9, bt_T9, 53, bt_ty9, rfl, rfl, bt_inG9, bt_tyok9, bt_nm9, rfl, bt_gin (bt_tin5 (List.mem_of_getElem? (i := 21) (by decide +kernel))) rfl, fun h => by cases h⟩
theorem lg_M_85 : bt_lkF "BellTreesModel" 85 9 39 false := ⟨bt_R9, bt_T9, 53, bt_ty9, rfl, rfl, bt_inG9, bt_tyok9, bt_nm9, rfl, bt_gin (bt_tin5 (List.mem_of_getElem? (i := 16) (by decide +kernel))) rfl, fun h => by cases h⟩
theorem lg_M_358 : bt_lkF "BellTreesModel" 358 9 40 false := ⟨bt_R9, bt_T9, 53, bt_ty9, rfl, rfl, bt_inG9, bt_tyok9, bt_nm9, rfl, bt_gin (bt_tin5 (List.mem_of_getElem? (i := 17) (by decide +kernel))) rfl, fun h => by cases h⟩
theorem lg_M_361 : bt_lkF "BellTreesModel" 361 9 45 false := ⟨bt_R9, bt_T9, 53, bt_ty9, rfl, rfl, bt_inG9, bt_tyok9, bt_nm9, rfl, bt_gin (bt_tin5 (List.mem_of_getElem? (i := 22) (by decide +kernel))) rfl, fun h => by cases h⟩
theorem lg_M_364 : bt_lkF "BellTreesModel" 364 9 47 false := ⟨bt_R9, bt_T9, 53, bt_ty9, rfl, rfl, bt_inG9, bt_tyok9, bt_nm9, rfl, bt_gin (bt_tin5 (List.mem_of_getElem? (i := 24) (by decide +kernel))) rfl, fun h => by cases h⟩
theorem lg_M_104 : bt_lkF "BellTreesModel" 104 9 48 false := ⟨bt_R9, bt_T9, 53, bt_ty9, rfl, rfl, bt_inG9, bt_tyok9, bt_nm9, rfl, bt_gin (bt_tin5 (List.mem_of_getElem? (i := 25) (by decide +kernel))) rfl, fun h => by cases h⟩
theorem lp_M_364 : bt_lkF "BellTreesModel" 364 9 47 true := ⟨bt_R9, bt_T9, 53, bt_ty9, rfl, rfl, bt_inG9, bt_tyok9, bt_nm9, rfl, bt_gin (bt_tin5 (List.mem_of_getElem? (i := 24) (by decide +kernel))) rfl, fun _ => ⟨rfl, Or.inl ⟨rfl, rfl⟩⟩⟩
theorem lg_M_101 : bt_lkF "BellTreesModel" 101 9 46 false := ⟨bt_R9, bt_T9, 53, bt_ty9, rfl, rfl, bt_inG9, bt_tyok9, bt_nm9, rfl, bt_gin (bt_tin5 (List.mem_of_getElem? (i := 23) (by decide +kernel))) rfl, fun h => by cases h⟩
theorem lp_M_361 : bt_lkF "BellTreesModel" 361 9 45 true := ⟨bt_R9, bt_T9, 53, bt_ty9, rfl, rfl, bt_inG9, bt_tyok9, bt_nm9, rfl, bt_gin (bt_tin5 (List.mem_of_getElem? (i := 22) (by decide +kernel))) rfl, fun _ => ⟨rfl, Or.inl ⟨rfl, rfl⟩⟩⟩
theorem vm_M_ran : bt_lkM mi_M_ran 1 := ⟨bt_gin (bt_tin7 (List.mem_of_getElem? (i := 0) (by decide +kernel))) rfl, bt_gin (bt_tin1 (List.mem_of_getElem? (i := 11) (by decide +kernel))) rfl, ⟨by decide +kernel, by decide +kernel, by decide +kernel⟩, by decide +kernel⟩
theorem vm_M_ran_k : Cond.instanceMethod mi_M_ran.1 ∈ bt_gw := bt_gin (bt_tin6 (List.mem_of_getElem? (i := 239) (by decide +kernel))) rfl
theorem vm_M_ran_s : Cond.selects mi_M_ran.1.cls mi_M_ran.1 mi_M_ran.1 ∈ bt_gw := bt_gin (List.mem_of_getElem? (i := 88) (by decide +kernel)) rfl
theorem bv_M_367 : bt_lkV "BellTreesModel" 367 mi_M_ran 2 9 := ⟨⟨1, bt_T9, 53, rfl, rfl, vm_M_ran⟩, bt_gin (bt_tin6 (List.mem_of_getElem? (i := 237) (by decide +kernel))) rfl, vm_M_ran_k, vm_M_ran_s⟩
theorem vm_M_plainRings : bt_lkM mi_M_plainRings 2 := ⟨bt_gin (bt_tin7 (List.mem_of_getElem? (i := 4) (by decide +kernel))) rfl, bt_gin (bt_tin1 (List.mem_of_getElem? (i := 11) (by decide +kernel))) rfl, ⟨by decide +kernel, by decide +kernel, by decide +kernel⟩, by decide +kernel⟩
theorem vm_M_plainRings_k : Cond.instanceMethod mi_M_plainRings.1 ∈ bt_gw := bt_gin (bt_tin7 (List.mem_of_getElem? (i := 3) (by decide +kernel))) rfl
theorem vm_M_plainRings_s : Cond.selects mi_M_plainRings.1.cls mi_M_plainRings.1 mi_M_plainRings.1 ∈ bt_gw := bt_gin (List.mem_of_getElem? (i := 89) (by decide +kernel)) rfl
theorem bv_M_371 : bt_lkV "BellTreesModel" 371 mi_M_plainRings 3 9 := ⟨⟨2, bt_T9, 53, rfl, rfl, vm_M_plainRings⟩, bt_gin (bt_tin7 (List.mem_of_getElem? (i := 1) (by decide +kernel))) rfl, vm_M_plainRings_k, vm_M_plainRings_s⟩
theorem vm_M_isUnder : bt_lkM mi_M_isUnder 2 := ⟨bt_gin (bt_tin6 (List.mem_of_getElem? (i := 236) (by decide +kernel))) rfl, bt_gin (bt_tin1 (List.mem_of_getElem? (i := 11) (by decide +kernel))) rfl, ⟨by decide +kernel, by decide +kernel, by decide +kernel⟩, by decide +kernel⟩
theorem vm_M_isUnder_k : Cond.static mi_M_isUnder.1 ∈ bt_gw := bt_gin (bt_tin6 (List.mem_of_getElem? (i := 235) (by decide +kernel))) rfl
theorem bs_M_374 : bt_lkS "BellTreesModel" 374 mi_M_isUnder 2 := ⟨vm_M_isUnder, Or.inl (bt_gin (bt_tin6 (List.mem_of_getElem? (i := 234) (by decide +kernel))) rfl), vm_M_isUnder_k⟩
theorem vm_M_stolenRings : bt_lkM mi_M_stolenRings 2 := ⟨bt_gin (bt_tin7 (List.mem_of_getElem? (i := 8) (by decide +kernel))) rfl, bt_gin (bt_tin1 (List.mem_of_getElem? (i := 11) (by decide +kernel))) rfl, ⟨by decide +kernel, by decide +kernel, by decide +kernel⟩, by decide +kernel⟩
theorem vm_M_stolenRings_k : Cond.instanceMethod mi_M_stolenRings.1 ∈ bt_gw := bt_gin (bt_tin7 (List.mem_of_getElem? (i := 7) (by decide +kernel))) rfl
theorem vm_M_stolenRings_s : Cond.selects mi_M_stolenRings.1.cls mi_M_stolenRings.1 mi_M_stolenRings.1 ∈ bt_gw := bt_gin (List.mem_of_getElem? (i := 90) (by decide +kernel)) rfl
theorem bv_M_377 : bt_lkV "BellTreesModel" 377 mi_M_stolenRings 3 9 := ⟨⟨2, bt_T9, 53, rfl, rfl, vm_M_stolenRings⟩, bt_gin (bt_tin7 (List.mem_of_getElem? (i := 5) (by decide +kernel))) rfl, vm_M_stolenRings_k, vm_M_stolenRings_s⟩
theorem vm_M_ringing : bt_lkM mi_M_ringing 2 := ⟨bt_gin (bt_tin6 (List.mem_of_getElem? (i := 233) (by decide +kernel))) rfl, bt_gin (bt_tin1 (List.mem_of_getElem? (i := 11) (by decide +kernel))) rfl, ⟨by decide +kernel, by decide +kernel, by decide +kernel⟩, by decide +kernel⟩
theorem vm_M_ringing_k : Cond.instanceMethod mi_M_ringing.1 ∈ bt_gw := bt_gin (bt_tin6 (List.mem_of_getElem? (i := 232) (by decide +kernel))) rfl
theorem vm_M_ringing_s : Cond.selects mi_M_ringing.1.cls mi_M_ringing.1 mi_M_ringing.1 ∈ bt_gw := bt_gin (List.mem_of_getElem? (i := 87) (by decide +kernel)) rfl
theorem bv_M_380 : bt_lkV "BellTreesModel" 380 mi_M_ringing 3 9 := ⟨⟨2, bt_T9, 53, rfl, rfl, vm_M_ringing⟩, bt_gin (bt_tin6 (List.mem_of_getElem? (i := 230) (by decide +kernel))) rfl, vm_M_ringing_k, vm_M_ringing_s⟩
theorem vm_M_plainBrushes : bt_lkM mi_M_plainBrushes 2 := ⟨bt_gin (bt_tin7 (List.mem_of_getElem? (i := 20) (by decide +kernel))) rfl, bt_gin (bt_tin1 (List.mem_of_getElem? (i := 11) (by decide +kernel))) rfl, ⟨by decide +kernel, by decide +kernel, by decide +kernel⟩, by decide +kernel⟩
theorem vm_M_plainBrushes_k : Cond.instanceMethod mi_M_plainBrushes.1 ∈ bt_gw := bt_gin (bt_tin7 (List.mem_of_getElem? (i := 19) (by decide +kernel))) rfl
theorem vm_M_plainBrushes_s : Cond.selects mi_M_plainBrushes.1.cls mi_M_plainBrushes.1 mi_M_plainBrushes.1 ∈ bt_gw := bt_gin (List.mem_of_getElem? (i := 93) (by decide +kernel)) rfl
theorem bv_M_383 : bt_lkV "BellTreesModel" 383 mi_M_plainBrushes 3 9 := ⟨⟨2, bt_T9, 53, rfl, rfl, vm_M_plainBrushes⟩, bt_gin (bt_tin7 (List.mem_of_getElem? (i := 17) (by decide +kernel))) rfl, vm_M_plainBrushes_k, vm_M_plainBrushes_s⟩
theorem vm_M_gustBrushes : bt_lkM mi_M_gustBrushes 2 := ⟨bt_gin (bt_tin7 (List.mem_of_getElem? (i := 16) (by decide +kernel))) rfl, bt_gin (bt_tin1 (List.mem_of_getElem? (i := 11) (by decide +kernel))) rfl, ⟨by decide +kernel, by decide +kernel, by decide +kernel⟩, by decide +kernel⟩
theorem vm_M_gustBrushes_k : Cond.instanceMethod mi_M_gustBrushes.1 ∈ bt_gw := bt_gin (bt_tin7 (List.mem_of_getElem? (i := 15) (by decide +kernel))) rfl
theorem vm_M_gustBrushes_s : Cond.selects mi_M_gustBrushes.1.cls mi_M_gustBrushes.1 mi_M_gustBrushes.1 ∈ bt_gw := bt_gin (List.mem_of_getElem? (i := 92) (by decide +kernel)) rfl
theorem bv_M_386 : bt_lkV "BellTreesModel" 386 mi_M_gustBrushes 3 9 := ⟨⟨2, bt_T9, 53, rfl, rfl, vm_M_gustBrushes⟩, bt_gin (bt_tin7 (List.mem_of_getElem? (i := 13) (by decide +kernel))) rfl, vm_M_gustBrushes_k, vm_M_gustBrushes_s⟩
theorem vm_M_hearing : bt_lkM mi_M_hearing 2 := ⟨bt_gin (bt_tin7 (List.mem_of_getElem? (i := 24) (by decide +kernel))) rfl, bt_gin (bt_tin1 (List.mem_of_getElem? (i := 11) (by decide +kernel))) rfl, ⟨by decide +kernel, by decide +kernel, by decide +kernel⟩, by decide +kernel⟩
theorem vm_M_hearing_k : Cond.instanceMethod mi_M_hearing.1 ∈ bt_gw := bt_gin (bt_tin7 (List.mem_of_getElem? (i := 23) (by decide +kernel))) rfl
theorem vm_M_hearing_s : Cond.selects mi_M_hearing.1.cls mi_M_hearing.1 mi_M_hearing.1 ∈ bt_gw := bt_gin (List.mem_of_getElem? (i := 94) (by decide +kernel)) rfl
theorem bv_M_389 : bt_lkV "BellTreesModel" 389 mi_M_hearing 3 9 := ⟨⟨2, bt_T9, 53, rfl, rfl, vm_M_hearing⟩, bt_gin (bt_tin7 (List.mem_of_getElem? (i := 21) (by decide +kernel))) rfl, vm_M_hearing_k, vm_M_hearing_s⟩
theorem vm_M_plainHears : bt_lkM mi_M_plainHears 2 := ⟨bt_gin (bt_tin7 (List.mem_of_getElem? (i := 32) (by decide +kernel))) rfl, bt_gin (bt_tin1 (List.mem_of_getElem? (i := 11) (by decide +kernel))) rfl, ⟨by decide +kernel, by decide +kernel, by decide +kernel⟩, by decide +kernel⟩
theorem vm_M_plainHears_k : Cond.instanceMethod mi_M_plainHears.1 ∈ bt_gw := bt_gin (bt_tin7 (List.mem_of_getElem? (i := 31) (by decide +kernel))) rfl
theorem vm_M_plainHears_s : Cond.selects mi_M_plainHears.1.cls mi_M_plainHears.1 mi_M_plainHears.1 ∈ bt_gw := bt_gin (List.mem_of_getElem? (i := 96) (by decide +kernel)) rfl
theorem bv_M_392 : bt_lkV "BellTreesModel" 392 mi_M_plainHears 3 9 := ⟨⟨2, bt_T9, 53, rfl, rfl, vm_M_plainHears⟩, bt_gin (bt_tin7 (List.mem_of_getElem? (i := 29) (by decide +kernel))) rfl, vm_M_plainHears_k, vm_M_plainHears_s⟩
theorem vm_M_owlHears : bt_lkM mi_M_owlHears 2 := ⟨bt_gin (bt_tin7 (List.mem_of_getElem? (i := 28) (by decide +kernel))) rfl, bt_gin (bt_tin1 (List.mem_of_getElem? (i := 11) (by decide +kernel))) rfl, ⟨by decide +kernel, by decide +kernel, by decide +kernel⟩, by decide +kernel⟩
theorem vm_M_owlHears_k : Cond.instanceMethod mi_M_owlHears.1 ∈ bt_gw := bt_gin (bt_tin7 (List.mem_of_getElem? (i := 27) (by decide +kernel))) rfl
theorem vm_M_owlHears_s : Cond.selects mi_M_owlHears.1.cls mi_M_owlHears.1 mi_M_owlHears.1 ∈ bt_gw := bt_gin (List.mem_of_getElem? (i := 95) (by decide +kernel)) rfl
theorem bv_M_395 : bt_lkV "BellTreesModel" 395 mi_M_owlHears 3 9 := ⟨⟨2, bt_T9, 53, rfl, rfl, vm_M_owlHears⟩, bt_gin (bt_tin7 (List.mem_of_getElem? (i := 25) (by decide +kernel))) rfl, vm_M_owlHears_k, vm_M_owlHears_s⟩
theorem vm_M_brushing : bt_lkM mi_M_brushing 2 := ⟨bt_gin (bt_tin7 (List.mem_of_getElem? (i := 12) (by decide +kernel))) rfl, bt_gin (bt_tin1 (List.mem_of_getElem? (i := 11) (by decide +kernel))) rfl, ⟨by decide +kernel, by decide +kernel, by decide +kernel⟩, by decide +kernel⟩
theorem vm_M_brushing_k : Cond.instanceMethod mi_M_brushing.1 ∈ bt_gw := bt_gin (bt_tin7 (List.mem_of_getElem? (i := 11) (by decide +kernel))) rfl
theorem vm_M_brushing_s : Cond.selects mi_M_brushing.1.cls mi_M_brushing.1 mi_M_brushing.1 ∈ bt_gw := bt_gin (List.mem_of_getElem? (i := 91) (by decide +kernel)) rfl
theorem bv_M_398 : bt_lkV "BellTreesModel" 398 mi_M_brushing 3 9 := ⟨⟨2, bt_T9, 53, rfl, rfl, vm_M_brushing⟩, bt_gin (bt_tin7 (List.mem_of_getElem? (i := 9) (by decide +kernel))) rfl, vm_M_brushing_k, vm_M_brushing_s⟩
theorem vm_M_plainWrites : bt_lkM mi_M_plainWrites 2 := ⟨bt_gin (bt_tin7 (List.mem_of_getElem? (i := 40) (by decide +kernel))) rfl, bt_gin (bt_tin1 (List.mem_of_getElem? (i := 11) (by decide +kernel))) rfl, ⟨by decide +kernel, by decide +kernel, by decide +kernel⟩, by decide +kernel⟩
theorem vm_M_plainWrites_k : Cond.instanceMethod mi_M_plainWrites.1 ∈ bt_gw := bt_gin (bt_tin7 (List.mem_of_getElem? (i := 39) (by decide +kernel))) rfl
theorem vm_M_plainWrites_s : Cond.selects mi_M_plainWrites.1.cls mi_M_plainWrites.1 mi_M_plainWrites.1 ∈ bt_gw := bt_gin (List.mem_of_getElem? (i := 98) (by decide +kernel)) rfl
theorem bv_M_401 : bt_lkV "BellTreesModel" 401 mi_M_plainWrites 3 9 := ⟨⟨2, bt_T9, 53, rfl, rfl, vm_M_plainWrites⟩, bt_gin (bt_tin7 (List.mem_of_getElem? (i := 37) (by decide +kernel))) rfl, vm_M_plainWrites_k, vm_M_plainWrites_s⟩
theorem vm_M_isBody : bt_lkM mi_M_isBody 1 := ⟨bt_gin (bt_tin6 (List.mem_of_getElem? (i := 229) (by decide +kernel))) rfl, bt_gin (bt_tin1 (List.mem_of_getElem? (i := 11) (by decide +kernel))) rfl, ⟨by decide +kernel, by decide +kernel, by decide +kernel⟩, by decide +kernel⟩
theorem vm_M_isBody_k : Cond.instanceMethod mi_M_isBody.1 ∈ bt_gw := bt_gin (bt_tin6 (List.mem_of_getElem? (i := 228) (by decide +kernel))) rfl
theorem vm_M_isBody_s : Cond.selects mi_M_isBody.1.cls mi_M_isBody.1 mi_M_isBody.1 ∈ bt_gw := bt_gin (List.mem_of_getElem? (i := 86) (by decide +kernel)) rfl
theorem bv_M_404 : bt_lkV "BellTreesModel" 404 mi_M_isBody 2 9 := ⟨⟨1, bt_T9, 53, rfl, rfl, vm_M_isBody⟩, bt_gin (bt_tin6 (List.mem_of_getElem? (i := 226) (by decide +kernel))) rfl, vm_M_isBody_k, vm_M_isBody_s⟩
theorem vm_M_writing : bt_lkM mi_M_writing 2 := ⟨bt_gin (bt_tin7 (List.mem_of_getElem? (i := 36) (by decide +kernel))) rfl, bt_gin (bt_tin1 (List.mem_of_getElem? (i := 11) (by decide +kernel))) rfl, ⟨by decide +kernel, by decide +kernel, by decide +kernel⟩, by decide +kernel⟩
theorem vm_M_writing_k : Cond.instanceMethod mi_M_writing.1 ∈ bt_gw := bt_gin (bt_tin7 (List.mem_of_getElem? (i := 35) (by decide +kernel))) rfl
theorem vm_M_writing_s : Cond.selects mi_M_writing.1.cls mi_M_writing.1 mi_M_writing.1 ∈ bt_gw := bt_gin (List.mem_of_getElem? (i := 97) (by decide +kernel)) rfl
theorem bv_M_407 : bt_lkV "BellTreesModel" 407 mi_M_writing 3 9 := ⟨⟨2, bt_T9, 53, rfl, rfl, vm_M_writing⟩, bt_gin (bt_tin7 (List.mem_of_getElem? (i := 33) (by decide +kernel))) rfl, vm_M_writing_k, vm_M_writing_s⟩
theorem vm_M_whyNoPlace : bt_lkM mi_M_whyNoPlace 2 := ⟨bt_gin (bt_tin7 (List.mem_of_getElem? (i := 60) (by decide +kernel))) rfl, bt_gin (bt_tin1 (List.mem_of_getElem? (i := 11) (by decide +kernel))) rfl, ⟨by decide +kernel, by decide +kernel, by decide +kernel⟩, by decide +kernel⟩
theorem vm_M_whyNoPlace_k : Cond.instanceMethod mi_M_whyNoPlace.1 ∈ bt_gw := bt_gin (bt_tin7 (List.mem_of_getElem? (i := 59) (by decide +kernel))) rfl
theorem vm_M_whyNoPlace_s : Cond.selects mi_M_whyNoPlace.1.cls mi_M_whyNoPlace.1 mi_M_whyNoPlace.1 ∈ bt_gw := bt_gin (List.mem_of_getElem? (i := 99) (by decide +kernel)) rfl
theorem bv_M_410 : bt_lkV "BellTreesModel" 410 mi_M_whyNoPlace 3 9 := ⟨⟨2, bt_T9, 53, rfl, rfl, vm_M_whyNoPlace⟩, bt_gin (bt_tin7 (List.mem_of_getElem? (i := 57) (by decide +kernel))) rfl, vm_M_whyNoPlace_k, vm_M_whyNoPlace_s⟩
theorem lk_M_415 : Cond.constantLong "BellTreesModel" 415 (-9223372036854775808) ∈ bt_gw := bt_gin (bt_tin7 (List.mem_of_getElem? (i := 65) (by decide +kernel))) rfl
theorem lg_M_116 : bt_lkF "BellTreesModel" 116 9 52 false := ⟨bt_R9, bt_T9, 53, bt_ty9, rfl, rfl, bt_inG9, bt_tyok9, bt_nm9, rfl, bt_gin (bt_tin5 (List.mem_of_getElem? (i := 29) (by decide +kernel))) rfl, fun h => by cases h⟩
theorem vm_B_tree : bt_lkM mi_B_tree 1 := ⟨bt_gin (bt_tin2 (List.mem_of_getElem? (i := 32) (by decide +kernel))) rfl, bt_gin (bt_tin1 (List.mem_of_getElem? (i := 1) (by decide +kernel))) rfl, ⟨by decide +kernel, by decide +kernel, by decide +kernel⟩, by decide +kernel⟩
theorem vm_B_tree_k : Cond.instanceMethod mi_B_tree.1 ∈ bt_gw := bt_gin (bt_tin2 (List.mem_of_getElem? (i := 30) (by decide +kernel))) rfl
theorem vm_B_tree_s : Cond.selects mi_B_tree.1.cls mi_B_tree.1 mi_B_tree.1 ∈ bt_gw := bt_gin (bt_tin2 (List.mem_of_getElem? (i := 31) (by decide +kernel))) rfl
theorem bv_X_13 : bt_lkV "BellTreesLaw" 13 mi_B_tree 2 0 := ⟨⟨1, bt_T0, 9, rfl, rfl, vm_B_tree⟩, bt_gin (bt_tin2 (List.mem_of_getElem? (i := 29) (by decide +kernel))) rfl, vm_B_tree_k, vm_B_tree_s⟩
theorem vm_M_tree : bt_lkM mi_M_tree 1 := ⟨bt_gin (bt_tin5 (List.mem_of_getElem? (i := 142) (by decide +kernel))) rfl, bt_gin (bt_tin1 (List.mem_of_getElem? (i := 11) (by decide +kernel))) rfl, ⟨by decide +kernel, by decide +kernel, by decide +kernel⟩, by decide +kernel⟩
theorem vm_M_tree_k : Cond.instanceMethod mi_M_tree.1 ∈ bt_gw := bt_gin (bt_tin5 (List.mem_of_getElem? (i := 140) (by decide +kernel))) rfl
theorem vm_M_tree_s : Cond.selects mi_M_tree.1.cls mi_M_tree.1 mi_M_tree.1 ∈ bt_gw := bt_gin (bt_tin5 (List.mem_of_getElem? (i := 141) (by decide +kernel))) rfl
theorem bv_X_17 : bt_lkV "BellTreesLaw" 17 mi_M_tree 2 9 := ⟨⟨1, bt_T9, 53, rfl, rfl, vm_M_tree⟩, bt_gin (bt_tin5 (List.mem_of_getElem? (i := 139) (by decide +kernel))) rfl, vm_M_tree_k, vm_M_tree_s⟩
theorem vm_B_trees : bt_lkM mi_B_trees 3 := ⟨bt_gin (bt_tin2 (List.mem_of_getElem? (i := 52) (by decide +kernel))) rfl, bt_gin (bt_tin1 (List.mem_of_getElem? (i := 1) (by decide +kernel))) rfl, ⟨by decide +kernel, by decide +kernel, by decide +kernel⟩, by decide +kernel⟩
theorem vm_B_trees_k : Cond.instanceMethod mi_B_trees.1 ∈ bt_gw := bt_gin (bt_tin2 (List.mem_of_getElem? (i := 50) (by decide +kernel))) rfl
theorem vm_B_trees_s : Cond.selects mi_B_trees.1.cls mi_B_trees.1 mi_B_trees.1 ∈ bt_gw := bt_gin (bt_tin2 (List.mem_of_getElem? (i := 51) (by decide +kernel))) rfl
theorem bv_X_18 : bt_lkV "BellTreesLaw" 18 mi_B_trees 4 0 := ⟨⟨3, bt_T0, 9, rfl, rfl, vm_B_trees⟩, bt_gin (bt_tin2 (List.mem_of_getElem? (i := 49) (by decide +kernel))) rfl, vm_B_trees_k, vm_B_trees_s⟩
theorem vm_M_trees : bt_lkM mi_M_trees 3 := ⟨bt_gin (bt_tin5 (List.mem_of_getElem? (i := 153) (by decide +kernel))) rfl, bt_gin (bt_tin1 (List.mem_of_getElem? (i := 11) (by decide +kernel))) rfl, ⟨by decide +kernel, by decide +kernel, by decide +kernel⟩, by decide +kernel⟩
theorem vm_M_trees_k : Cond.instanceMethod mi_M_trees.1 ∈ bt_gw := bt_gin (bt_tin5 (List.mem_of_getElem? (i := 151) (by decide +kernel))) rfl
theorem vm_M_trees_s : Cond.selects mi_M_trees.1.cls mi_M_trees.1 mi_M_trees.1 ∈ bt_gw := bt_gin (bt_tin5 (List.mem_of_getElem? (i := 152) (by decide +kernel))) rfl
theorem bv_X_22 : bt_lkV "BellTreesLaw" 22 mi_M_trees 4 9 := ⟨⟨3, bt_T9, 53, rfl, rfl, vm_M_trees⟩, bt_gin (bt_tin5 (List.mem_of_getElem? (i := 150) (by decide +kernel))) rfl, vm_M_trees_k, vm_M_trees_s⟩
theorem vm_B_path : bt_lkM mi_B_path 1 := ⟨bt_gin (bt_tin2 (List.mem_of_getElem? (i := 89) (by decide +kernel))) rfl, bt_gin (bt_tin1 (List.mem_of_getElem? (i := 1) (by decide +kernel))) rfl, ⟨by decide +kernel, by decide +kernel, by decide +kernel⟩, by decide +kernel⟩
theorem vm_B_path_k : Cond.instanceMethod mi_B_path.1 ∈ bt_gw := bt_gin (bt_tin2 (List.mem_of_getElem? (i := 87) (by decide +kernel))) rfl
theorem vm_B_path_s : Cond.selects mi_B_path.1.cls mi_B_path.1 mi_B_path.1 ∈ bt_gw := bt_gin (bt_tin2 (List.mem_of_getElem? (i := 88) (by decide +kernel))) rfl
theorem bv_X_23 : bt_lkV "BellTreesLaw" 23 mi_B_path 2 0 := ⟨⟨1, bt_T0, 9, rfl, rfl, vm_B_path⟩, bt_gin (bt_tin2 (List.mem_of_getElem? (i := 86) (by decide +kernel))) rfl, vm_B_path_k, vm_B_path_s⟩
theorem vm_M_path : bt_lkM mi_M_path 1 := ⟨bt_gin (bt_tin5 (List.mem_of_getElem? (i := 161) (by decide +kernel))) rfl, bt_gin (bt_tin1 (List.mem_of_getElem? (i := 11) (by decide +kernel))) rfl, ⟨by decide +kernel, by decide +kernel, by decide +kernel⟩, by decide +kernel⟩
theorem vm_M_path_k : Cond.instanceMethod mi_M_path.1 ∈ bt_gw := bt_gin (bt_tin5 (List.mem_of_getElem? (i := 159) (by decide +kernel))) rfl
theorem vm_M_path_s : Cond.selects mi_M_path.1.cls mi_M_path.1 mi_M_path.1 ∈ bt_gw := bt_gin (bt_tin5 (List.mem_of_getElem? (i := 160) (by decide +kernel))) rfl
theorem bv_X_26 : bt_lkV "BellTreesLaw" 26 mi_M_path 2 9 := ⟨⟨1, bt_T9, 53, rfl, rfl, vm_M_path⟩, bt_gin (bt_tin5 (List.mem_of_getElem? (i := 158) (by decide +kernel))) rfl, vm_M_path_k, vm_M_path_s⟩
theorem vm_B_mend : bt_lkM mi_B_mend 3 := ⟨bt_gin (bt_tin2 (List.mem_of_getElem? (i := 101) (by decide +kernel))) rfl, bt_gin (bt_tin1 (List.mem_of_getElem? (i := 1) (by decide +kernel))) rfl, ⟨by decide +kernel, by decide +kernel, by decide +kernel⟩, by decide +kernel⟩
theorem vm_B_mend_k : Cond.instanceMethod mi_B_mend.1 ∈ bt_gw := bt_gin (bt_tin2 (List.mem_of_getElem? (i := 99) (by decide +kernel))) rfl
theorem vm_B_mend_s : Cond.selects mi_B_mend.1.cls mi_B_mend.1 mi_B_mend.1 ∈ bt_gw := bt_gin (bt_tin2 (List.mem_of_getElem? (i := 100) (by decide +kernel))) rfl
theorem bv_X_27 : bt_lkV "BellTreesLaw" 27 mi_B_mend 4 0 := ⟨⟨3, bt_T0, 9, rfl, rfl, vm_B_mend⟩, bt_gin (bt_tin2 (List.mem_of_getElem? (i := 98) (by decide +kernel))) rfl, vm_B_mend_k, vm_B_mend_s⟩
theorem vm_M_mend : bt_lkM mi_M_mend 3 := ⟨bt_gin (bt_tin5 (List.mem_of_getElem? (i := 185) (by decide +kernel))) rfl, bt_gin (bt_tin1 (List.mem_of_getElem? (i := 11) (by decide +kernel))) rfl, ⟨by decide +kernel, by decide +kernel, by decide +kernel⟩, by decide +kernel⟩
theorem vm_M_mend_k : Cond.instanceMethod mi_M_mend.1 ∈ bt_gw := bt_gin (bt_tin5 (List.mem_of_getElem? (i := 183) (by decide +kernel))) rfl
theorem vm_M_mend_s : Cond.selects mi_M_mend.1.cls mi_M_mend.1 mi_M_mend.1 ∈ bt_gw := bt_gin (bt_tin5 (List.mem_of_getElem? (i := 184) (by decide +kernel))) rfl
theorem bv_X_30 : bt_lkV "BellTreesLaw" 30 mi_M_mend 4 9 := ⟨⟨3, bt_T9, 53, rfl, rfl, vm_M_mend⟩, bt_gin (bt_tin5 (List.mem_of_getElem? (i := 182) (by decide +kernel))) rfl, vm_M_mend_k, vm_M_mend_s⟩
theorem vm_B_of : bt_lkM mi_B_of 2 := ⟨bt_gin (bt_tin2 (List.mem_of_getElem? (i := 122) (by decide +kernel))) rfl, bt_gin (bt_tin1 (List.mem_of_getElem? (i := 1) (by decide +kernel))) rfl, ⟨by decide +kernel, by decide +kernel, by decide +kernel⟩, by decide +kernel⟩
theorem vm_B_of_k : Cond.instanceMethod mi_B_of.1 ∈ bt_gw := bt_gin (bt_tin2 (List.mem_of_getElem? (i := 120) (by decide +kernel))) rfl
theorem vm_B_of_s : Cond.selects mi_B_of.1.cls mi_B_of.1 mi_B_of.1 ∈ bt_gw := bt_gin (bt_tin2 (List.mem_of_getElem? (i := 121) (by decide +kernel))) rfl
theorem bv_X_31 : bt_lkV "BellTreesLaw" 31 mi_B_of 3 0 := ⟨⟨2, bt_T0, 9, rfl, rfl, vm_B_of⟩, bt_gin (bt_tin2 (List.mem_of_getElem? (i := 119) (by decide +kernel))) rfl, vm_B_of_k, vm_B_of_s⟩
theorem vm_M_of : bt_lkM mi_M_of 2 := ⟨bt_gin (bt_tin5 (List.mem_of_getElem? (i := 207) (by decide +kernel))) rfl, bt_gin (bt_tin1 (List.mem_of_getElem? (i := 11) (by decide +kernel))) rfl, ⟨by decide +kernel, by decide +kernel, by decide +kernel⟩, by decide +kernel⟩
theorem vm_M_of_k : Cond.instanceMethod mi_M_of.1 ∈ bt_gw := bt_gin (bt_tin5 (List.mem_of_getElem? (i := 205) (by decide +kernel))) rfl
theorem vm_M_of_s : Cond.selects mi_M_of.1.cls mi_M_of.1 mi_M_of.1 ∈ bt_gw := bt_gin (bt_tin5 (List.mem_of_getElem? (i := 206) (by decide +kernel))) rfl
theorem bv_X_35 : bt_lkV "BellTreesLaw" 35 mi_M_of 3 9 := ⟨⟨2, bt_T9, 53, rfl, rfl, vm_M_of⟩, bt_gin (bt_tin5 (List.mem_of_getElem? (i := 204) (by decide +kernel))) rfl, vm_M_of_k, vm_M_of_s⟩
theorem vm_B_feed : bt_lkM mi_B_feed 1 := ⟨bt_gin (bt_tin2 (List.mem_of_getElem? (i := 148) (by decide +kernel))) rfl, bt_gin (bt_tin1 (List.mem_of_getElem? (i := 1) (by decide +kernel))) rfl, ⟨by decide +kernel, by decide +kernel, by decide +kernel⟩, by decide +kernel⟩
theorem vm_B_feed_k : Cond.instanceMethod mi_B_feed.1 ∈ bt_gw := bt_gin (bt_tin2 (List.mem_of_getElem? (i := 146) (by decide +kernel))) rfl
theorem vm_B_feed_s : Cond.selects mi_B_feed.1.cls mi_B_feed.1 mi_B_feed.1 ∈ bt_gw := bt_gin (bt_tin2 (List.mem_of_getElem? (i := 147) (by decide +kernel))) rfl
theorem bv_X_36 : bt_lkV "BellTreesLaw" 36 mi_B_feed 2 0 := ⟨⟨1, bt_T0, 9, rfl, rfl, vm_B_feed⟩, bt_gin (bt_tin2 (List.mem_of_getElem? (i := 145) (by decide +kernel))) rfl, vm_B_feed_k, vm_B_feed_s⟩
theorem vm_M_feed : bt_lkM mi_M_feed 1 := ⟨bt_gin (bt_tin5 (List.mem_of_getElem? (i := 215) (by decide +kernel))) rfl, bt_gin (bt_tin1 (List.mem_of_getElem? (i := 11) (by decide +kernel))) rfl, ⟨by decide +kernel, by decide +kernel, by decide +kernel⟩, by decide +kernel⟩
theorem vm_M_feed_k : Cond.instanceMethod mi_M_feed.1 ∈ bt_gw := bt_gin (bt_tin5 (List.mem_of_getElem? (i := 213) (by decide +kernel))) rfl
theorem vm_M_feed_s : Cond.selects mi_M_feed.1.cls mi_M_feed.1 mi_M_feed.1 ∈ bt_gw := bt_gin (bt_tin5 (List.mem_of_getElem? (i := 214) (by decide +kernel))) rfl
theorem bv_X_39 : bt_lkV "BellTreesLaw" 39 mi_M_feed 2 9 := ⟨⟨1, bt_T9, 53, rfl, rfl, vm_M_feed⟩, bt_gin (bt_tin5 (List.mem_of_getElem? (i := 212) (by decide +kernel))) rfl, vm_M_feed_k, vm_M_feed_s⟩
theorem vm_B_law : bt_lkM mi_B_law 0 := ⟨bt_gin (bt_tin2 (List.mem_of_getElem? (i := 156) (by decide +kernel))) rfl, bt_gin (bt_tin1 (List.mem_of_getElem? (i := 1) (by decide +kernel))) rfl, ⟨by decide +kernel, by decide +kernel, by decide +kernel⟩, by decide +kernel⟩
theorem vm_B_law_k : Cond.instanceMethod mi_B_law.1 ∈ bt_gw := bt_gin (bt_tin2 (List.mem_of_getElem? (i := 154) (by decide +kernel))) rfl
theorem vm_B_law_s : Cond.selects mi_B_law.1.cls mi_B_law.1 mi_B_law.1 ∈ bt_gw := bt_gin (bt_tin2 (List.mem_of_getElem? (i := 155) (by decide +kernel))) rfl
theorem bv_X_40 : bt_lkV "BellTreesLaw" 40 mi_B_law 1 0 := ⟨⟨0, bt_T0, 9, rfl, rfl, vm_B_law⟩, bt_gin (bt_tin2 (List.mem_of_getElem? (i := 153) (by decide +kernel))) rfl, vm_B_law_k, vm_B_law_s⟩
theorem vm_M_law : bt_lkM mi_M_law 0 := ⟨bt_gin (bt_tin5 (List.mem_of_getElem? (i := 219) (by decide +kernel))) rfl, bt_gin (bt_tin1 (List.mem_of_getElem? (i := 11) (by decide +kernel))) rfl, ⟨by decide +kernel, by decide +kernel, by decide +kernel⟩, by decide +kernel⟩
theorem vm_M_law_k : Cond.instanceMethod mi_M_law.1 ∈ bt_gw := bt_gin (bt_tin5 (List.mem_of_getElem? (i := 217) (by decide +kernel))) rfl
theorem vm_M_law_s : Cond.selects mi_M_law.1.cls mi_M_law.1 mi_M_law.1 ∈ bt_gw := bt_gin (bt_tin5 (List.mem_of_getElem? (i := 218) (by decide +kernel))) rfl
theorem bv_X_44 : bt_lkV "BellTreesLaw" 44 mi_M_law 1 9 := ⟨⟨0, bt_T9, 53, rfl, rfl, vm_M_law⟩, bt_gin (bt_tin5 (List.mem_of_getElem? (i := 216) (by decide +kernel))) rfl, vm_M_law_k, vm_M_law_s⟩
theorem vm_B_sound : bt_lkM mi_B_sound 3 := ⟨bt_gin (bt_tin2 (List.mem_of_getElem? (i := 203) (by decide +kernel))) rfl, bt_gin (bt_tin1 (List.mem_of_getElem? (i := 1) (by decide +kernel))) rfl, ⟨by decide +kernel, by decide +kernel, by decide +kernel⟩, by decide +kernel⟩
theorem vm_B_sound_k : Cond.instanceMethod mi_B_sound.1 ∈ bt_gw := bt_gin (bt_tin2 (List.mem_of_getElem? (i := 201) (by decide +kernel))) rfl
theorem vm_B_sound_s : Cond.selects mi_B_sound.1.cls mi_B_sound.1 mi_B_sound.1 ∈ bt_gw := bt_gin (bt_tin2 (List.mem_of_getElem? (i := 202) (by decide +kernel))) rfl
theorem bv_X_45 : bt_lkV "BellTreesLaw" 45 mi_B_sound 4 0 := ⟨⟨3, bt_T0, 9, rfl, rfl, vm_B_sound⟩, bt_gin (bt_tin2 (List.mem_of_getElem? (i := 200) (by decide +kernel))) rfl, vm_B_sound_k, vm_B_sound_s⟩
theorem vm_M_sound : bt_lkM mi_M_sound 3 := ⟨bt_gin (bt_tin6 (List.mem_of_getElem? (i := 38) (by decide +kernel))) rfl, bt_gin (bt_tin1 (List.mem_of_getElem? (i := 11) (by decide +kernel))) rfl, ⟨by decide +kernel, by decide +kernel, by decide +kernel⟩, by decide +kernel⟩
theorem vm_M_sound_k : Cond.instanceMethod mi_M_sound.1 ∈ bt_gw := bt_gin (bt_tin6 (List.mem_of_getElem? (i := 36) (by decide +kernel))) rfl
theorem vm_M_sound_s : Cond.selects mi_M_sound.1.cls mi_M_sound.1 mi_M_sound.1 ∈ bt_gw := bt_gin (bt_tin6 (List.mem_of_getElem? (i := 37) (by decide +kernel))) rfl
theorem bv_X_48 : bt_lkV "BellTreesLaw" 48 mi_M_sound 4 9 := ⟨⟨3, bt_T9, 53, rfl, rfl, vm_M_sound⟩, bt_gin (bt_tin6 (List.mem_of_getElem? (i := 35) (by decide +kernel))) rfl, vm_M_sound_k, vm_M_sound_s⟩
theorem vm_B_fits : bt_lkM mi_B_fits 2 := ⟨bt_gin (bt_tin3 (List.mem_of_getElem? (i := 27) (by decide +kernel))) rfl, bt_gin (bt_tin1 (List.mem_of_getElem? (i := 1) (by decide +kernel))) rfl, ⟨by decide +kernel, by decide +kernel, by decide +kernel⟩, by decide +kernel⟩
theorem vm_B_fits_k : Cond.instanceMethod mi_B_fits.1 ∈ bt_gw := bt_gin (bt_tin3 (List.mem_of_getElem? (i := 25) (by decide +kernel))) rfl
theorem vm_B_fits_s : Cond.selects mi_B_fits.1.cls mi_B_fits.1 mi_B_fits.1 ∈ bt_gw := bt_gin (bt_tin3 (List.mem_of_getElem? (i := 26) (by decide +kernel))) rfl
theorem bv_X_49 : bt_lkV "BellTreesLaw" 49 mi_B_fits 3 0 := ⟨⟨2, bt_T0, 9, rfl, rfl, vm_B_fits⟩, bt_gin (bt_tin3 (List.mem_of_getElem? (i := 24) (by decide +kernel))) rfl, vm_B_fits_k, vm_B_fits_s⟩
theorem vm_M_fits : bt_lkM mi_M_fits 2 := ⟨bt_gin (bt_tin6 (List.mem_of_getElem? (i := 65) (by decide +kernel))) rfl, bt_gin (bt_tin1 (List.mem_of_getElem? (i := 11) (by decide +kernel))) rfl, ⟨by decide +kernel, by decide +kernel, by decide +kernel⟩, by decide +kernel⟩
theorem vm_M_fits_k : Cond.instanceMethod mi_M_fits.1 ∈ bt_gw := bt_gin (bt_tin6 (List.mem_of_getElem? (i := 63) (by decide +kernel))) rfl
theorem vm_M_fits_s : Cond.selects mi_M_fits.1.cls mi_M_fits.1 mi_M_fits.1 ∈ bt_gw := bt_gin (bt_tin6 (List.mem_of_getElem? (i := 64) (by decide +kernel))) rfl
theorem bv_X_52 : bt_lkV "BellTreesLaw" 52 mi_M_fits 3 9 := ⟨⟨2, bt_T9, 53, rfl, rfl, vm_M_fits⟩, bt_gin (bt_tin6 (List.mem_of_getElem? (i := 62) (by decide +kernel))) rfl, vm_M_fits_k, vm_M_fits_s⟩
theorem vm_B_canBe : bt_lkM mi_B_canBe 2 := ⟨bt_gin (bt_tin3 (List.mem_of_getElem? (i := 84) (by decide +kernel))) rfl, bt_gin (bt_tin1 (List.mem_of_getElem? (i := 1) (by decide +kernel))) rfl, ⟨by decide +kernel, by decide +kernel, by decide +kernel⟩, by decide +kernel⟩
theorem vm_B_canBe_k : Cond.instanceMethod mi_B_canBe.1 ∈ bt_gw := bt_gin (bt_tin3 (List.mem_of_getElem? (i := 82) (by decide +kernel))) rfl
theorem vm_B_canBe_s : Cond.selects mi_B_canBe.1.cls mi_B_canBe.1 mi_B_canBe.1 ∈ bt_gw := bt_gin (bt_tin3 (List.mem_of_getElem? (i := 83) (by decide +kernel))) rfl
theorem bv_X_53 : bt_lkV "BellTreesLaw" 53 mi_B_canBe 3 0 := ⟨⟨2, bt_T0, 9, rfl, rfl, vm_B_canBe⟩, bt_gin (bt_tin3 (List.mem_of_getElem? (i := 81) (by decide +kernel))) rfl, vm_B_canBe_k, vm_B_canBe_s⟩
theorem vm_M_canBe : bt_lkM mi_M_canBe 2 := ⟨bt_gin (bt_tin6 (List.mem_of_getElem? (i := 97) (by decide +kernel))) rfl, bt_gin (bt_tin1 (List.mem_of_getElem? (i := 11) (by decide +kernel))) rfl, ⟨by decide +kernel, by decide +kernel, by decide +kernel⟩, by decide +kernel⟩
theorem vm_M_canBe_k : Cond.instanceMethod mi_M_canBe.1 ∈ bt_gw := bt_gin (bt_tin6 (List.mem_of_getElem? (i := 95) (by decide +kernel))) rfl
theorem vm_M_canBe_s : Cond.selects mi_M_canBe.1.cls mi_M_canBe.1 mi_M_canBe.1 ∈ bt_gw := bt_gin (bt_tin6 (List.mem_of_getElem? (i := 96) (by decide +kernel))) rfl
theorem bv_X_56 : bt_lkV "BellTreesLaw" 56 mi_M_canBe 3 9 := ⟨⟨2, bt_T9, 53, rfl, rfl, vm_M_canBe⟩, bt_gin (bt_tin6 (List.mem_of_getElem? (i := 94) (by decide +kernel))) rfl, vm_M_canBe_k, vm_M_canBe_s⟩
theorem vm_B_twoAtOnce : bt_lkM mi_B_twoAtOnce 3 := ⟨bt_gin (bt_tin3 (List.mem_of_getElem? (i := 92) (by decide +kernel))) rfl, bt_gin (bt_tin1 (List.mem_of_getElem? (i := 1) (by decide +kernel))) rfl, ⟨by decide +kernel, by decide +kernel, by decide +kernel⟩, by decide +kernel⟩
theorem vm_B_twoAtOnce_k : Cond.instanceMethod mi_B_twoAtOnce.1 ∈ bt_gw := bt_gin (bt_tin3 (List.mem_of_getElem? (i := 90) (by decide +kernel))) rfl
theorem vm_B_twoAtOnce_s : Cond.selects mi_B_twoAtOnce.1.cls mi_B_twoAtOnce.1 mi_B_twoAtOnce.1 ∈ bt_gw := bt_gin (bt_tin3 (List.mem_of_getElem? (i := 91) (by decide +kernel))) rfl
theorem bv_X_57 : bt_lkV "BellTreesLaw" 57 mi_B_twoAtOnce 4 0 := ⟨⟨3, bt_T0, 9, rfl, rfl, vm_B_twoAtOnce⟩, bt_gin (bt_tin3 (List.mem_of_getElem? (i := 89) (by decide +kernel))) rfl, vm_B_twoAtOnce_k, vm_B_twoAtOnce_s⟩
theorem vm_M_twoAtOnce : bt_lkM mi_M_twoAtOnce 3 := ⟨bt_gin (bt_tin6 (List.mem_of_getElem? (i := 101) (by decide +kernel))) rfl, bt_gin (bt_tin1 (List.mem_of_getElem? (i := 11) (by decide +kernel))) rfl, ⟨by decide +kernel, by decide +kernel, by decide +kernel⟩, by decide +kernel⟩
theorem vm_M_twoAtOnce_k : Cond.instanceMethod mi_M_twoAtOnce.1 ∈ bt_gw := bt_gin (bt_tin6 (List.mem_of_getElem? (i := 99) (by decide +kernel))) rfl
theorem vm_M_twoAtOnce_s : Cond.selects mi_M_twoAtOnce.1.cls mi_M_twoAtOnce.1 mi_M_twoAtOnce.1 ∈ bt_gw := bt_gin (bt_tin6 (List.mem_of_getElem? (i := 100) (by decide +kernel))) rfl
theorem bv_X_60 : bt_lkV "BellTreesLaw" 60 mi_M_twoAtOnce 4 9 := ⟨⟨3, bt_T9, 53, rfl, rfl, vm_M_twoAtOnce⟩, bt_gin (bt_tin6 (List.mem_of_getElem? (i := 98) (by decide +kernel))) rfl, vm_M_twoAtOnce_k, vm_M_twoAtOnce_s⟩
theorem vm_B_least : bt_lkM mi_B_least 3 := ⟨bt_gin (bt_tin3 (List.mem_of_getElem? (i := 109) (by decide +kernel))) rfl, bt_gin (bt_tin1 (List.mem_of_getElem? (i := 1) (by decide +kernel))) rfl, ⟨by decide +kernel, by decide +kernel, by decide +kernel⟩, by decide +kernel⟩
theorem vm_B_least_k : Cond.instanceMethod mi_B_least.1 ∈ bt_gw := bt_gin (bt_tin3 (List.mem_of_getElem? (i := 107) (by decide +kernel))) rfl
theorem vm_B_least_s : Cond.selects mi_B_least.1.cls mi_B_least.1 mi_B_least.1 ∈ bt_gw := bt_gin (bt_tin3 (List.mem_of_getElem? (i := 108) (by decide +kernel))) rfl
theorem bv_X_61 : bt_lkV "BellTreesLaw" 61 mi_B_least 4 0 := ⟨⟨3, bt_T0, 9, rfl, rfl, vm_B_least⟩, bt_gin (bt_tin3 (List.mem_of_getElem? (i := 106) (by decide +kernel))) rfl, vm_B_least_k, vm_B_least_s⟩
theorem vm_M_least : bt_lkM mi_M_least 3 := ⟨bt_gin (bt_tin6 (List.mem_of_getElem? (i := 112) (by decide +kernel))) rfl, bt_gin (bt_tin1 (List.mem_of_getElem? (i := 11) (by decide +kernel))) rfl, ⟨by decide +kernel, by decide +kernel, by decide +kernel⟩, by decide +kernel⟩
theorem vm_M_least_k : Cond.instanceMethod mi_M_least.1 ∈ bt_gw := bt_gin (bt_tin6 (List.mem_of_getElem? (i := 110) (by decide +kernel))) rfl
theorem vm_M_least_s : Cond.selects mi_M_least.1.cls mi_M_least.1 mi_M_least.1 ∈ bt_gw := bt_gin (bt_tin6 (List.mem_of_getElem? (i := 111) (by decide +kernel))) rfl
theorem bv_X_64 : bt_lkV "BellTreesLaw" 64 mi_M_least 4 9 := ⟨⟨3, bt_T9, 53, rfl, rfl, vm_M_least⟩, bt_gin (bt_tin6 (List.mem_of_getElem? (i := 109) (by decide +kernel))) rfl, vm_M_least_k, vm_M_least_s⟩
theorem vm_B_gone : bt_lkM mi_B_gone 2 := ⟨bt_gin (bt_tin3 (List.mem_of_getElem? (i := 129) (by decide +kernel))) rfl, bt_gin (bt_tin1 (List.mem_of_getElem? (i := 1) (by decide +kernel))) rfl, ⟨by decide +kernel, by decide +kernel, by decide +kernel⟩, by decide +kernel⟩
theorem vm_B_gone_k : Cond.instanceMethod mi_B_gone.1 ∈ bt_gw := bt_gin (bt_tin3 (List.mem_of_getElem? (i := 127) (by decide +kernel))) rfl
theorem vm_B_gone_s : Cond.selects mi_B_gone.1.cls mi_B_gone.1 mi_B_gone.1 ∈ bt_gw := bt_gin (bt_tin3 (List.mem_of_getElem? (i := 128) (by decide +kernel))) rfl
theorem bv_X_65 : bt_lkV "BellTreesLaw" 65 mi_B_gone 3 0 := ⟨⟨2, bt_T0, 9, rfl, rfl, vm_B_gone⟩, bt_gin (bt_tin3 (List.mem_of_getElem? (i := 126) (by decide +kernel))) rfl, vm_B_gone_k, vm_B_gone_s⟩
theorem vm_M_gone : bt_lkM mi_M_gone 2 := ⟨bt_gin (bt_tin6 (List.mem_of_getElem? (i := 125) (by decide +kernel))) rfl, bt_gin (bt_tin1 (List.mem_of_getElem? (i := 11) (by decide +kernel))) rfl, ⟨by decide +kernel, by decide +kernel, by decide +kernel⟩, by decide +kernel⟩
theorem vm_M_gone_k : Cond.instanceMethod mi_M_gone.1 ∈ bt_gw := bt_gin (bt_tin6 (List.mem_of_getElem? (i := 123) (by decide +kernel))) rfl
theorem vm_M_gone_s : Cond.selects mi_M_gone.1.cls mi_M_gone.1 mi_M_gone.1 ∈ bt_gw := bt_gin (bt_tin6 (List.mem_of_getElem? (i := 124) (by decide +kernel))) rfl
theorem bv_X_68 : bt_lkV "BellTreesLaw" 68 mi_M_gone 3 9 := ⟨⟨2, bt_T9, 53, rfl, rfl, vm_M_gone⟩, bt_gin (bt_tin6 (List.mem_of_getElem? (i := 122) (by decide +kernel))) rfl, vm_M_gone_k, vm_M_gone_s⟩
theorem vm_B_apart : bt_lkM mi_B_apart 2 := ⟨bt_gin (bt_tin3 (List.mem_of_getElem? (i := 160) (by decide +kernel))) rfl, bt_gin (bt_tin1 (List.mem_of_getElem? (i := 1) (by decide +kernel))) rfl, ⟨by decide +kernel, by decide +kernel, by decide +kernel⟩, by decide +kernel⟩
theorem vm_B_apart_k : Cond.instanceMethod mi_B_apart.1 ∈ bt_gw := bt_gin (bt_tin3 (List.mem_of_getElem? (i := 158) (by decide +kernel))) rfl
theorem vm_B_apart_s : Cond.selects mi_B_apart.1.cls mi_B_apart.1 mi_B_apart.1 ∈ bt_gw := bt_gin (bt_tin3 (List.mem_of_getElem? (i := 159) (by decide +kernel))) rfl
theorem bv_X_69 : bt_lkV "BellTreesLaw" 69 mi_B_apart 3 0 := ⟨⟨2, bt_T0, 9, rfl, rfl, vm_B_apart⟩, bt_gin (bt_tin3 (List.mem_of_getElem? (i := 157) (by decide +kernel))) rfl, vm_B_apart_k, vm_B_apart_s⟩
theorem vm_M_apart : bt_lkM mi_M_apart 2 := ⟨bt_gin (bt_tin6 (List.mem_of_getElem? (i := 149) (by decide +kernel))) rfl, bt_gin (bt_tin1 (List.mem_of_getElem? (i := 11) (by decide +kernel))) rfl, ⟨by decide +kernel, by decide +kernel, by decide +kernel⟩, by decide +kernel⟩
theorem vm_M_apart_k : Cond.instanceMethod mi_M_apart.1 ∈ bt_gw := bt_gin (bt_tin6 (List.mem_of_getElem? (i := 147) (by decide +kernel))) rfl
theorem vm_M_apart_s : Cond.selects mi_M_apart.1.cls mi_M_apart.1 mi_M_apart.1 ∈ bt_gw := bt_gin (bt_tin6 (List.mem_of_getElem? (i := 148) (by decide +kernel))) rfl
theorem bv_X_72 : bt_lkV "BellTreesLaw" 72 mi_M_apart 3 9 := ⟨⟨2, bt_T9, 53, rfl, rfl, vm_M_apart⟩, bt_gin (bt_tin6 (List.mem_of_getElem? (i := 146) (by decide +kernel))) rfl, vm_M_apart_k, vm_M_apart_s⟩
theorem vm_B_enough : bt_lkM mi_B_enough 2 := ⟨bt_gin (bt_tin3 (List.mem_of_getElem? (i := 168) (by decide +kernel))) rfl, bt_gin (bt_tin1 (List.mem_of_getElem? (i := 1) (by decide +kernel))) rfl, ⟨by decide +kernel, by decide +kernel, by decide +kernel⟩, by decide +kernel⟩
theorem vm_B_enough_k : Cond.instanceMethod mi_B_enough.1 ∈ bt_gw := bt_gin (bt_tin3 (List.mem_of_getElem? (i := 166) (by decide +kernel))) rfl
theorem vm_B_enough_s : Cond.selects mi_B_enough.1.cls mi_B_enough.1 mi_B_enough.1 ∈ bt_gw := bt_gin (bt_tin3 (List.mem_of_getElem? (i := 167) (by decide +kernel))) rfl
theorem bv_X_73 : bt_lkV "BellTreesLaw" 73 mi_B_enough 3 0 := ⟨⟨2, bt_T0, 9, rfl, rfl, vm_B_enough⟩, bt_gin (bt_tin3 (List.mem_of_getElem? (i := 165) (by decide +kernel))) rfl, vm_B_enough_k, vm_B_enough_s⟩
theorem vm_M_enough : bt_lkM mi_M_enough 2 := ⟨bt_gin (bt_tin6 (List.mem_of_getElem? (i := 157) (by decide +kernel))) rfl, bt_gin (bt_tin1 (List.mem_of_getElem? (i := 11) (by decide +kernel))) rfl, ⟨by decide +kernel, by decide +kernel, by decide +kernel⟩, by decide +kernel⟩
theorem vm_M_enough_k : Cond.instanceMethod mi_M_enough.1 ∈ bt_gw := bt_gin (bt_tin6 (List.mem_of_getElem? (i := 155) (by decide +kernel))) rfl
theorem vm_M_enough_s : Cond.selects mi_M_enough.1.cls mi_M_enough.1 mi_M_enough.1 ∈ bt_gw := bt_gin (bt_tin6 (List.mem_of_getElem? (i := 156) (by decide +kernel))) rfl
theorem bv_X_76 : bt_lkV "BellTreesLaw" 76 mi_M_enough 3 9 := ⟨⟨2, bt_T9, 53, rfl, rfl, vm_M_enough⟩, bt_gin (bt_tin6 (List.mem_of_getElem? (i := 154) (by decide +kernel))) rfl, vm_M_enough_k, vm_M_enough_s⟩
theorem vm_B_tuned : bt_lkM mi_B_tuned 1 := ⟨bt_gin (bt_tin3 (List.mem_of_getElem? (i := 190) (by decide +kernel))) rfl, bt_gin (bt_tin1 (List.mem_of_getElem? (i := 1) (by decide +kernel))) rfl, ⟨by decide +kernel, by decide +kernel, by decide +kernel⟩, by decide +kernel⟩
theorem vm_B_tuned_k : Cond.instanceMethod mi_B_tuned.1 ∈ bt_gw := bt_gin (bt_tin3 (List.mem_of_getElem? (i := 188) (by decide +kernel))) rfl
theorem vm_B_tuned_s : Cond.selects mi_B_tuned.1.cls mi_B_tuned.1 mi_B_tuned.1 ∈ bt_gw := bt_gin (bt_tin3 (List.mem_of_getElem? (i := 189) (by decide +kernel))) rfl
theorem bv_X_77 : bt_lkV "BellTreesLaw" 77 mi_B_tuned 2 0 := ⟨⟨1, bt_T0, 9, rfl, rfl, vm_B_tuned⟩, bt_gin (bt_tin3 (List.mem_of_getElem? (i := 187) (by decide +kernel))) rfl, vm_B_tuned_k, vm_B_tuned_s⟩
theorem vm_M_tuned : bt_lkM mi_M_tuned 1 := ⟨bt_gin (bt_tin6 (List.mem_of_getElem? (i := 176) (by decide +kernel))) rfl, bt_gin (bt_tin1 (List.mem_of_getElem? (i := 11) (by decide +kernel))) rfl, ⟨by decide +kernel, by decide +kernel, by decide +kernel⟩, by decide +kernel⟩
theorem vm_M_tuned_k : Cond.instanceMethod mi_M_tuned.1 ∈ bt_gw := bt_gin (bt_tin6 (List.mem_of_getElem? (i := 174) (by decide +kernel))) rfl
theorem vm_M_tuned_s : Cond.selects mi_M_tuned.1.cls mi_M_tuned.1 mi_M_tuned.1 ∈ bt_gw := bt_gin (bt_tin6 (List.mem_of_getElem? (i := 175) (by decide +kernel))) rfl
theorem bv_X_80 : bt_lkV "BellTreesLaw" 80 mi_M_tuned 2 9 := ⟨⟨1, bt_T9, 53, rfl, rfl, vm_M_tuned⟩, bt_gin (bt_tin6 (List.mem_of_getElem? (i := 173) (by decide +kernel))) rfl, vm_M_tuned_k, vm_M_tuned_s⟩
theorem vm_B_drawn : bt_lkM mi_B_drawn 3 := ⟨bt_gin (bt_tin3 (List.mem_of_getElem? (i := 204) (by decide +kernel))) rfl, bt_gin (bt_tin1 (List.mem_of_getElem? (i := 1) (by decide +kernel))) rfl, ⟨by decide +kernel, by decide +kernel, by decide +kernel⟩, by decide +kernel⟩
theorem vm_B_drawn_k : Cond.instanceMethod mi_B_drawn.1 ∈ bt_gw := bt_gin (bt_tin3 (List.mem_of_getElem? (i := 202) (by decide +kernel))) rfl
theorem vm_B_drawn_s : Cond.selects mi_B_drawn.1.cls mi_B_drawn.1 mi_B_drawn.1 ∈ bt_gw := bt_gin (bt_tin3 (List.mem_of_getElem? (i := 203) (by decide +kernel))) rfl
theorem bv_X_81 : bt_lkV "BellTreesLaw" 81 mi_B_drawn 4 0 := ⟨⟨3, bt_T0, 9, rfl, rfl, vm_B_drawn⟩, bt_gin (bt_tin3 (List.mem_of_getElem? (i := 201) (by decide +kernel))) rfl, vm_B_drawn_k, vm_B_drawn_s⟩
theorem vm_M_drawn : bt_lkM mi_M_drawn 3 := ⟨bt_gin (bt_tin6 (List.mem_of_getElem? (i := 184) (by decide +kernel))) rfl, bt_gin (bt_tin1 (List.mem_of_getElem? (i := 11) (by decide +kernel))) rfl, ⟨by decide +kernel, by decide +kernel, by decide +kernel⟩, by decide +kernel⟩
theorem vm_M_drawn_k : Cond.instanceMethod mi_M_drawn.1 ∈ bt_gw := bt_gin (bt_tin6 (List.mem_of_getElem? (i := 182) (by decide +kernel))) rfl
theorem vm_M_drawn_s : Cond.selects mi_M_drawn.1.cls mi_M_drawn.1 mi_M_drawn.1 ∈ bt_gw := bt_gin (bt_tin6 (List.mem_of_getElem? (i := 183) (by decide +kernel))) rfl
theorem bv_X_84 : bt_lkV "BellTreesLaw" 84 mi_M_drawn 4 9 := ⟨⟨3, bt_T9, 53, rfl, rfl, vm_M_drawn⟩, bt_gin (bt_tin6 (List.mem_of_getElem? (i := 181) (by decide +kernel))) rfl, vm_M_drawn_k, vm_M_drawn_s⟩
theorem vm_B_years : bt_lkM mi_B_years 2 := ⟨bt_gin (bt_tin3 (List.mem_of_getElem? (i := 225) (by decide +kernel))) rfl, bt_gin (bt_tin1 (List.mem_of_getElem? (i := 1) (by decide +kernel))) rfl, ⟨by decide +kernel, by decide +kernel, by decide +kernel⟩, by decide +kernel⟩
theorem vm_B_years_k : Cond.instanceMethod mi_B_years.1 ∈ bt_gw := bt_gin (bt_tin3 (List.mem_of_getElem? (i := 223) (by decide +kernel))) rfl
theorem vm_B_years_s : Cond.selects mi_B_years.1.cls mi_B_years.1 mi_B_years.1 ∈ bt_gw := bt_gin (bt_tin3 (List.mem_of_getElem? (i := 224) (by decide +kernel))) rfl
theorem bv_X_85 : bt_lkV "BellTreesLaw" 85 mi_B_years 3 0 := ⟨⟨2, bt_T0, 9, rfl, rfl, vm_B_years⟩, bt_gin (bt_tin3 (List.mem_of_getElem? (i := 222) (by decide +kernel))) rfl, vm_B_years_k, vm_B_years_s⟩
theorem vm_M_years : bt_lkM mi_M_years 2 := ⟨bt_gin (bt_tin6 (List.mem_of_getElem? (i := 197) (by decide +kernel))) rfl, bt_gin (bt_tin1 (List.mem_of_getElem? (i := 11) (by decide +kernel))) rfl, ⟨by decide +kernel, by decide +kernel, by decide +kernel⟩, by decide +kernel⟩
theorem vm_M_years_k : Cond.instanceMethod mi_M_years.1 ∈ bt_gw := bt_gin (bt_tin6 (List.mem_of_getElem? (i := 195) (by decide +kernel))) rfl
theorem vm_M_years_s : Cond.selects mi_M_years.1.cls mi_M_years.1 mi_M_years.1 ∈ bt_gw := bt_gin (bt_tin6 (List.mem_of_getElem? (i := 196) (by decide +kernel))) rfl
theorem bv_X_88 : bt_lkV "BellTreesLaw" 88 mi_M_years 3 9 := ⟨⟨2, bt_T9, 53, rfl, rfl, vm_M_years⟩, bt_gin (bt_tin6 (List.mem_of_getElem? (i := 194) (by decide +kernel))) rfl, vm_M_years_k, vm_M_years_s⟩
theorem vm_B_walk : bt_lkM mi_B_walk 2 := ⟨bt_gin (bt_tin3 (List.mem_of_getElem? (i := 238) (by decide +kernel))) rfl, bt_gin (bt_tin1 (List.mem_of_getElem? (i := 1) (by decide +kernel))) rfl, ⟨by decide +kernel, by decide +kernel, by decide +kernel⟩, by decide +kernel⟩
theorem vm_B_walk_k : Cond.instanceMethod mi_B_walk.1 ∈ bt_gw := bt_gin (bt_tin3 (List.mem_of_getElem? (i := 236) (by decide +kernel))) rfl
theorem vm_B_walk_s : Cond.selects mi_B_walk.1.cls mi_B_walk.1 mi_B_walk.1 ∈ bt_gw := bt_gin (bt_tin3 (List.mem_of_getElem? (i := 237) (by decide +kernel))) rfl
theorem bv_X_89 : bt_lkV "BellTreesLaw" 89 mi_B_walk 3 0 := ⟨⟨2, bt_T0, 9, rfl, rfl, vm_B_walk⟩, bt_gin (bt_tin3 (List.mem_of_getElem? (i := 235) (by decide +kernel))) rfl, vm_B_walk_k, vm_B_walk_s⟩
theorem vm_M_walk : bt_lkM mi_M_walk 2 := ⟨bt_gin (bt_tin6 (List.mem_of_getElem? (i := 201) (by decide +kernel))) rfl, bt_gin (bt_tin1 (List.mem_of_getElem? (i := 11) (by decide +kernel))) rfl, ⟨by decide +kernel, by decide +kernel, by decide +kernel⟩, by decide +kernel⟩
theorem vm_M_walk_k : Cond.instanceMethod mi_M_walk.1 ∈ bt_gw := bt_gin (bt_tin6 (List.mem_of_getElem? (i := 199) (by decide +kernel))) rfl
theorem vm_M_walk_s : Cond.selects mi_M_walk.1.cls mi_M_walk.1 mi_M_walk.1 ∈ bt_gw := bt_gin (bt_tin6 (List.mem_of_getElem? (i := 200) (by decide +kernel))) rfl
theorem bv_X_92 : bt_lkV "BellTreesLaw" 92 mi_M_walk 3 9 := ⟨⟨2, bt_T9, 53, rfl, rfl, vm_M_walk⟩, bt_gin (bt_tin6 (List.mem_of_getElem? (i := 198) (by decide +kernel))) rfl, vm_M_walk_k, vm_M_walk_s⟩
theorem vm_B_judge : bt_lkM mi_B_judge 2 := ⟨bt_gin (bt_tin4 (List.mem_of_getElem? (i := 15) (by decide +kernel))) rfl, bt_gin (bt_tin1 (List.mem_of_getElem? (i := 1) (by decide +kernel))) rfl, ⟨by decide +kernel, by decide +kernel, by decide +kernel⟩, by decide +kernel⟩
theorem vm_B_judge_k : Cond.instanceMethod mi_B_judge.1 ∈ bt_gw := bt_gin (bt_tin4 (List.mem_of_getElem? (i := 13) (by decide +kernel))) rfl
theorem vm_B_judge_s : Cond.selects mi_B_judge.1.cls mi_B_judge.1 mi_B_judge.1 ∈ bt_gw := bt_gin (bt_tin4 (List.mem_of_getElem? (i := 14) (by decide +kernel))) rfl
theorem bv_X_93 : bt_lkV "BellTreesLaw" 93 mi_B_judge 3 0 := ⟨⟨2, bt_T0, 9, rfl, rfl, vm_B_judge⟩, bt_gin (bt_tin4 (List.mem_of_getElem? (i := 12) (by decide +kernel))) rfl, vm_B_judge_k, vm_B_judge_s⟩
theorem vm_M_judge : bt_lkM mi_M_judge 2 := ⟨bt_gin (bt_tin6 (List.mem_of_getElem? (i := 205) (by decide +kernel))) rfl, bt_gin (bt_tin1 (List.mem_of_getElem? (i := 11) (by decide +kernel))) rfl, ⟨by decide +kernel, by decide +kernel, by decide +kernel⟩, by decide +kernel⟩
theorem vm_M_judge_k : Cond.instanceMethod mi_M_judge.1 ∈ bt_gw := bt_gin (bt_tin6 (List.mem_of_getElem? (i := 203) (by decide +kernel))) rfl
theorem vm_M_judge_s : Cond.selects mi_M_judge.1.cls mi_M_judge.1 mi_M_judge.1 ∈ bt_gw := bt_gin (bt_tin6 (List.mem_of_getElem? (i := 204) (by decide +kernel))) rfl
theorem bv_X_96 : bt_lkV "BellTreesLaw" 96 mi_M_judge 3 9 := ⟨⟨2, bt_T9, 53, rfl, rfl, vm_M_judge⟩, bt_gin (bt_tin6 (List.mem_of_getElem? (i := 202) (by decide +kernel))) rfl, vm_M_judge_k, vm_M_judge_s⟩
theorem vm_B_image : bt_lkM mi_B_image 0 := ⟨bt_gin (bt_tin4 (List.mem_of_getElem? (i := 19) (by decide +kernel))) rfl, bt_gin (bt_tin1 (List.mem_of_getElem? (i := 1) (by decide +kernel))) rfl, ⟨by decide +kernel, by decide +kernel, by decide +kernel⟩, by decide +kernel⟩
theorem vm_B_image_k : Cond.instanceMethod mi_B_image.1 ∈ bt_gw := bt_gin (bt_tin4 (List.mem_of_getElem? (i := 17) (by decide +kernel))) rfl
theorem vm_B_image_s : Cond.selects mi_B_image.1.cls mi_B_image.1 mi_B_image.1 ∈ bt_gw := bt_gin (bt_tin4 (List.mem_of_getElem? (i := 18) (by decide +kernel))) rfl
theorem bv_X_97 : bt_lkV "BellTreesLaw" 97 mi_B_image 1 0 := ⟨⟨0, bt_T0, 9, rfl, rfl, vm_B_image⟩, bt_gin (bt_tin4 (List.mem_of_getElem? (i := 16) (by decide +kernel))) rfl, vm_B_image_k, vm_B_image_s⟩
theorem vm_M_image : bt_lkM mi_M_image 0 := ⟨bt_gin (bt_tin6 (List.mem_of_getElem? (i := 209) (by decide +kernel))) rfl, bt_gin (bt_tin1 (List.mem_of_getElem? (i := 11) (by decide +kernel))) rfl, ⟨by decide +kernel, by decide +kernel, by decide +kernel⟩, by decide +kernel⟩
theorem vm_M_image_k : Cond.instanceMethod mi_M_image.1 ∈ bt_gw := bt_gin (bt_tin6 (List.mem_of_getElem? (i := 207) (by decide +kernel))) rfl
theorem vm_M_image_s : Cond.selects mi_M_image.1.cls mi_M_image.1 mi_M_image.1 ∈ bt_gw := bt_gin (bt_tin6 (List.mem_of_getElem? (i := 208) (by decide +kernel))) rfl
theorem bv_X_100 : bt_lkV "BellTreesLaw" 100 mi_M_image 1 9 := ⟨⟨0, bt_T9, 53, rfl, rfl, vm_M_image⟩, bt_gin (bt_tin6 (List.mem_of_getElem? (i := 206) (by decide +kernel))) rfl, vm_M_image_k, vm_M_image_s⟩
theorem vm_B_back : bt_lkM mi_B_back 0 := ⟨bt_gin (bt_tin4 (List.mem_of_getElem? (i := 31) (by decide +kernel))) rfl, bt_gin (bt_tin1 (List.mem_of_getElem? (i := 1) (by decide +kernel))) rfl, ⟨by decide +kernel, by decide +kernel, by decide +kernel⟩, by decide +kernel⟩
theorem vm_B_back_k : Cond.instanceMethod mi_B_back.1 ∈ bt_gw := bt_gin (bt_tin4 (List.mem_of_getElem? (i := 29) (by decide +kernel))) rfl
theorem vm_B_back_s : Cond.selects mi_B_back.1.cls mi_B_back.1 mi_B_back.1 ∈ bt_gw := bt_gin (bt_tin4 (List.mem_of_getElem? (i := 30) (by decide +kernel))) rfl
theorem bv_X_101 : bt_lkV "BellTreesLaw" 101 mi_B_back 1 0 := ⟨⟨0, bt_T0, 9, rfl, rfl, vm_B_back⟩, bt_gin (bt_tin4 (List.mem_of_getElem? (i := 28) (by decide +kernel))) rfl, vm_B_back_k, vm_B_back_s⟩
theorem vm_M_back : bt_lkM mi_M_back 0 := ⟨bt_gin (bt_tin6 (List.mem_of_getElem? (i := 213) (by decide +kernel))) rfl, bt_gin (bt_tin1 (List.mem_of_getElem? (i := 11) (by decide +kernel))) rfl, ⟨by decide +kernel, by decide +kernel, by decide +kernel⟩, by decide +kernel⟩
theorem vm_M_back_k : Cond.instanceMethod mi_M_back.1 ∈ bt_gw := bt_gin (bt_tin6 (List.mem_of_getElem? (i := 211) (by decide +kernel))) rfl
theorem vm_M_back_s : Cond.selects mi_M_back.1.cls mi_M_back.1 mi_M_back.1 ∈ bt_gw := bt_gin (bt_tin6 (List.mem_of_getElem? (i := 212) (by decide +kernel))) rfl
theorem bv_X_104 : bt_lkV "BellTreesLaw" 104 mi_M_back 1 9 := ⟨⟨0, bt_T9, 53, rfl, rfl, vm_M_back⟩, bt_gin (bt_tin6 (List.mem_of_getElem? (i := 210) (by decide +kernel))) rfl, vm_M_back_k, vm_M_back_s⟩
theorem vm_B_undo : bt_lkM mi_B_undo 0 := ⟨bt_gin (bt_tin4 (List.mem_of_getElem? (i := 45) (by decide +kernel))) rfl, bt_gin (bt_tin1 (List.mem_of_getElem? (i := 1) (by decide +kernel))) rfl, ⟨by decide +kernel, by decide +kernel, by decide +kernel⟩, by decide +kernel⟩
theorem vm_B_undo_k : Cond.instanceMethod mi_B_undo.1 ∈ bt_gw := bt_gin (bt_tin4 (List.mem_of_getElem? (i := 43) (by decide +kernel))) rfl
theorem vm_B_undo_s : Cond.selects mi_B_undo.1.cls mi_B_undo.1 mi_B_undo.1 ∈ bt_gw := bt_gin (bt_tin4 (List.mem_of_getElem? (i := 44) (by decide +kernel))) rfl
theorem bv_X_105 : bt_lkV "BellTreesLaw" 105 mi_B_undo 1 0 := ⟨⟨0, bt_T0, 9, rfl, rfl, vm_B_undo⟩, bt_gin (bt_tin4 (List.mem_of_getElem? (i := 42) (by decide +kernel))) rfl, vm_B_undo_k, vm_B_undo_s⟩
theorem vm_M_undo : bt_lkM mi_M_undo 0 := ⟨bt_gin (bt_tin5 (List.mem_of_getElem? (i := 173) (by decide +kernel))) rfl, bt_gin (bt_tin1 (List.mem_of_getElem? (i := 11) (by decide +kernel))) rfl, ⟨by decide +kernel, by decide +kernel, by decide +kernel⟩, by decide +kernel⟩
theorem vm_M_undo_k : Cond.instanceMethod mi_M_undo.1 ∈ bt_gw := bt_gin (bt_tin5 (List.mem_of_getElem? (i := 171) (by decide +kernel))) rfl
theorem vm_M_undo_s : Cond.selects mi_M_undo.1.cls mi_M_undo.1 mi_M_undo.1 ∈ bt_gw := bt_gin (bt_tin5 (List.mem_of_getElem? (i := 172) (by decide +kernel))) rfl
theorem bv_X_108 : bt_lkV "BellTreesLaw" 108 mi_M_undo 1 9 := ⟨⟨0, bt_T9, 53, rfl, rfl, vm_M_undo⟩, bt_gin (bt_tin5 (List.mem_of_getElem? (i := 170) (by decide +kernel))) rfl, vm_M_undo_k, vm_M_undo_s⟩
theorem vm_B_redo : bt_lkM mi_B_redo 0 := ⟨bt_gin (bt_tin4 (List.mem_of_getElem? (i := 54) (by decide +kernel))) rfl, bt_gin (bt_tin1 (List.mem_of_getElem? (i := 1) (by decide +kernel))) rfl, ⟨by decide +kernel, by decide +kernel, by decide +kernel⟩, by decide +kernel⟩
theorem vm_B_redo_k : Cond.instanceMethod mi_B_redo.1 ∈ bt_gw := bt_gin (bt_tin4 (List.mem_of_getElem? (i := 52) (by decide +kernel))) rfl
theorem vm_B_redo_s : Cond.selects mi_B_redo.1.cls mi_B_redo.1 mi_B_redo.1 ∈ bt_gw := bt_gin (bt_tin4 (List.mem_of_getElem? (i := 53) (by decide +kernel))) rfl
theorem bv_X_109 : bt_lkV "BellTreesLaw" 109 mi_B_redo 1 0 := ⟨⟨0, bt_T0, 9, rfl, rfl, vm_B_redo⟩, bt_gin (bt_tin4 (List.mem_of_getElem? (i := 51) (by decide +kernel))) rfl, vm_B_redo_k, vm_B_redo_s⟩
theorem vm_M_redo : bt_lkM mi_M_redo 0 := ⟨bt_gin (bt_tin5 (List.mem_of_getElem? (i := 181) (by decide +kernel))) rfl, bt_gin (bt_tin1 (List.mem_of_getElem? (i := 11) (by decide +kernel))) rfl, ⟨by decide +kernel, by decide +kernel, by decide +kernel⟩, by decide +kernel⟩
theorem vm_M_redo_k : Cond.instanceMethod mi_M_redo.1 ∈ bt_gw := bt_gin (bt_tin5 (List.mem_of_getElem? (i := 179) (by decide +kernel))) rfl
theorem vm_M_redo_s : Cond.selects mi_M_redo.1.cls mi_M_redo.1 mi_M_redo.1 ∈ bt_gw := bt_gin (bt_tin5 (List.mem_of_getElem? (i := 180) (by decide +kernel))) rfl
theorem bv_X_112 : bt_lkV "BellTreesLaw" 112 mi_M_redo 1 9 := ⟨⟨0, bt_T9, 53, rfl, rfl, vm_M_redo⟩, bt_gin (bt_tin5 (List.mem_of_getElem? (i := 178) (by decide +kernel))) rfl, vm_M_redo_k, vm_M_redo_s⟩
theorem vm_B_body : bt_lkM mi_B_body 1 := ⟨bt_gin (bt_tin4 (List.mem_of_getElem? (i := 62) (by decide +kernel))) rfl, bt_gin (bt_tin1 (List.mem_of_getElem? (i := 1) (by decide +kernel))) rfl, ⟨by decide +kernel, by decide +kernel, by decide +kernel⟩, by decide +kernel⟩
theorem vm_B_body_k : Cond.instanceMethod mi_B_body.1 ∈ bt_gw := bt_gin (bt_tin4 (List.mem_of_getElem? (i := 60) (by decide +kernel))) rfl
theorem vm_B_body_s : Cond.selects mi_B_body.1.cls mi_B_body.1 mi_B_body.1 ∈ bt_gw := bt_gin (bt_tin4 (List.mem_of_getElem? (i := 61) (by decide +kernel))) rfl
theorem bv_X_113 : bt_lkV "BellTreesLaw" 113 mi_B_body 2 0 := ⟨⟨1, bt_T0, 9, rfl, rfl, vm_B_body⟩, bt_gin (bt_tin4 (List.mem_of_getElem? (i := 59) (by decide +kernel))) rfl, vm_B_body_k, vm_B_body_s⟩
theorem vm_M_body : bt_lkM mi_M_body 1 := ⟨bt_gin (bt_tin6 (List.mem_of_getElem? (i := 221) (by decide +kernel))) rfl, bt_gin (bt_tin1 (List.mem_of_getElem? (i := 11) (by decide +kernel))) rfl, ⟨by decide +kernel, by decide +kernel, by decide +kernel⟩, by decide +kernel⟩
theorem vm_M_body_k : Cond.instanceMethod mi_M_body.1 ∈ bt_gw := bt_gin (bt_tin6 (List.mem_of_getElem? (i := 219) (by decide +kernel))) rfl
theorem vm_M_body_s : Cond.selects mi_M_body.1.cls mi_M_body.1 mi_M_body.1 ∈ bt_gw := bt_gin (bt_tin6 (List.mem_of_getElem? (i := 220) (by decide +kernel))) rfl
theorem bv_X_116 : bt_lkV "BellTreesLaw" 116 mi_M_body 2 9 := ⟨⟨1, bt_T9, 53, rfl, rfl, vm_M_body⟩, bt_gin (bt_tin6 (List.mem_of_getElem? (i := 218) (by decide +kernel))) rfl, vm_M_body_k, vm_M_body_s⟩
theorem vm_B_act : bt_lkM mi_B_act 3 := ⟨bt_gin (bt_tin4 (List.mem_of_getElem? (i := 74) (by decide +kernel))) rfl, bt_gin (bt_tin1 (List.mem_of_getElem? (i := 1) (by decide +kernel))) rfl, ⟨by decide +kernel, by decide +kernel, by decide +kernel⟩, by decide +kernel⟩
theorem vm_B_act_k : Cond.instanceMethod mi_B_act.1 ∈ bt_gw := bt_gin (bt_tin4 (List.mem_of_getElem? (i := 72) (by decide +kernel))) rfl
theorem vm_B_act_s : Cond.selects mi_B_act.1.cls mi_B_act.1 mi_B_act.1 ∈ bt_gw := bt_gin (bt_tin4 (List.mem_of_getElem? (i := 73) (by decide +kernel))) rfl
theorem bv_X_117 : bt_lkV "BellTreesLaw" 117 mi_B_act 4 0 := ⟨⟨3, bt_T0, 9, rfl, rfl, vm_B_act⟩, bt_gin (bt_tin4 (List.mem_of_getElem? (i := 71) (by decide +kernel))) rfl, vm_B_act_k, vm_B_act_s⟩
theorem vm_M_act : bt_lkM mi_M_act 3 := ⟨bt_gin (bt_tin6 (List.mem_of_getElem? (i := 225) (by decide +kernel))) rfl, bt_gin (bt_tin1 (List.mem_of_getElem? (i := 11) (by decide +kernel))) rfl, ⟨by decide +kernel, by decide +kernel, by decide +kernel⟩, by decide +kernel⟩
theorem vm_M_act_k : Cond.instanceMethod mi_M_act.1 ∈ bt_gw := bt_gin (bt_tin6 (List.mem_of_getElem? (i := 223) (by decide +kernel))) rfl
theorem vm_M_act_s : Cond.selects mi_M_act.1.cls mi_M_act.1 mi_M_act.1 ∈ bt_gw := bt_gin (bt_tin6 (List.mem_of_getElem? (i := 224) (by decide +kernel))) rfl
theorem bv_X_120 : bt_lkV "BellTreesLaw" 120 mi_M_act 4 9 := ⟨⟨3, bt_T9, 53, rfl, rfl, vm_M_act⟩, bt_gin (bt_tin6 (List.mem_of_getElem? (i := 222) (by decide +kernel))) rfl, vm_M_act_k, vm_M_act_s⟩
theorem vm_B_trace : bt_lkM mi_B_trace 1 := ⟨bt_gin (bt_tin4 (List.mem_of_getElem? (i := 110) (by decide +kernel))) rfl, bt_gin (bt_tin1 (List.mem_of_getElem? (i := 1) (by decide +kernel))) rfl, ⟨by decide +kernel, by decide +kernel, by decide +kernel⟩, by decide +kernel⟩
theorem vm_B_trace_k : Cond.instanceMethod mi_B_trace.1 ∈ bt_gw := bt_gin (bt_tin4 (List.mem_of_getElem? (i := 108) (by decide +kernel))) rfl
theorem vm_B_trace_s : Cond.selects mi_B_trace.1.cls mi_B_trace.1 mi_B_trace.1 ∈ bt_gw := bt_gin (bt_tin4 (List.mem_of_getElem? (i := 109) (by decide +kernel))) rfl
theorem bv_X_121 : bt_lkV "BellTreesLaw" 121 mi_B_trace 2 0 := ⟨⟨1, bt_T0, 9, rfl, rfl, vm_B_trace⟩, bt_gin (bt_tin4 (List.mem_of_getElem? (i := 107) (by decide +kernel))) rfl, vm_B_trace_k, vm_B_trace_s⟩
theorem vm_M_trace : bt_lkM mi_M_trace 1 := ⟨bt_gin (bt_tin6 (List.mem_of_getElem? (i := 217) (by decide +kernel))) rfl, bt_gin (bt_tin1 (List.mem_of_getElem? (i := 11) (by decide +kernel))) rfl, ⟨by decide +kernel, by decide +kernel, by decide +kernel⟩, by decide +kernel⟩
theorem vm_M_trace_k : Cond.instanceMethod mi_M_trace.1 ∈ bt_gw := bt_gin (bt_tin6 (List.mem_of_getElem? (i := 215) (by decide +kernel))) rfl
theorem vm_M_trace_s : Cond.selects mi_M_trace.1.cls mi_M_trace.1 mi_M_trace.1 ∈ bt_gw := bt_gin (bt_tin6 (List.mem_of_getElem? (i := 216) (by decide +kernel))) rfl
theorem bv_X_124 : bt_lkV "BellTreesLaw" 124 mi_M_trace 2 9 := ⟨⟨1, bt_T9, 53, rfl, rfl, vm_M_trace⟩, bt_gin (bt_tin6 (List.mem_of_getElem? (i := 214) (by decide +kernel))) rfl, vm_M_trace_k, vm_M_trace_s⟩
theorem vm_B_keep : bt_lkM mi_B_keep 2 := ⟨bt_gin (bt_tin4 (List.mem_of_getElem? (i := 118) (by decide +kernel))) rfl, bt_gin (bt_tin1 (List.mem_of_getElem? (i := 1) (by decide +kernel))) rfl, ⟨by decide +kernel, by decide +kernel, by decide +kernel⟩, by decide +kernel⟩
theorem vm_B_keep_k : Cond.instanceMethod mi_B_keep.1 ∈ bt_gw := bt_gin (bt_tin4 (List.mem_of_getElem? (i := 116) (by decide +kernel))) rfl
theorem vm_B_keep_s : Cond.selects mi_B_keep.1.cls mi_B_keep.1 mi_B_keep.1 ∈ bt_gw := bt_gin (bt_tin4 (List.mem_of_getElem? (i := 117) (by decide +kernel))) rfl
theorem bv_X_125 : bt_lkV "BellTreesLaw" 125 mi_B_keep 3 0 := ⟨⟨2, bt_T0, 9, rfl, rfl, vm_B_keep⟩, bt_gin (bt_tin4 (List.mem_of_getElem? (i := 115) (by decide +kernel))) rfl, vm_B_keep_k, vm_B_keep_s⟩
theorem vm_M_keep : bt_lkM mi_M_keep 2 := ⟨bt_gin (bt_tin7 (List.mem_of_getElem? (i := 48) (by decide +kernel))) rfl, bt_gin (bt_tin1 (List.mem_of_getElem? (i := 11) (by decide +kernel))) rfl, ⟨by decide +kernel, by decide +kernel, by decide +kernel⟩, by decide +kernel⟩
theorem vm_M_keep_k : Cond.instanceMethod mi_M_keep.1 ∈ bt_gw := bt_gin (bt_tin7 (List.mem_of_getElem? (i := 46) (by decide +kernel))) rfl
theorem vm_M_keep_s : Cond.selects mi_M_keep.1.cls mi_M_keep.1 mi_M_keep.1 ∈ bt_gw := bt_gin (bt_tin7 (List.mem_of_getElem? (i := 47) (by decide +kernel))) rfl
theorem bv_X_128 : bt_lkV "BellTreesLaw" 128 mi_M_keep 3 9 := ⟨⟨2, bt_T9, 53, rfl, rfl, vm_M_keep⟩, bt_gin (bt_tin7 (List.mem_of_getElem? (i := 45) (by decide +kernel))) rfl, vm_M_keep_k, vm_M_keep_s⟩
theorem vm_B_row : bt_lkM mi_B_row 3 := ⟨bt_gin (bt_tin4 (List.mem_of_getElem? (i := 130) (by decide +kernel))) rfl, bt_gin (bt_tin1 (List.mem_of_getElem? (i := 1) (by decide +kernel))) rfl, ⟨by decide +kernel, by decide +kernel, by decide +kernel⟩, by decide +kernel⟩
theorem vm_B_row_k : Cond.instanceMethod mi_B_row.1 ∈ bt_gw := bt_gin (bt_tin4 (List.mem_of_getElem? (i := 128) (by decide +kernel))) rfl
theorem vm_B_row_s : Cond.selects mi_B_row.1.cls mi_B_row.1 mi_B_row.1 ∈ bt_gw := bt_gin (bt_tin4 (List.mem_of_getElem? (i := 129) (by decide +kernel))) rfl
theorem bv_X_129 : bt_lkV "BellTreesLaw" 129 mi_B_row 4 0 := ⟨⟨3, bt_T0, 9, rfl, rfl, vm_B_row⟩, bt_gin (bt_tin4 (List.mem_of_getElem? (i := 127) (by decide +kernel))) rfl, vm_B_row_k, vm_B_row_s⟩
theorem vm_M_row : bt_lkM mi_M_row 3 := ⟨bt_gin (bt_tin7 (List.mem_of_getElem? (i := 52) (by decide +kernel))) rfl, bt_gin (bt_tin1 (List.mem_of_getElem? (i := 11) (by decide +kernel))) rfl, ⟨by decide +kernel, by decide +kernel, by decide +kernel⟩, by decide +kernel⟩
theorem vm_M_row_k : Cond.instanceMethod mi_M_row.1 ∈ bt_gw := bt_gin (bt_tin7 (List.mem_of_getElem? (i := 50) (by decide +kernel))) rfl
theorem vm_M_row_s : Cond.selects mi_M_row.1.cls mi_M_row.1 mi_M_row.1 ∈ bt_gw := bt_gin (bt_tin7 (List.mem_of_getElem? (i := 51) (by decide +kernel))) rfl
theorem bv_X_132 : bt_lkV "BellTreesLaw" 132 mi_M_row 4 9 := ⟨⟨3, bt_T9, 53, rfl, rfl, vm_M_row⟩, bt_gin (bt_tin7 (List.mem_of_getElem? (i := 49) (by decide +kernel))) rfl, vm_M_row_k, vm_M_row_s⟩
theorem lk_X_133 : Cond.constantLong "BellTreesLaw" 133 4294967295 ∈ bt_gw := bt_gin (bt_tin7 (List.mem_of_getElem? (i := 74) (by decide +kernel))) rfl
theorem vm_B_put : bt_lkM mi_B_put 3 := ⟨bt_gin (bt_tin4 (List.mem_of_getElem? (i := 142) (by decide +kernel))) rfl, bt_gin (bt_tin1 (List.mem_of_getElem? (i := 1) (by decide +kernel))) rfl, ⟨by decide +kernel, by decide +kernel, by decide +kernel⟩, by decide +kernel⟩
theorem vm_B_put_k : Cond.instanceMethod mi_B_put.1 ∈ bt_gw := bt_gin (bt_tin4 (List.mem_of_getElem? (i := 140) (by decide +kernel))) rfl
theorem vm_B_put_s : Cond.selects mi_B_put.1.cls mi_B_put.1 mi_B_put.1 ∈ bt_gw := bt_gin (bt_tin4 (List.mem_of_getElem? (i := 141) (by decide +kernel))) rfl
theorem bv_X_135 : bt_lkV "BellTreesLaw" 135 mi_B_put 4 0 := ⟨⟨3, bt_T0, 9, rfl, rfl, vm_B_put⟩, bt_gin (bt_tin4 (List.mem_of_getElem? (i := 139) (by decide +kernel))) rfl, vm_B_put_k, vm_B_put_s⟩
theorem vm_M_put : bt_lkM mi_M_put 3 := ⟨bt_gin (bt_tin7 (List.mem_of_getElem? (i := 56) (by decide +kernel))) rfl, bt_gin (bt_tin1 (List.mem_of_getElem? (i := 11) (by decide +kernel))) rfl, ⟨by decide +kernel, by decide +kernel, by decide +kernel⟩, by decide +kernel⟩
theorem vm_M_put_k : Cond.instanceMethod mi_M_put.1 ∈ bt_gw := bt_gin (bt_tin7 (List.mem_of_getElem? (i := 54) (by decide +kernel))) rfl
theorem vm_M_put_s : Cond.selects mi_M_put.1.cls mi_M_put.1 mi_M_put.1 ∈ bt_gw := bt_gin (bt_tin7 (List.mem_of_getElem? (i := 55) (by decide +kernel))) rfl
theorem bv_X_139 : bt_lkV "BellTreesLaw" 139 mi_M_put 4 9 := ⟨⟨3, bt_T9, 53, rfl, rfl, vm_M_put⟩, bt_gin (bt_tin7 (List.mem_of_getElem? (i := 53) (by decide +kernel))) rfl, vm_M_put_k, vm_M_put_s⟩
theorem vm_B_element : bt_lkM mi_B_element 2 := ⟨bt_gin (bt_tin4 (List.mem_of_getElem? (i := 162) (by decide +kernel))) rfl, bt_gin (bt_tin1 (List.mem_of_getElem? (i := 1) (by decide +kernel))) rfl, ⟨by decide +kernel, by decide +kernel, by decide +kernel⟩, by decide +kernel⟩
theorem vm_B_element_k : Cond.instanceMethod mi_B_element.1 ∈ bt_gw := bt_gin (bt_tin4 (List.mem_of_getElem? (i := 160) (by decide +kernel))) rfl
theorem vm_B_element_s : Cond.selects mi_B_element.1.cls mi_B_element.1 mi_B_element.1 ∈ bt_gw := bt_gin (bt_tin4 (List.mem_of_getElem? (i := 161) (by decide +kernel))) rfl
theorem bv_X_140 : bt_lkV "BellTreesLaw" 140 mi_B_element 3 0 := ⟨⟨2, bt_T0, 9, rfl, rfl, vm_B_element⟩, bt_gin (bt_tin4 (List.mem_of_getElem? (i := 159) (by decide +kernel))) rfl, vm_B_element_k, vm_B_element_s⟩
theorem vm_M_element : bt_lkM mi_M_element 2 := ⟨bt_gin (bt_tin7 (List.mem_of_getElem? (i := 64) (by decide +kernel))) rfl, bt_gin (bt_tin1 (List.mem_of_getElem? (i := 11) (by decide +kernel))) rfl, ⟨by decide +kernel, by decide +kernel, by decide +kernel⟩, by decide +kernel⟩
theorem vm_M_element_k : Cond.instanceMethod mi_M_element.1 ∈ bt_gw := bt_gin (bt_tin7 (List.mem_of_getElem? (i := 62) (by decide +kernel))) rfl
theorem vm_M_element_s : Cond.selects mi_M_element.1.cls mi_M_element.1 mi_M_element.1 ∈ bt_gw := bt_gin (bt_tin7 (List.mem_of_getElem? (i := 63) (by decide +kernel))) rfl
theorem bv_X_144 : bt_lkV "BellTreesLaw" 144 mi_M_element 3 9 := ⟨⟨2, bt_T9, 53, rfl, rfl, vm_M_element⟩, bt_gin (bt_tin7 (List.mem_of_getElem? (i := 61) (by decide +kernel))) rfl, vm_M_element_k, vm_M_element_s⟩
theorem vm_B_shift : bt_lkM mi_B_shift 5 := ⟨bt_gin (bt_tin4 (List.mem_of_getElem? (i := 168) (by decide +kernel))) rfl, bt_gin (bt_tin1 (List.mem_of_getElem? (i := 1) (by decide +kernel))) rfl, ⟨by decide +kernel, by decide +kernel, by decide +kernel⟩, by decide +kernel⟩
theorem vm_B_shift_k : Cond.instanceMethod mi_B_shift.1 ∈ bt_gw := bt_gin (bt_tin4 (List.mem_of_getElem? (i := 166) (by decide +kernel))) rfl
theorem vm_B_shift_s : Cond.selects mi_B_shift.1.cls mi_B_shift.1 mi_B_shift.1 ∈ bt_gw := bt_gin (bt_tin4 (List.mem_of_getElem? (i := 167) (by decide +kernel))) rfl
theorem bv_X_145 : bt_lkV "BellTreesLaw" 145 mi_B_shift 6 0 := ⟨⟨5, bt_T0, 9, rfl, rfl, vm_B_shift⟩, bt_gin (bt_tin4 (List.mem_of_getElem? (i := 165) (by decide +kernel))) rfl, vm_B_shift_k, vm_B_shift_s⟩
theorem vm_M_shift : bt_lkM mi_M_shift 5 := ⟨bt_gin (bt_tin7 (List.mem_of_getElem? (i := 69) (by decide +kernel))) rfl, bt_gin (bt_tin1 (List.mem_of_getElem? (i := 11) (by decide +kernel))) rfl, ⟨by decide +kernel, by decide +kernel, by decide +kernel⟩, by decide +kernel⟩
theorem vm_M_shift_k : Cond.instanceMethod mi_M_shift.1 ∈ bt_gw := bt_gin (bt_tin7 (List.mem_of_getElem? (i := 67) (by decide +kernel))) rfl
theorem vm_M_shift_s : Cond.selects mi_M_shift.1.cls mi_M_shift.1 mi_M_shift.1 ∈ bt_gw := bt_gin (bt_tin7 (List.mem_of_getElem? (i := 68) (by decide +kernel))) rfl
theorem bv_X_149 : bt_lkV "BellTreesLaw" 149 mi_M_shift 6 9 := ⟨⟨5, bt_T9, 53, rfl, rfl, vm_M_shift⟩, bt_gin (bt_tin7 (List.mem_of_getElem? (i := 66) (by decide +kernel))) rfl, vm_M_shift_k, vm_M_shift_s⟩
theorem vm_B_taken : bt_lkM mi_B_taken 2 := ⟨bt_gin (bt_tin4 (List.mem_of_getElem? (i := 181) (by decide +kernel))) rfl, bt_gin (bt_tin1 (List.mem_of_getElem? (i := 1) (by decide +kernel))) rfl, ⟨by decide +kernel, by decide +kernel, by decide +kernel⟩, by decide +kernel⟩
theorem vm_B_taken_k : Cond.instanceMethod mi_B_taken.1 ∈ bt_gw := bt_gin (bt_tin4 (List.mem_of_getElem? (i := 179) (by decide +kernel))) rfl
theorem vm_B_taken_s : Cond.selects mi_B_taken.1.cls mi_B_taken.1 mi_B_taken.1 ∈ bt_gw := bt_gin (bt_tin4 (List.mem_of_getElem? (i := 180) (by decide +kernel))) rfl
theorem bv_X_150 : bt_lkV "BellTreesLaw" 150 mi_B_taken 3 0 := ⟨⟨2, bt_T0, 9, rfl, rfl, vm_B_taken⟩, bt_gin (bt_tin4 (List.mem_of_getElem? (i := 178) (by decide +kernel))) rfl, vm_B_taken_k, vm_B_taken_s⟩
theorem vm_M_taken : bt_lkM mi_M_taken 2 := ⟨bt_gin (bt_tin7 (List.mem_of_getElem? (i := 73) (by decide +kernel))) rfl, bt_gin (bt_tin1 (List.mem_of_getElem? (i := 11) (by decide +kernel))) rfl, ⟨by decide +kernel, by decide +kernel, by decide +kernel⟩, by decide +kernel⟩
theorem vm_M_taken_k : Cond.instanceMethod mi_M_taken.1 ∈ bt_gw := bt_gin (bt_tin7 (List.mem_of_getElem? (i := 71) (by decide +kernel))) rfl
theorem vm_M_taken_s : Cond.selects mi_M_taken.1.cls mi_M_taken.1 mi_M_taken.1 ∈ bt_gw := bt_gin (bt_tin7 (List.mem_of_getElem? (i := 72) (by decide +kernel))) rfl
theorem bv_X_153 : bt_lkV "BellTreesLaw" 153 mi_M_taken 3 9 := ⟨⟨2, bt_T9, 53, rfl, rfl, vm_M_taken⟩, bt_gin (bt_tin7 (List.mem_of_getElem? (i := 70) (by decide +kernel))) rfl, vm_M_taken_k, vm_M_taken_s⟩
theorem vm_B_count : bt_lkM mi_B_count 1 := ⟨bt_gin (bt_tin4 (List.mem_of_getElem? (i := 195) (by decide +kernel))) rfl, bt_gin (bt_tin1 (List.mem_of_getElem? (i := 1) (by decide +kernel))) rfl, ⟨by decide +kernel, by decide +kernel, by decide +kernel⟩, by decide +kernel⟩
theorem vm_B_count_k : Cond.instanceMethod mi_B_count.1 ∈ bt_gw := bt_gin (bt_tin4 (List.mem_of_getElem? (i := 193) (by decide +kernel))) rfl
theorem vm_B_count_s : Cond.selects mi_B_count.1.cls mi_B_count.1 mi_B_count.1 ∈ bt_gw := bt_gin (bt_tin4 (List.mem_of_getElem? (i := 194) (by decide +kernel))) rfl
theorem bv_X_154 : bt_lkV "BellTreesLaw" 154 mi_B_count 2 0 := ⟨⟨1, bt_T0, 9, rfl, rfl, vm_B_count⟩, bt_gin (bt_tin4 (List.mem_of_getElem? (i := 192) (by decide +kernel))) rfl, vm_B_count_k, vm_B_count_s⟩
theorem vm_M_count : bt_lkM mi_M_count 1 := ⟨bt_gin (bt_tin7 (List.mem_of_getElem? (i := 44) (by decide +kernel))) rfl, bt_gin (bt_tin1 (List.mem_of_getElem? (i := 11) (by decide +kernel))) rfl, ⟨by decide +kernel, by decide +kernel, by decide +kernel⟩, by decide +kernel⟩
theorem vm_M_count_k : Cond.instanceMethod mi_M_count.1 ∈ bt_gw := bt_gin (bt_tin7 (List.mem_of_getElem? (i := 42) (by decide +kernel))) rfl
theorem vm_M_count_s : Cond.selects mi_M_count.1.cls mi_M_count.1 mi_M_count.1 ∈ bt_gw := bt_gin (bt_tin7 (List.mem_of_getElem? (i := 43) (by decide +kernel))) rfl
theorem bv_X_157 : bt_lkV "BellTreesLaw" 157 mi_M_count 2 9 := ⟨⟨1, bt_T9, 53, rfl, rfl, vm_M_count⟩, bt_gin (bt_tin7 (List.mem_of_getElem? (i := 41) (by decide +kernel))) rfl, vm_M_count_k, vm_M_count_s⟩
