/-! printed by wip/whole/genctor2.py: Sounds and Walks are made -/
def y_Wa : MethodName := ⟨"BellTrees$Walks", "<init>", "(LBellTrees$Forest;)V"⟩
theorem gw_Wa_c : Cond.code y_Wa prog_9_method_1_code 2 none ∈ bt_gw := bt_gin (bt_tin1 (List.mem_of_getElem? (i := 135) (by decide +kernel))) rfl
theorem gw_Wa_i : Cond.instanceMethod y_Wa ∈ bt_gw := bt_gin (bt_tin1 (List.mem_of_getElem? (i := 134) (by decide +kernel))) rfl
theorem gw_Wa_l : Cond.initialized y_Wa.cls ∈ bt_gw := bt_gin (bt_tin1 (List.mem_of_getElem? (i := 6) (by decide +kernel))) rfl
theorem dk_Wa_0 : decode prog_9_method_1_code 0 = .ok (.aload_n 0, 1) := by decide +kernel
theorem dk_Wa_1 : decode prog_9_method_1_code 1 = .ok (.invokespecial 3, 3) := by decide +kernel
theorem dk_Wa_4 : decode prog_9_method_1_code 4 = .ok (.aload_n 0, 1) := by decide +kernel
theorem dk_Wa_5 : decode prog_9_method_1_code 5 = .ok (.bipush 24, 2) := by decide +kernel
theorem dk_Wa_7 : decode prog_9_method_1_code 7 = .ok (.bipush 8, 2) := by decide +kernel
theorem dk_Wa_9 : decode prog_9_method_1_code 9 = .ok (.multianewarray 9 2, 4) := by decide +kernel
theorem dk_Wa_13 : decode prog_9_method_1_code 13 = .ok (.putfield 11, 3) := by decide +kernel
theorem dk_Wa_16 : decode prog_9_method_1_code 16 = .ok (.aload_n 0, 1) := by decide +kernel
theorem dk_Wa_17 : decode prog_9_method_1_code 17 = .ok (.aload_n 1, 1) := by decide +kernel
theorem dk_Wa_18 : decode prog_9_method_1_code 18 = .ok (.putfield 16, 3) := by decide +kernel
theorem dk_Wa_21 : decode prog_9_method_1_code 21 = .ok (.return_, 1) := by decide +kernel
def ec_Wa (P : bt_PT) (n f : Nat) : List va_E := (.inr (4, [.ref f, .ref (n + 1)])) :: (moE (n + 1) 24 8 (bt_dA P 4) (bt_dA P 0))
set_option maxHeartbeats 4000000 in
set_option maxRecDepth 100000 in
theorem cc_Wa (P : bt_PT) (n f : Nat) : Met (bt_l P) y_Wa (Cond.code y_Wa prog_9_method_1_code 2 none :: bt_gw) { frames := 1, cells := 25, slots := 216, locals := 40 } (fun v U => crP P [.ref n, .ref f] n [.inr (4, [.null, .null])] v U ∧ mo_AO U) (crQ P n (ec_Wa P n f)) 25 216 (fun q => n ≤ q) := by
  refine Met.ofW (cc := prog_9_method_1_code) (maxL := 2) (ret := none) (by decide) rfl ?_
  intro p e s m args below meth c s₁ B hml hv
  obtain ⟨⟨rfl, hz, hP, hK⟩, hAO⟩ := hv
  have hx := B.exec
  have hb := B.bytes
  have hr := B.returns
  have hts0 := atoms_spec (ws := Cond.code y_Wa prog_9_method_1_code 2 none :: bt_gw) B.pre
  have hts : ∀ w ∈ bt_gw, w.before _ s = true := fun w hw => hts0 w (List.mem_cons_of_mem _ hw)
  have hown : s.vm.findClass "BellTrees$Walks" = some m.cls := findClass_of_methodNamed B.named
  have hlocks := B.notSynchronized
  have hin : meth.name = "<init>" := (name_of_methodNamed B.named B.method).1
  have hW : rwC (bt_D P) n [.inr (4, [.null, .null])] s.heap s.heap [] := ⟨hz, hP, fun _ _ => rfl, fun l h => by cases h⟩
  have hl := lv_entry ([.ref n, .ref f] : List Value) (n := 2) (Nat.le_of_ble_eq_true rfl)
  rw [lg_entry_eq]
  generalize (lg_sl ([.ref n, .ref f] : List Value) ++ List.replicate (2 - (lg_sl ([.ref n, .ref f] : List Value)).length) Slot.unset).toArray = ls at hl ⊢
  have hl : lv_has ls 2 [(0, .ref n), (1, .ref f)] := hl
  refine lv_aload_n hx hb dk_Wa_0 rfl (lv_at hl 0 rfl) ?_
  refine W.objInit hx hb hown (hts _ (bt_gin (bt_tin1 (List.mem_of_getElem? (i := 136) (by decide +kernel))) rfl)) (hts _ gw_oi) (hts _ gw_oc) rfl (by rw [hml]; exact hl.1) rfl dk_Wa_1 (Nat.le_of_ble_eq_true rfl) (Nat.le_of_ble_eq_true rfl) ?_
  refine W.eq (g2 := F0 m 4 ls []) rfl ?_
  refine lv_aload_n hx hb dk_Wa_4 rfl (lv_at hl 0 rfl) ?_
  refine lv_bipush hx hb dk_Wa_5 rfl ?_
  refine lv_bipush hx hb dk_Wa_7 rfl ?_
  refine cr_mna (N' := 24) (K' := 8) hx hb hown (hts _ (show Cond.classLink "BellTrees$Walks" 9 ("[" ++ (FieldType.array .int).toString) ∈ bt_gw from bt_gin (bt_tin1 (List.mem_of_getElem? (i := 137) (by decide +kernel))) rfl)) hAO (hts _ gw_aint) (hK.2 4 _ rfl).2 (hK.2 0 _ rfl).2 hW (by decide) (by decide) (by decide) (by decide) (Nat.le_of_ble_eq_true rfl) (Nat.le_of_ble_eq_true rfl) (Nat.le_of_ble_eq_true rfl) (Nat.le_of_ble_eq_true rfl) (Nat.le_of_ble_eq_true rfl) dk_Wa_9 (fun H hW => ?_)
  have hW : rwC (bt_D P) n ((.inr (4, [.null, .null])) :: (moE (n + 1) 24 8 (bt_dA P 4) (bt_dA P 0))) s.heap H [] := hW
  refine cr_putF (own := "BellTrees$Walks") (C := bt_R4) (T := bt_T4) (N := 2) (j := 0) (ty := (.array (.array .int))) (v := .ref (n + 1)) hx hb hts bt_inG4 bt_ty4 bt_tyok4 bt_nm4 hown hK hW rfl rfl 1 (by decide) (bt_gin (bt_tin1 (List.mem_of_getElem? (i := 139) (by decide +kernel))) rfl) rfl rfl hin rfl (by decide +kernel) rfl rfl (Nat.le_of_ble_eq_true rfl) dk_Wa_13 rfl (fun H locs hW => ?_)
  have hW : rwC (bt_D P) n ((.inr (4, [.null, .ref (n + 1)])) :: (moE (n + 1) 24 8 (bt_dA P 4) (bt_dA P 0))) s.heap H locs := hW
  refine lv_aload_n hx hb dk_Wa_16 rfl (lv_at hl 0 rfl) ?_
  refine lv_aload_n hx hb dk_Wa_17 rfl (lv_at hl 1 rfl) ?_
  refine cr_putF (own := "BellTrees$Walks") (C := bt_R4) (T := bt_T4) (N := 2) (j := 0) (ty := (.object "BellTrees$Forest")) (v := .ref f) hx hb hts bt_inG4 bt_ty4 bt_tyok4 bt_nm4 hown hK hW rfl rfl 0 (by decide) (bt_gin (bt_tin1 (List.mem_of_getElem? (i := 138) (by decide +kernel))) rfl) rfl rfl hin rfl (by decide +kernel) rfl rfl (Nat.le_of_ble_eq_true rfl) dk_Wa_18 rfl (fun H locs hW => ?_)
  have hW : rwC (bt_D P) n ((.inr (4, [.ref f, .ref (n + 1)])) :: (moE (n + 1) 24 8 (bt_dA P 4) (bt_dA P 0))) s.heap H locs := hW
  exact W.vret hx hb hr (fun t ht _ => ⟨rfl, by rw [ht]; exact ⟨hW.1, hW.2.1, hW.2.2.1, fun l h => by cases h⟩⟩) hW.2.2.2 dk_Wa_21
def y_So : MethodName := ⟨"BellTrees$Sounds", "<init>", "(LBellTrees$Forest;LBellTrees$Law;)V"⟩
theorem gw_So_c : Cond.code y_So prog_8_method_1_code 3 none ∈ bt_gw := bt_gin (bt_tin1 (List.mem_of_getElem? (i := 115) (by decide +kernel))) rfl
theorem gw_So_i : Cond.instanceMethod y_So ∈ bt_gw := bt_gin (bt_tin1 (List.mem_of_getElem? (i := 114) (by decide +kernel))) rfl
theorem gw_So_l : Cond.initialized y_So.cls ∈ bt_gw := bt_gin (bt_tin1 (List.mem_of_getElem? (i := 5) (by decide +kernel))) rfl
theorem dk_So_0 : decode prog_8_method_1_code 0 = .ok (.aload_n 0, 1) := by decide +kernel
theorem dk_So_1 : decode prog_8_method_1_code 1 = .ok (.invokespecial 3, 3) := by decide +kernel
theorem dk_So_4 : decode prog_8_method_1_code 4 = .ok (.aload_n 0, 1) := by decide +kernel
theorem dk_So_5 : decode prog_8_method_1_code 5 = .ok (.bipush 8, 2) := by decide +kernel
theorem dk_So_7 : decode prog_8_method_1_code 7 = .ok (.bipush 24, 2) := by decide +kernel
theorem dk_So_9 : decode prog_8_method_1_code 9 = .ok (.multianewarray 9 2, 4) := by decide +kernel
theorem dk_So_13 : decode prog_8_method_1_code 13 = .ok (.putfield 11, 3) := by decide +kernel
theorem dk_So_16 : decode prog_8_method_1_code 16 = .ok (.aload_n 0, 1) := by decide +kernel
theorem dk_So_17 : decode prog_8_method_1_code 17 = .ok (.bipush 10, 2) := by decide +kernel
theorem dk_So_19 : decode prog_8_method_1_code 19 = .ok (.newarray .int, 2) := by decide +kernel
theorem dk_So_21 : decode prog_8_method_1_code 21 = .ok (.putfield 16, 3) := by decide +kernel
theorem dk_So_24 : decode prog_8_method_1_code 24 = .ok (.aload_n 0, 1) := by decide +kernel
theorem dk_So_25 : decode prog_8_method_1_code 25 = .ok (.aload_n 1, 1) := by decide +kernel
theorem dk_So_26 : decode prog_8_method_1_code 26 = .ok (.putfield 20, 3) := by decide +kernel
theorem dk_So_29 : decode prog_8_method_1_code 29 = .ok (.aload_n 0, 1) := by decide +kernel
theorem dk_So_30 : decode prog_8_method_1_code 30 = .ok (.aload_n 2, 1) := by decide +kernel
theorem dk_So_31 : decode prog_8_method_1_code 31 = .ok (.putfield 24, 3) := by decide +kernel
theorem dk_So_34 : decode prog_8_method_1_code 34 = .ok (.return_, 1) := by decide +kernel
def ec_So (P : bt_PT) (n f w : Nat) : List va_E := (.inr (3, [.ref f, .ref w, .ref (n + 1), .ref (n + 10)])) :: (moE (n + 1) 8 24 (bt_dA P 4) (bt_dA P 0) ++ [.inl (bt_dA P 0, 10, .inl (fun _ => 0))])
set_option maxHeartbeats 4000000 in
set_option maxRecDepth 100000 in
theorem cc_So (P : bt_PT) (n f w : Nat) : Met (bt_l P) y_So (Cond.code y_So prog_8_method_1_code 3 none :: bt_gw) { frames := 1, cells := 10, slots := 210, locals := 40 } (fun v U => crP P [.ref n, .ref f, .ref w] n [.inr (3, [.null, .null, .null, .null])] v U ∧ mo_AO U) (crQ P n (ec_So P n f w)) 10 210 (fun q => n ≤ q) := by
  refine Met.ofW (cc := prog_8_method_1_code) (maxL := 3) (ret := none) (by decide) rfl ?_
  intro p e s m args below meth c s₁ B hml hv
  obtain ⟨⟨rfl, hz, hP, hK⟩, hAO⟩ := hv
  have hx := B.exec
  have hb := B.bytes
  have hr := B.returns
  have hts0 := atoms_spec (ws := Cond.code y_So prog_8_method_1_code 3 none :: bt_gw) B.pre
  have hts : ∀ w ∈ bt_gw, w.before _ s = true := fun w hw => hts0 w (List.mem_cons_of_mem _ hw)
  have hown : s.vm.findClass "BellTrees$Sounds" = some m.cls := findClass_of_methodNamed B.named
  have hlocks := B.notSynchronized
  have hin : meth.name = "<init>" := (name_of_methodNamed B.named B.method).1
  have hW : rwC (bt_D P) n [.inr (3, [.null, .null, .null, .null])] s.heap s.heap [] := ⟨hz, hP, fun _ _ => rfl, fun l h => by cases h⟩
  have hl := lv_entry ([.ref n, .ref f, .ref w] : List Value) (n := 3) (Nat.le_of_ble_eq_true rfl)
  rw [lg_entry_eq]
  generalize (lg_sl ([.ref n, .ref f, .ref w] : List Value) ++ List.replicate (3 - (lg_sl ([.ref n, .ref f, .ref w] : List Value)).length) Slot.unset).toArray = ls at hl ⊢
  have hl : lv_has ls 3 [(0, .ref n), (1, .ref f), (2, .ref w)] := hl
  refine lv_aload_n hx hb dk_So_0 rfl (lv_at hl 0 rfl) ?_
  refine W.objInit hx hb hown (hts _ (bt_gin (bt_tin1 (List.mem_of_getElem? (i := 116) (by decide +kernel))) rfl)) (hts _ gw_oi) (hts _ gw_oc) rfl (by rw [hml]; exact hl.1) rfl dk_So_1 (Nat.le_of_ble_eq_true rfl) (Nat.le_of_ble_eq_true rfl) ?_
  refine W.eq (g2 := F0 m 4 ls []) rfl ?_
  refine lv_aload_n hx hb dk_So_4 rfl (lv_at hl 0 rfl) ?_
  refine lv_bipush hx hb dk_So_5 rfl ?_
  refine lv_bipush hx hb dk_So_7 rfl ?_
  refine cr_mna (N' := 8) (K' := 24) hx hb hown (hts _ (show Cond.classLink "BellTrees$Sounds" 9 ("[" ++ (FieldType.array .int).toString) ∈ bt_gw from bt_gin (bt_tin1 (List.mem_of_getElem? (i := 117) (by decide +kernel))) rfl)) hAO (hts _ gw_aint) (hK.2 4 _ rfl).2 (hK.2 0 _ rfl).2 hW (by decide) (by decide) (by decide) (by decide) (Nat.le_of_ble_eq_true rfl) (Nat.le_of_ble_eq_true rfl) (Nat.le_of_ble_eq_true rfl) (Nat.le_of_ble_eq_true rfl) (Nat.le_of_ble_eq_true rfl) dk_So_9 (fun H hW => ?_)
  have hW : rwC (bt_D P) n ((.inr (3, [.null, .null, .null, .null])) :: (moE (n + 1) 8 24 (bt_dA P 4) (bt_dA P 0))) s.heap H [] := hW
  refine cr_putF (own := "BellTrees$Sounds") (C := bt_R3) (T := bt_T3) (N := 4) (j := 0) (ty := (.array (.array .int))) (v := .ref (n + 1)) hx hb hts bt_inG3 bt_ty3 bt_tyok3 bt_nm3 hown hK hW rfl rfl 2 (by decide) (bt_gin (bt_tin1 (List.mem_of_getElem? (i := 120) (by decide +kernel))) rfl) rfl rfl hin rfl (by decide +kernel) rfl rfl (Nat.le_of_ble_eq_true rfl) dk_So_13 rfl (fun H locs hW => ?_)
  have hW : rwC (bt_D P) n ((.inr (3, [.null, .null, .ref (n + 1), .null])) :: (moE (n + 1) 8 24 (bt_dA P 4) (bt_dA P 0))) s.heap H locs := hW
  refine lv_aload_n hx hb dk_So_16 rfl (lv_at hl 0 rfl) ?_
  refine lv_bipush hx hb dk_So_17 rfl ?_
  refine cr_newa (atype := .int) (N' := 10) (a0 := (10, .inl (fun _ => 0))) hx hb (hts _ gw_aint) rfl (hK.2 0 _ rfl).2 hW (fun _ => rfl) (by decide) (by decide) (Nat.le_of_ble_eq_true rfl) (Nat.le_of_ble_eq_true rfl) (Nat.le_of_ble_eq_true rfl) dk_So_19 (fun H hW => ?_)
  have hW : rwC (bt_D P) n ((.inr (3, [.null, .null, .ref (n + 1), .null])) :: (moE (n + 1) 8 24 (bt_dA P 4) (bt_dA P 0) ++ [.inl (bt_dA P 0, 10, .inl (fun _ => 0))])) s.heap H locs := hW
  refine cr_putF (own := "BellTrees$Sounds") (C := bt_R3) (T := bt_T3) (N := 4) (j := 0) (ty := (.array .int)) (v := .ref (n + 10)) hx hb hts bt_inG3 bt_ty3 bt_tyok3 bt_nm3 hown hK hW rfl rfl 3 (by decide) (bt_gin (bt_tin1 (List.mem_of_getElem? (i := 121) (by decide +kernel))) rfl) rfl rfl hin rfl (by decide +kernel) rfl rfl (Nat.le_of_ble_eq_true rfl) dk_So_21 rfl (fun H locs hW => ?_)
  have hW : rwC (bt_D P) n ((.inr (3, [.null, .null, .ref (n + 1), .ref (n + 10)])) :: (moE (n + 1) 8 24 (bt_dA P 4) (bt_dA P 0) ++ [.inl (bt_dA P 0, 10, .inl (fun _ => 0))])) s.heap H locs := hW
  refine lv_aload_n hx hb dk_So_24 rfl (lv_at hl 0 rfl) ?_
  refine lv_aload_n hx hb dk_So_25 rfl (lv_at hl 1 rfl) ?_
  refine cr_putF (own := "BellTrees$Sounds") (C := bt_R3) (T := bt_T3) (N := 4) (j := 0) (ty := (.object "BellTrees$Forest")) (v := .ref f) hx hb hts bt_inG3 bt_ty3 bt_tyok3 bt_nm3 hown hK hW rfl rfl 0 (by decide) (bt_gin (bt_tin1 (List.mem_of_getElem? (i := 118) (by decide +kernel))) rfl) rfl rfl hin rfl (by decide +kernel) rfl rfl (Nat.le_of_ble_eq_true rfl) dk_So_26 rfl (fun H locs hW => ?_)
  have hW : rwC (bt_D P) n ((.inr (3, [.ref f, .null, .ref (n + 1), .ref (n + 10)])) :: (moE (n + 1) 8 24 (bt_dA P 4) (bt_dA P 0) ++ [.inl (bt_dA P 0, 10, .inl (fun _ => 0))])) s.heap H locs := hW
  refine lv_aload_n hx hb dk_So_29 rfl (lv_at hl 0 rfl) ?_
  refine lv_aload_n hx hb dk_So_30 rfl (lv_at hl 2 rfl) ?_
  refine cr_putF (own := "BellTrees$Sounds") (C := bt_R3) (T := bt_T3) (N := 4) (j := 0) (ty := (.object "BellTrees$Law")) (v := .ref w) hx hb hts bt_inG3 bt_ty3 bt_tyok3 bt_nm3 hown hK hW rfl rfl 1 (by decide) (bt_gin (bt_tin1 (List.mem_of_getElem? (i := 119) (by decide +kernel))) rfl) rfl rfl hin rfl (by decide +kernel) rfl rfl (Nat.le_of_ble_eq_true rfl) dk_So_31 rfl (fun H locs hW => ?_)
  have hW : rwC (bt_D P) n ((.inr (3, [.ref f, .ref w, .ref (n + 1), .ref (n + 10)])) :: (moE (n + 1) 8 24 (bt_dA P 4) (bt_dA P 0) ++ [.inl (bt_dA P 0, 10, .inl (fun _ => 0))])) s.heap H locs := hW
  exact W.vret hx hb hr (fun t ht _ => ⟨rfl, by rw [ht]; exact ⟨hW.1, hW.2.1, hW.2.2.1, fun l h => by cases h⟩⟩) hW.2.2.2 dk_So_34
