/-! printed by wip/whole/genctor.py: the constructors that make no objects -/
def crP (P : bt_PT) (as : List Value) (n : Nat) (pre : List va_E) : Array Value → State → Prop := fun v U => v = as.toArray ∧ U.heap.size = n + pre.length ∧ (∀ (j : Nat) (e : va_E), pre[j]? = some e → va_at (bt_D P) bt_cl (n + j, e) U.heap) ∧ va_K (bt_D P) bt_cl (bt_tys P) U
def crQ (P : bt_PT) (n : Nat) (post : List va_E) : Array Value → State → Outcome → State → Prop := fun _ st o t => o = .returned none ∧ rwC (bt_D P) n post st.heap t.heap []
theorem gw_oi : Cond.instanceMethod objectInit ∈ bt_gw := bt_gin (bt_tin1 (List.mem_of_getElem? (i := 21) (by decide +kernel))) rfl
theorem gw_oc : Cond.code objectInit ⟨#[0xb1]⟩ 1 none ∈ bt_gw := bt_gin (bt_tin1 (List.mem_of_getElem? (i := 22) (by decide +kernel))) rfl
theorem gw_aint : Cond.arrayClass (newarray.typeOf .int) ∈ bt_gw := bt_gin (bt_tin1 (List.mem_of_getElem? (i := 58) (by decide +kernel))) rfl
theorem gw_along : Cond.arrayClass (newarray.typeOf .long) ∈ bt_gw := bt_gin (bt_tin2 (List.mem_of_getElem? (i := 0) (by decide +kernel))) rfl
theorem gw_abyte : Cond.arrayClass (newarray.typeOf .byte) ∈ bt_gw := bt_gin (bt_tin5 (List.mem_of_getElem? (i := 137) (by decide +kernel))) rfl
theorem gw_ashort : Cond.arrayClass (newarray.typeOf .short) ∈ bt_gw := bt_gin (bt_tin5 (List.mem_of_getElem? (i := 138) (by decide +kernel))) rfl
def y_Ch : MethodName := ⟨"BellTrees$Changes", "<init>", "()V"⟩
theorem gw_Ch_c : Cond.code y_Ch prog_3_method_1_code 1 none ∈ bt_gw := bt_gin (bt_tin1 (List.mem_of_getElem? (i := 149) (by decide +kernel))) rfl
theorem gw_Ch_i : Cond.instanceMethod y_Ch ∈ bt_gw := bt_gin (bt_tin1 (List.mem_of_getElem? (i := 148) (by decide +kernel))) rfl
theorem gw_Ch_l : Cond.initialized y_Ch.cls ∈ bt_gw := bt_gin (bt_tin1 (List.mem_of_getElem? (i := 7) (by decide +kernel))) rfl
theorem dk_Ch_0 : decode prog_3_method_1_code 0 = .ok (.aload_n 0, 1) := by decide +kernel
theorem dk_Ch_1 : decode prog_3_method_1_code 1 = .ok (.invokespecial 3, 3) := by decide +kernel
theorem dk_Ch_4 : decode prog_3_method_1_code 4 = .ok (.aload_n 0, 1) := by decide +kernel
theorem dk_Ch_5 : decode prog_3_method_1_code 5 = .ok (.bipush 40, 2) := by decide +kernel
theorem dk_Ch_7 : decode prog_3_method_1_code 7 = .ok (.newarray .int, 2) := by decide +kernel
theorem dk_Ch_9 : decode prog_3_method_1_code 9 = .ok (.putfield 11, 3) := by decide +kernel
theorem dk_Ch_12 : decode prog_3_method_1_code 12 = .ok (.aload_n 0, 1) := by decide +kernel
theorem dk_Ch_13 : decode prog_3_method_1_code 13 = .ok (.bipush 40, 2) := by decide +kernel
theorem dk_Ch_15 : decode prog_3_method_1_code 15 = .ok (.newarray .int, 2) := by decide +kernel
theorem dk_Ch_17 : decode prog_3_method_1_code 17 = .ok (.putfield 15, 3) := by decide +kernel
theorem dk_Ch_20 : decode prog_3_method_1_code 20 = .ok (.aload_n 0, 1) := by decide +kernel
theorem dk_Ch_21 : decode prog_3_method_1_code 21 = .ok (.bipush 40, 2) := by decide +kernel
theorem dk_Ch_23 : decode prog_3_method_1_code 23 = .ok (.newarray .int, 2) := by decide +kernel
theorem dk_Ch_25 : decode prog_3_method_1_code 25 = .ok (.putfield 18, 3) := by decide +kernel
theorem dk_Ch_28 : decode prog_3_method_1_code 28 = .ok (.aload_n 0, 1) := by decide +kernel
theorem dk_Ch_29 : decode prog_3_method_1_code 29 = .ok (.bipush 40, 2) := by decide +kernel
theorem dk_Ch_31 : decode prog_3_method_1_code 31 = .ok (.newarray .int, 2) := by decide +kernel
theorem dk_Ch_33 : decode prog_3_method_1_code 33 = .ok (.putfield 21, 3) := by decide +kernel
theorem dk_Ch_36 : decode prog_3_method_1_code 36 = .ok (.return_, 1) := by decide +kernel
def ec_Ch (P : bt_PT) (n : Nat) : List va_E := [.inr (5, [.ref (n + 1), .ref (n + 2), .ref (n + 3), .ref (n + 4), .int 0, .int 0]), .inl (bt_dA P 0, 40, .inl (fun _ => 0)), .inl (bt_dA P 0, 40, .inl (fun _ => 0)), .inl (bt_dA P 0, 40, .inl (fun _ => 0)), .inl (bt_dA P 0, 40, .inl (fun _ => 0))]
set_option maxHeartbeats 4000000 in
set_option maxRecDepth 100000 in
theorem cc_Ch (P : bt_PT) (n : Nat) : Met (bt_l P) y_Ch (Cond.code y_Ch prog_3_method_1_code 1 none :: bt_gw) { frames := 1, cells := 4, slots := 160, locals := 40 } (crP P [.ref n] n [.inr (5, [.null, .null, .null, .null, .int 0, .int 0])]) (crQ P n (ec_Ch P n)) 4 160 (fun q => n ≤ q) := by
  refine Met.ofW (cc := prog_3_method_1_code) (maxL := 1) (ret := none) (by decide) rfl ?_
  intro p e s m args below meth c s₁ B hml hv
  obtain ⟨rfl, hz, hP, hK⟩ := hv
  have hx := B.exec
  have hb := B.bytes
  have hr := B.returns
  have hts0 := atoms_spec (ws := Cond.code y_Ch prog_3_method_1_code 1 none :: bt_gw) B.pre
  have hts : ∀ w ∈ bt_gw, w.before _ s = true := fun w hw => hts0 w (List.mem_cons_of_mem _ hw)
  have hown : s.vm.findClass "BellTrees$Changes" = some m.cls := findClass_of_methodNamed B.named
  have hlocks := B.notSynchronized
  have hin : meth.name = "<init>" := (name_of_methodNamed B.named B.method).1
  have hW : rwC (bt_D P) n [.inr (5, [.null, .null, .null, .null, .int 0, .int 0])] s.heap s.heap [] := ⟨hz, hP, fun _ _ => rfl, fun l h => by cases h⟩
  have hl := lv_entry ([.ref n]) (n := 1) (Nat.le_of_ble_eq_true rfl)
  rw [lg_entry_eq]
  generalize (lg_sl ([.ref n]) ++ List.replicate (1 - (lg_sl ([.ref n])).length) Slot.unset).toArray = ls at hl ⊢
  have hl : lv_has ls 1 [(0, .ref n)] := hl
  refine lv_aload_n hx hb dk_Ch_0 rfl (lv_at hl 0 rfl) ?_
  refine W.objInit hx hb hown (hts _ (bt_gin (bt_tin1 (List.mem_of_getElem? (i := 150) (by decide +kernel))) rfl)) (hts _ gw_oi) (hts _ gw_oc) rfl (by rw [hml]; exact hl.1) rfl dk_Ch_1 (Nat.le_of_ble_eq_true rfl) (Nat.le_of_ble_eq_true rfl) ?_
  refine W.eq (g2 := F0 m 4 ls []) rfl ?_
  refine lv_aload_n hx hb dk_Ch_4 rfl (lv_at hl 0 rfl) ?_
  refine lv_bipush hx hb dk_Ch_5 rfl ?_
  refine cr_newa (atype := .int) (N' := 40) (a0 := (40, .inl (fun _ => 0))) hx hb (hts _ gw_aint) rfl (hK.2 0 _ rfl).2 hW (fun _ => rfl) (by decide) (by decide) (Nat.le_of_ble_eq_true rfl) (Nat.le_of_ble_eq_true rfl) (Nat.le_of_ble_eq_true rfl) dk_Ch_7 (fun H hW => ?_)
  have hW : rwC (bt_D P) n [.inr (5, [.null, .null, .null, .null, .int 0, .int 0]), .inl (bt_dA P 0, 40, .inl (fun _ => 0))] s.heap H [] := hW
  refine cr_putF (own := "BellTrees$Changes") (C := bt_R5) (T := bt_T5) (N := 6) (j := 0) (ty := (.array .int)) (v := .ref (n + 1)) hx hb hts bt_inG5 bt_ty5 bt_tyok5 bt_nm5 hown hK hW rfl rfl 0 (by decide) (bt_gin (bt_tin1 (List.mem_of_getElem? (i := 151) (by decide +kernel))) rfl) rfl rfl hin rfl (by decide +kernel) rfl rfl (Nat.le_of_ble_eq_true rfl) dk_Ch_9 rfl (fun H locs hW => ?_)
  have hW : rwC (bt_D P) n [.inr (5, [.ref (n + 1), .null, .null, .null, .int 0, .int 0]), .inl (bt_dA P 0, 40, .inl (fun _ => 0))] s.heap H locs := hW
  refine lv_aload_n hx hb dk_Ch_12 rfl (lv_at hl 0 rfl) ?_
  refine lv_bipush hx hb dk_Ch_13 rfl ?_
  refine cr_newa (atype := .int) (N' := 40) (a0 := (40, .inl (fun _ => 0))) hx hb (hts _ gw_aint) rfl (hK.2 0 _ rfl).2 hW (fun _ => rfl) (by decide) (by decide) (Nat.le_of_ble_eq_true rfl) (Nat.le_of_ble_eq_true rfl) (Nat.le_of_ble_eq_true rfl) dk_Ch_15 (fun H hW => ?_)
  have hW : rwC (bt_D P) n [.inr (5, [.ref (n + 1), .null, .null, .null, .int 0, .int 0]), .inl (bt_dA P 0, 40, .inl (fun _ => 0)), .inl (bt_dA P 0, 40, .inl (fun _ => 0))] s.heap H locs := hW
  refine cr_putF (own := "BellTrees$Changes") (C := bt_R5) (T := bt_T5) (N := 6) (j := 0) (ty := (.array .int)) (v := .ref (n + 2)) hx hb hts bt_inG5 bt_ty5 bt_tyok5 bt_nm5 hown hK hW rfl rfl 1 (by decide) (bt_gin (bt_tin1 (List.mem_of_getElem? (i := 152) (by decide +kernel))) rfl) rfl rfl hin rfl (by decide +kernel) rfl rfl (Nat.le_of_ble_eq_true rfl) dk_Ch_17 rfl (fun H locs hW => ?_)
  have hW : rwC (bt_D P) n [.inr (5, [.ref (n + 1), .ref (n + 2), .null, .null, .int 0, .int 0]), .inl (bt_dA P 0, 40, .inl (fun _ => 0)), .inl (bt_dA P 0, 40, .inl (fun _ => 0))] s.heap H locs := hW
  refine lv_aload_n hx hb dk_Ch_20 rfl (lv_at hl 0 rfl) ?_
  refine lv_bipush hx hb dk_Ch_21 rfl ?_
  refine cr_newa (atype := .int) (N' := 40) (a0 := (40, .inl (fun _ => 0))) hx hb (hts _ gw_aint) rfl (hK.2 0 _ rfl).2 hW (fun _ => rfl) (by decide) (by decide) (Nat.le_of_ble_eq_true rfl) (Nat.le_of_ble_eq_true rfl) (Nat.le_of_ble_eq_true rfl) dk_Ch_23 (fun H hW => ?_)
  have hW : rwC (bt_D P) n [.inr (5, [.ref (n + 1), .ref (n + 2), .null, .null, .int 0, .int 0]), .inl (bt_dA P 0, 40, .inl (fun _ => 0)), .inl (bt_dA P 0, 40, .inl (fun _ => 0)), .inl (bt_dA P 0, 40, .inl (fun _ => 0))] s.heap H locs := hW
  refine cr_putF (own := "BellTrees$Changes") (C := bt_R5) (T := bt_T5) (N := 6) (j := 0) (ty := (.array .int)) (v := .ref (n + 3)) hx hb hts bt_inG5 bt_ty5 bt_tyok5 bt_nm5 hown hK hW rfl rfl 2 (by decide) (bt_gin (bt_tin1 (List.mem_of_getElem? (i := 153) (by decide +kernel))) rfl) rfl rfl hin rfl (by decide +kernel) rfl rfl (Nat.le_of_ble_eq_true rfl) dk_Ch_25 rfl (fun H locs hW => ?_)
  have hW : rwC (bt_D P) n [.inr (5, [.ref (n + 1), .ref (n + 2), .ref (n + 3), .null, .int 0, .int 0]), .inl (bt_dA P 0, 40, .inl (fun _ => 0)), .inl (bt_dA P 0, 40, .inl (fun _ => 0)), .inl (bt_dA P 0, 40, .inl (fun _ => 0))] s.heap H locs := hW
  refine lv_aload_n hx hb dk_Ch_28 rfl (lv_at hl 0 rfl) ?_
  refine lv_bipush hx hb dk_Ch_29 rfl ?_
  refine cr_newa (atype := .int) (N' := 40) (a0 := (40, .inl (fun _ => 0))) hx hb (hts _ gw_aint) rfl (hK.2 0 _ rfl).2 hW (fun _ => rfl) (by decide) (by decide) (Nat.le_of_ble_eq_true rfl) (Nat.le_of_ble_eq_true rfl) (Nat.le_of_ble_eq_true rfl) dk_Ch_31 (fun H hW => ?_)
  have hW : rwC (bt_D P) n [.inr (5, [.ref (n + 1), .ref (n + 2), .ref (n + 3), .null, .int 0, .int 0]), .inl (bt_dA P 0, 40, .inl (fun _ => 0)), .inl (bt_dA P 0, 40, .inl (fun _ => 0)), .inl (bt_dA P 0, 40, .inl (fun _ => 0)), .inl (bt_dA P 0, 40, .inl (fun _ => 0))] s.heap H locs := hW
  refine cr_putF (own := "BellTrees$Changes") (C := bt_R5) (T := bt_T5) (N := 6) (j := 0) (ty := (.array .int)) (v := .ref (n + 4)) hx hb hts bt_inG5 bt_ty5 bt_tyok5 bt_nm5 hown hK hW rfl rfl 3 (by decide) (bt_gin (bt_tin1 (List.mem_of_getElem? (i := 154) (by decide +kernel))) rfl) rfl rfl hin rfl (by decide +kernel) rfl rfl (Nat.le_of_ble_eq_true rfl) dk_Ch_33 rfl (fun H locs hW => ?_)
  have hW : rwC (bt_D P) n [.inr (5, [.ref (n + 1), .ref (n + 2), .ref (n + 3), .ref (n + 4), .int 0, .int 0]), .inl (bt_dA P 0, 40, .inl (fun _ => 0)), .inl (bt_dA P 0, 40, .inl (fun _ => 0)), .inl (bt_dA P 0, 40, .inl (fun _ => 0)), .inl (bt_dA P 0, 40, .inl (fun _ => 0))] s.heap H locs := hW
  exact W.vret hx hb hr (fun t ht _ => ⟨rfl, by rw [ht]; exact ⟨hW.1, hW.2.1, hW.2.2.1, fun l h => by cases h⟩⟩) hW.2.2.2 dk_Ch_36
def y_Im : MethodName := ⟨"BellTrees$Image", "<init>", "()V"⟩
theorem gw_Im_c : Cond.code y_Im prog_5_method_1_code 1 none ∈ bt_gw := bt_gin (bt_tin1 (List.mem_of_getElem? (i := 174) (by decide +kernel))) rfl
theorem gw_Im_i : Cond.instanceMethod y_Im ∈ bt_gw := bt_gin (bt_tin1 (List.mem_of_getElem? (i := 173) (by decide +kernel))) rfl
theorem gw_Im_l : Cond.initialized y_Im.cls ∈ bt_gw := bt_gin (bt_tin1 (List.mem_of_getElem? (i := 8) (by decide +kernel))) rfl
theorem dk_Im_0 : decode prog_5_method_1_code 0 = .ok (.aload_n 0, 1) := by decide +kernel
theorem dk_Im_1 : decode prog_5_method_1_code 1 = .ok (.invokespecial 3, 3) := by decide +kernel
theorem dk_Im_4 : decode prog_5_method_1_code 4 = .ok (.aload_n 0, 1) := by decide +kernel
theorem dk_Im_5 : decode prog_5_method_1_code 5 = .ok (.bipush 8, 2) := by decide +kernel
theorem dk_Im_7 : decode prog_5_method_1_code 7 = .ok (.newarray .int, 2) := by decide +kernel
theorem dk_Im_9 : decode prog_5_method_1_code 9 = .ok (.putfield 9, 3) := by decide +kernel
theorem dk_Im_12 : decode prog_5_method_1_code 12 = .ok (.aload_n 0, 1) := by decide +kernel
theorem dk_Im_13 : decode prog_5_method_1_code 13 = .ok (.bipush 8, 2) := by decide +kernel
theorem dk_Im_15 : decode prog_5_method_1_code 15 = .ok (.newarray .int, 2) := by decide +kernel
theorem dk_Im_17 : decode prog_5_method_1_code 17 = .ok (.putfield 15, 3) := by decide +kernel
theorem dk_Im_20 : decode prog_5_method_1_code 20 = .ok (.aload_n 0, 1) := by decide +kernel
theorem dk_Im_21 : decode prog_5_method_1_code 21 = .ok (.bipush 8, 2) := by decide +kernel
theorem dk_Im_23 : decode prog_5_method_1_code 23 = .ok (.newarray .int, 2) := by decide +kernel
theorem dk_Im_25 : decode prog_5_method_1_code 25 = .ok (.putfield 18, 3) := by decide +kernel
theorem dk_Im_28 : decode prog_5_method_1_code 28 = .ok (.aload_n 0, 1) := by decide +kernel
theorem dk_Im_29 : decode prog_5_method_1_code 29 = .ok (.bipush 8, 2) := by decide +kernel
theorem dk_Im_31 : decode prog_5_method_1_code 31 = .ok (.newarray .int, 2) := by decide +kernel
theorem dk_Im_33 : decode prog_5_method_1_code 33 = .ok (.putfield 21, 3) := by decide +kernel
theorem dk_Im_36 : decode prog_5_method_1_code 36 = .ok (.return_, 1) := by decide +kernel
def ec_Im (P : bt_PT) (n : Nat) : List va_E := [.inr (6, [.ref (n + 1), .ref (n + 2), .ref (n + 3), .ref (n + 4), .int 0, .int 0, .int 0]), .inl (bt_dA P 0, 8, .inl (fun _ => 0)), .inl (bt_dA P 0, 8, .inl (fun _ => 0)), .inl (bt_dA P 0, 8, .inl (fun _ => 0)), .inl (bt_dA P 0, 8, .inl (fun _ => 0))]
set_option maxHeartbeats 4000000 in
set_option maxRecDepth 100000 in
theorem cc_Im (P : bt_PT) (n : Nat) : Met (bt_l P) y_Im (Cond.code y_Im prog_5_method_1_code 1 none :: bt_gw) { frames := 1, cells := 4, slots := 32, locals := 40 } (crP P [.ref n] n [.inr (6, [.null, .null, .null, .null, .int 0, .int 0, .int 0])]) (crQ P n (ec_Im P n)) 4 32 (fun q => n ≤ q) := by
  refine Met.ofW (cc := prog_5_method_1_code) (maxL := 1) (ret := none) (by decide) rfl ?_
  intro p e s m args below meth c s₁ B hml hv
  obtain ⟨rfl, hz, hP, hK⟩ := hv
  have hx := B.exec
  have hb := B.bytes
  have hr := B.returns
  have hts0 := atoms_spec (ws := Cond.code y_Im prog_5_method_1_code 1 none :: bt_gw) B.pre
  have hts : ∀ w ∈ bt_gw, w.before _ s = true := fun w hw => hts0 w (List.mem_cons_of_mem _ hw)
  have hown : s.vm.findClass "BellTrees$Image" = some m.cls := findClass_of_methodNamed B.named
  have hlocks := B.notSynchronized
  have hin : meth.name = "<init>" := (name_of_methodNamed B.named B.method).1
  have hW : rwC (bt_D P) n [.inr (6, [.null, .null, .null, .null, .int 0, .int 0, .int 0])] s.heap s.heap [] := ⟨hz, hP, fun _ _ => rfl, fun l h => by cases h⟩
  have hl := lv_entry ([.ref n]) (n := 1) (Nat.le_of_ble_eq_true rfl)
  rw [lg_entry_eq]
  generalize (lg_sl ([.ref n]) ++ List.replicate (1 - (lg_sl ([.ref n])).length) Slot.unset).toArray = ls at hl ⊢
  have hl : lv_has ls 1 [(0, .ref n)] := hl
  refine lv_aload_n hx hb dk_Im_0 rfl (lv_at hl 0 rfl) ?_
  refine W.objInit hx hb hown (hts _ (bt_gin (bt_tin1 (List.mem_of_getElem? (i := 175) (by decide +kernel))) rfl)) (hts _ gw_oi) (hts _ gw_oc) rfl (by rw [hml]; exact hl.1) rfl dk_Im_1 (Nat.le_of_ble_eq_true rfl) (Nat.le_of_ble_eq_true rfl) ?_
  refine W.eq (g2 := F0 m 4 ls []) rfl ?_
  refine lv_aload_n hx hb dk_Im_4 rfl (lv_at hl 0 rfl) ?_
  refine lv_bipush hx hb dk_Im_5 rfl ?_
  refine cr_newa (atype := .int) (N' := 8) (a0 := (8, .inl (fun _ => 0))) hx hb (hts _ gw_aint) rfl (hK.2 0 _ rfl).2 hW (fun _ => rfl) (by decide) (by decide) (Nat.le_of_ble_eq_true rfl) (Nat.le_of_ble_eq_true rfl) (Nat.le_of_ble_eq_true rfl) dk_Im_7 (fun H hW => ?_)
  have hW : rwC (bt_D P) n [.inr (6, [.null, .null, .null, .null, .int 0, .int 0, .int 0]), .inl (bt_dA P 0, 8, .inl (fun _ => 0))] s.heap H [] := hW
  refine cr_putF (own := "BellTrees$Image") (C := bt_R6) (T := bt_T6) (N := 7) (j := 0) (ty := (.array .int)) (v := .ref (n + 1)) hx hb hts bt_inG6 bt_ty6 bt_tyok6 bt_nm6 hown hK hW rfl rfl 0 (by decide) (bt_gin (bt_tin1 (List.mem_of_getElem? (i := 176) (by decide +kernel))) rfl) rfl rfl hin rfl (by decide +kernel) rfl rfl (Nat.le_of_ble_eq_true rfl) dk_Im_9 rfl (fun H locs hW => ?_)
  have hW : rwC (bt_D P) n [.inr (6, [.ref (n + 1), .null, .null, .null, .int 0, .int 0, .int 0]), .inl (bt_dA P 0, 8, .inl (fun _ => 0))] s.heap H locs := hW
  refine lv_aload_n hx hb dk_Im_12 rfl (lv_at hl 0 rfl) ?_
  refine lv_bipush hx hb dk_Im_13 rfl ?_
  refine cr_newa (atype := .int) (N' := 8) (a0 := (8, .inl (fun _ => 0))) hx hb (hts _ gw_aint) rfl (hK.2 0 _ rfl).2 hW (fun _ => rfl) (by decide) (by decide) (Nat.le_of_ble_eq_true rfl) (Nat.le_of_ble_eq_true rfl) (Nat.le_of_ble_eq_true rfl) dk_Im_15 (fun H hW => ?_)
  have hW : rwC (bt_D P) n [.inr (6, [.ref (n + 1), .null, .null, .null, .int 0, .int 0, .int 0]), .inl (bt_dA P 0, 8, .inl (fun _ => 0)), .inl (bt_dA P 0, 8, .inl (fun _ => 0))] s.heap H locs := hW
  refine cr_putF (own := "BellTrees$Image") (C := bt_R6) (T := bt_T6) (N := 7) (j := 0) (ty := (.array .int)) (v := .ref (n + 2)) hx hb hts bt_inG6 bt_ty6 bt_tyok6 bt_nm6 hown hK hW rfl rfl 1 (by decide) (bt_gin (bt_tin1 (List.mem_of_getElem? (i := 177) (by decide +kernel))) rfl) rfl rfl hin rfl (by decide +kernel) rfl rfl (Nat.le_of_ble_eq_true rfl) dk_Im_17 rfl (fun H locs hW => ?_)
  have hW : rwC (bt_D P) n [.inr (6, [.ref (n + 1), .ref (n + 2), .null, .null, .int 0, .int 0, .int 0]), .inl (bt_dA P 0, 8, .inl (fun _ => 0)), .inl (bt_dA P 0, 8, .inl (fun _ => 0))] s.heap H locs := hW
  refine lv_aload_n hx hb dk_Im_20 rfl (lv_at hl 0 rfl) ?_
  refine lv_bipush hx hb dk_Im_21 rfl ?_
  refine cr_newa (atype := .int) (N' := 8) (a0 := (8, .inl (fun _ => 0))) hx hb (hts _ gw_aint) rfl (hK.2 0 _ rfl).2 hW (fun _ => rfl) (by decide) (by decide) (Nat.le_of_ble_eq_true rfl) (Nat.le_of_ble_eq_true rfl) (Nat.le_of_ble_eq_true rfl) dk_Im_23 (fun H hW => ?_)
  have hW : rwC (bt_D P) n [.inr (6, [.ref (n + 1), .ref (n + 2), .null, .null, .int 0, .int 0, .int 0]), .inl (bt_dA P 0, 8, .inl (fun _ => 0)), .inl (bt_dA P 0, 8, .inl (fun _ => 0)), .inl (bt_dA P 0, 8, .inl (fun _ => 0))] s.heap H locs := hW
  refine cr_putF (own := "BellTrees$Image") (C := bt_R6) (T := bt_T6) (N := 7) (j := 0) (ty := (.array .int)) (v := .ref (n + 3)) hx hb hts bt_inG6 bt_ty6 bt_tyok6 bt_nm6 hown hK hW rfl rfl 2 (by decide) (bt_gin (bt_tin1 (List.mem_of_getElem? (i := 178) (by decide +kernel))) rfl) rfl rfl hin rfl (by decide +kernel) rfl rfl (Nat.le_of_ble_eq_true rfl) dk_Im_25 rfl (fun H locs hW => ?_)
  have hW : rwC (bt_D P) n [.inr (6, [.ref (n + 1), .ref (n + 2), .ref (n + 3), .null, .int 0, .int 0, .int 0]), .inl (bt_dA P 0, 8, .inl (fun _ => 0)), .inl (bt_dA P 0, 8, .inl (fun _ => 0)), .inl (bt_dA P 0, 8, .inl (fun _ => 0))] s.heap H locs := hW
  refine lv_aload_n hx hb dk_Im_28 rfl (lv_at hl 0 rfl) ?_
  refine lv_bipush hx hb dk_Im_29 rfl ?_
  refine cr_newa (atype := .int) (N' := 8) (a0 := (8, .inl (fun _ => 0))) hx hb (hts _ gw_aint) rfl (hK.2 0 _ rfl).2 hW (fun _ => rfl) (by decide) (by decide) (Nat.le_of_ble_eq_true rfl) (Nat.le_of_ble_eq_true rfl) (Nat.le_of_ble_eq_true rfl) dk_Im_31 (fun H hW => ?_)
  have hW : rwC (bt_D P) n [.inr (6, [.ref (n + 1), .ref (n + 2), .ref (n + 3), .null, .int 0, .int 0, .int 0]), .inl (bt_dA P 0, 8, .inl (fun _ => 0)), .inl (bt_dA P 0, 8, .inl (fun _ => 0)), .inl (bt_dA P 0, 8, .inl (fun _ => 0)), .inl (bt_dA P 0, 8, .inl (fun _ => 0))] s.heap H locs := hW
  refine cr_putF (own := "BellTrees$Image") (C := bt_R6) (T := bt_T6) (N := 7) (j := 0) (ty := (.array .int)) (v := .ref (n + 4)) hx hb hts bt_inG6 bt_ty6 bt_tyok6 bt_nm6 hown hK hW rfl rfl 3 (by decide) (bt_gin (bt_tin1 (List.mem_of_getElem? (i := 179) (by decide +kernel))) rfl) rfl rfl hin rfl (by decide +kernel) rfl rfl (Nat.le_of_ble_eq_true rfl) dk_Im_33 rfl (fun H locs hW => ?_)
  have hW : rwC (bt_D P) n [.inr (6, [.ref (n + 1), .ref (n + 2), .ref (n + 3), .ref (n + 4), .int 0, .int 0, .int 0]), .inl (bt_dA P 0, 8, .inl (fun _ => 0)), .inl (bt_dA P 0, 8, .inl (fun _ => 0)), .inl (bt_dA P 0, 8, .inl (fun _ => 0)), .inl (bt_dA P 0, 8, .inl (fun _ => 0))] s.heap H locs := hW
  exact W.vret hx hb hr (fun t ht _ => ⟨rfl, by rw [ht]; exact ⟨hW.1, hW.2.1, hW.2.2.1, fun l h => by cases h⟩⟩) hW.2.2.2 dk_Im_36
def y_Bo : MethodName := ⟨"BellTrees$Bodies", "<init>", "()V"⟩
theorem gw_Bo_c : Cond.code y_Bo prog_2_method_1_code 1 none ∈ bt_gw := bt_gin (bt_tin1 (List.mem_of_getElem? (i := 202) (by decide +kernel))) rfl
theorem gw_Bo_i : Cond.instanceMethod y_Bo ∈ bt_gw := bt_gin (bt_tin1 (List.mem_of_getElem? (i := 201) (by decide +kernel))) rfl
theorem gw_Bo_l : Cond.initialized y_Bo.cls ∈ bt_gw := bt_gin (bt_tin1 (List.mem_of_getElem? (i := 9) (by decide +kernel))) rfl
theorem dk_Bo_0 : decode prog_2_method_1_code 0 = .ok (.aload_n 0, 1) := by decide +kernel
theorem dk_Bo_1 : decode prog_2_method_1_code 1 = .ok (.invokespecial 3, 3) := by decide +kernel
theorem dk_Bo_4 : decode prog_2_method_1_code 4 = .ok (.aload_n 0, 1) := by decide +kernel
theorem dk_Bo_5 : decode prog_2_method_1_code 5 = .ok (.bipush 50, 2) := by decide +kernel
theorem dk_Bo_7 : decode prog_2_method_1_code 7 = .ok (.newarray .int, 2) := by decide +kernel
theorem dk_Bo_9 : decode prog_2_method_1_code 9 = .ok (.putfield 11, 3) := by decide +kernel
theorem dk_Bo_12 : decode prog_2_method_1_code 12 = .ok (.aload_n 0, 1) := by decide +kernel
theorem dk_Bo_13 : decode prog_2_method_1_code 13 = .ok (.bipush 24, 2) := by decide +kernel
theorem dk_Bo_15 : decode prog_2_method_1_code 15 = .ok (.newarray .int, 2) := by decide +kernel
theorem dk_Bo_17 : decode prog_2_method_1_code 17 = .ok (.putfield 15, 3) := by decide +kernel
theorem dk_Bo_20 : decode prog_2_method_1_code 20 = .ok (.return_, 1) := by decide +kernel
def ec_Bo (P : bt_PT) (n : Nat) : List va_E := [.inr (7, [.ref (n + 1), .ref (n + 2), .int 0, .int 0, .int 0]), .inl (bt_dA P 0, 50, .inl (fun _ => 0)), .inl (bt_dA P 0, 24, .inl (fun _ => 0))]
set_option maxHeartbeats 4000000 in
set_option maxRecDepth 100000 in
theorem cc_Bo (P : bt_PT) (n : Nat) : Met (bt_l P) y_Bo (Cond.code y_Bo prog_2_method_1_code 1 none :: bt_gw) { frames := 1, cells := 2, slots := 74, locals := 40 } (crP P [.ref n] n [.inr (7, [.null, .null, .int 0, .int 0, .int 0])]) (crQ P n (ec_Bo P n)) 2 74 (fun q => n ≤ q) := by
  refine Met.ofW (cc := prog_2_method_1_code) (maxL := 1) (ret := none) (by decide) rfl ?_
  intro p e s m args below meth c s₁ B hml hv
  obtain ⟨rfl, hz, hP, hK⟩ := hv
  have hx := B.exec
  have hb := B.bytes
  have hr := B.returns
  have hts0 := atoms_spec (ws := Cond.code y_Bo prog_2_method_1_code 1 none :: bt_gw) B.pre
  have hts : ∀ w ∈ bt_gw, w.before _ s = true := fun w hw => hts0 w (List.mem_cons_of_mem _ hw)
  have hown : s.vm.findClass "BellTrees$Bodies" = some m.cls := findClass_of_methodNamed B.named
  have hlocks := B.notSynchronized
  have hin : meth.name = "<init>" := (name_of_methodNamed B.named B.method).1
  have hW : rwC (bt_D P) n [.inr (7, [.null, .null, .int 0, .int 0, .int 0])] s.heap s.heap [] := ⟨hz, hP, fun _ _ => rfl, fun l h => by cases h⟩
  have hl := lv_entry ([.ref n]) (n := 1) (Nat.le_of_ble_eq_true rfl)
  rw [lg_entry_eq]
  generalize (lg_sl ([.ref n]) ++ List.replicate (1 - (lg_sl ([.ref n])).length) Slot.unset).toArray = ls at hl ⊢
  have hl : lv_has ls 1 [(0, .ref n)] := hl
  refine lv_aload_n hx hb dk_Bo_0 rfl (lv_at hl 0 rfl) ?_
  refine W.objInit hx hb hown (hts _ (bt_gin (bt_tin1 (List.mem_of_getElem? (i := 203) (by decide +kernel))) rfl)) (hts _ gw_oi) (hts _ gw_oc) rfl (by rw [hml]; exact hl.1) rfl dk_Bo_1 (Nat.le_of_ble_eq_true rfl) (Nat.le_of_ble_eq_true rfl) ?_
  refine W.eq (g2 := F0 m 4 ls []) rfl ?_
  refine lv_aload_n hx hb dk_Bo_4 rfl (lv_at hl 0 rfl) ?_
  refine lv_bipush hx hb dk_Bo_5 rfl ?_
  refine cr_newa (atype := .int) (N' := 50) (a0 := (50, .inl (fun _ => 0))) hx hb (hts _ gw_aint) rfl (hK.2 0 _ rfl).2 hW (fun _ => rfl) (by decide) (by decide) (Nat.le_of_ble_eq_true rfl) (Nat.le_of_ble_eq_true rfl) (Nat.le_of_ble_eq_true rfl) dk_Bo_7 (fun H hW => ?_)
  have hW : rwC (bt_D P) n [.inr (7, [.null, .null, .int 0, .int 0, .int 0]), .inl (bt_dA P 0, 50, .inl (fun _ => 0))] s.heap H [] := hW
  refine cr_putF (own := "BellTrees$Bodies") (C := bt_R7) (T := bt_T7) (N := 5) (j := 0) (ty := (.array .int)) (v := .ref (n + 1)) hx hb hts bt_inG7 bt_ty7 bt_tyok7 bt_nm7 hown hK hW rfl rfl 0 (by decide) (bt_gin (bt_tin1 (List.mem_of_getElem? (i := 204) (by decide +kernel))) rfl) rfl rfl hin rfl (by decide +kernel) rfl rfl (Nat.le_of_ble_eq_true rfl) dk_Bo_9 rfl (fun H locs hW => ?_)
  have hW : rwC (bt_D P) n [.inr (7, [.ref (n + 1), .null, .int 0, .int 0, .int 0]), .inl (bt_dA P 0, 50, .inl (fun _ => 0))] s.heap H locs := hW
  refine lv_aload_n hx hb dk_Bo_12 rfl (lv_at hl 0 rfl) ?_
  refine lv_bipush hx hb dk_Bo_13 rfl ?_
  refine cr_newa (atype := .int) (N' := 24) (a0 := (24, .inl (fun _ => 0))) hx hb (hts _ gw_aint) rfl (hK.2 0 _ rfl).2 hW (fun _ => rfl) (by decide) (by decide) (Nat.le_of_ble_eq_true rfl) (Nat.le_of_ble_eq_true rfl) (Nat.le_of_ble_eq_true rfl) dk_Bo_15 (fun H hW => ?_)
  have hW : rwC (bt_D P) n [.inr (7, [.ref (n + 1), .null, .int 0, .int 0, .int 0]), .inl (bt_dA P 0, 50, .inl (fun _ => 0)), .inl (bt_dA P 0, 24, .inl (fun _ => 0))] s.heap H locs := hW
  refine cr_putF (own := "BellTrees$Bodies") (C := bt_R7) (T := bt_T7) (N := 5) (j := 0) (ty := (.array .int)) (v := .ref (n + 2)) hx hb hts bt_inG7 bt_ty7 bt_tyok7 bt_nm7 hown hK hW rfl rfl 1 (by decide) (bt_gin (bt_tin1 (List.mem_of_getElem? (i := 205) (by decide +kernel))) rfl) rfl rfl hin rfl (by decide +kernel) rfl rfl (Nat.le_of_ble_eq_true rfl) dk_Bo_17 rfl (fun H locs hW => ?_)
  have hW : rwC (bt_D P) n [.inr (7, [.ref (n + 1), .ref (n + 2), .int 0, .int 0, .int 0]), .inl (bt_dA P 0, 50, .inl (fun _ => 0)), .inl (bt_dA P 0, 24, .inl (fun _ => 0))] s.heap H locs := hW
  exact W.vret hx hb hr (fun t ht _ => ⟨rfl, by rw [ht]; exact ⟨hW.1, hW.2.1, hW.2.2.1, fun l h => by cases h⟩⟩) hW.2.2.2 dk_Bo_20
def y_Sh : MethodName := ⟨"BellTrees$Shelf", "<init>", "()V"⟩
theorem gw_Sh_c : Cond.code y_Sh prog_7_method_1_code 1 none ∈ bt_gw := bt_gin (bt_tin1 (List.mem_of_getElem? (i := 225) (by decide +kernel))) rfl
theorem gw_Sh_i : Cond.instanceMethod y_Sh ∈ bt_gw := bt_gin (bt_tin1 (List.mem_of_getElem? (i := 224) (by decide +kernel))) rfl
theorem gw_Sh_l : Cond.initialized y_Sh.cls ∈ bt_gw := bt_gin (bt_tin1 (List.mem_of_getElem? (i := 10) (by decide +kernel))) rfl
theorem dk_Sh_0 : decode prog_7_method_1_code 0 = .ok (.aload_n 0, 1) := by decide +kernel
theorem dk_Sh_1 : decode prog_7_method_1_code 1 = .ok (.invokespecial 3, 3) := by decide +kernel
theorem dk_Sh_4 : decode prog_7_method_1_code 4 = .ok (.aload_n 0, 1) := by decide +kernel
theorem dk_Sh_5 : decode prog_7_method_1_code 5 = .ok (.bipush 60, 2) := by decide +kernel
theorem dk_Sh_7 : decode prog_7_method_1_code 7 = .ok (.newarray .long, 2) := by decide +kernel
theorem dk_Sh_9 : decode prog_7_method_1_code 9 = .ok (.putfield 11, 3) := by decide +kernel
theorem dk_Sh_12 : decode prog_7_method_1_code 12 = .ok (.aload_n 0, 1) := by decide +kernel
theorem dk_Sh_13 : decode prog_7_method_1_code 13 = .ok (.iconst (-1), 1) := by decide +kernel
theorem dk_Sh_14 : decode prog_7_method_1_code 14 = .ok (.putfield 15, 3) := by decide +kernel
theorem dk_Sh_17 : decode prog_7_method_1_code 17 = .ok (.aload_n 0, 1) := by decide +kernel
theorem dk_Sh_18 : decode prog_7_method_1_code 18 = .ok (.iconst (-1), 1) := by decide +kernel
theorem dk_Sh_19 : decode prog_7_method_1_code 19 = .ok (.putfield 19, 3) := by decide +kernel
theorem dk_Sh_22 : decode prog_7_method_1_code 22 = .ok (.return_, 1) := by decide +kernel
def ec_Sh (P : bt_PT) (n : Nat) : List va_E := [.inr (8, [.ref (n + 1), .int (-1), .int (-1), .int 0]), .inl (bt_dA P 1, 60, .inr (.inl (fun _ => 0)))]
set_option maxHeartbeats 4000000 in
set_option maxRecDepth 100000 in
theorem cc_Sh (P : bt_PT) (n : Nat) : Met (bt_l P) y_Sh (Cond.code y_Sh prog_7_method_1_code 1 none :: bt_gw) { frames := 1, cells := 1, slots := 60, locals := 40 } (crP P [.ref n] n [.inr (8, [.null, .int 0, .int 0, .int 0])]) (crQ P n (ec_Sh P n)) 1 60 (fun q => n ≤ q) := by
  refine Met.ofW (cc := prog_7_method_1_code) (maxL := 1) (ret := none) (by decide) rfl ?_
  intro p e s m args below meth c s₁ B hml hv
  obtain ⟨rfl, hz, hP, hK⟩ := hv
  have hx := B.exec
  have hb := B.bytes
  have hr := B.returns
  have hts0 := atoms_spec (ws := Cond.code y_Sh prog_7_method_1_code 1 none :: bt_gw) B.pre
  have hts : ∀ w ∈ bt_gw, w.before _ s = true := fun w hw => hts0 w (List.mem_cons_of_mem _ hw)
  have hown : s.vm.findClass "BellTrees$Shelf" = some m.cls := findClass_of_methodNamed B.named
  have hlocks := B.notSynchronized
  have hin : meth.name = "<init>" := (name_of_methodNamed B.named B.method).1
  have hW : rwC (bt_D P) n [.inr (8, [.null, .int 0, .int 0, .int 0])] s.heap s.heap [] := ⟨hz, hP, fun _ _ => rfl, fun l h => by cases h⟩
  have hl := lv_entry ([.ref n]) (n := 1) (Nat.le_of_ble_eq_true rfl)
  rw [lg_entry_eq]
  generalize (lg_sl ([.ref n]) ++ List.replicate (1 - (lg_sl ([.ref n])).length) Slot.unset).toArray = ls at hl ⊢
  have hl : lv_has ls 1 [(0, .ref n)] := hl
  refine lv_aload_n hx hb dk_Sh_0 rfl (lv_at hl 0 rfl) ?_
  refine W.objInit hx hb hown (hts _ (bt_gin (bt_tin1 (List.mem_of_getElem? (i := 226) (by decide +kernel))) rfl)) (hts _ gw_oi) (hts _ gw_oc) rfl (by rw [hml]; exact hl.1) rfl dk_Sh_1 (Nat.le_of_ble_eq_true rfl) (Nat.le_of_ble_eq_true rfl) ?_
  refine W.eq (g2 := F0 m 4 ls []) rfl ?_
  refine lv_aload_n hx hb dk_Sh_4 rfl (lv_at hl 0 rfl) ?_
  refine lv_bipush hx hb dk_Sh_5 rfl ?_
  refine cr_newa (atype := .long) (N' := 60) (a0 := (60, .inr (.inl (fun _ => 0)))) hx hb (hts _ gw_along) rfl (hK.2 1 _ rfl).2 hW (fun _ => rfl) (by decide) (by decide) (Nat.le_of_ble_eq_true rfl) (Nat.le_of_ble_eq_true rfl) (Nat.le_of_ble_eq_true rfl) dk_Sh_7 (fun H hW => ?_)
  have hW : rwC (bt_D P) n [.inr (8, [.null, .int 0, .int 0, .int 0]), .inl (bt_dA P 1, 60, .inr (.inl (fun _ => 0)))] s.heap H [] := hW
  refine cr_putF (own := "BellTrees$Shelf") (C := bt_R8) (T := bt_T8) (N := 4) (j := 0) (ty := (.array .long)) (v := .ref (n + 1)) hx hb hts bt_inG8 bt_ty8 bt_tyok8 bt_nm8 hown hK hW rfl rfl 0 (by decide) (bt_gin (bt_tin1 (List.mem_of_getElem? (i := 227) (by decide +kernel))) rfl) rfl rfl hin rfl (by decide +kernel) rfl rfl (Nat.le_of_ble_eq_true rfl) dk_Sh_9 rfl (fun H locs hW => ?_)
  have hW : rwC (bt_D P) n [.inr (8, [.ref (n + 1), .int 0, .int 0, .int 0]), .inl (bt_dA P 1, 60, .inr (.inl (fun _ => 0)))] s.heap H locs := hW
  refine lv_aload_n hx hb dk_Sh_12 rfl (lv_at hl 0 rfl) ?_
  refine lv_iconst (v := (-1)) hx hb dk_Sh_13 rfl ?_
  refine cr_put (own := "BellTrees$Shelf") (C := bt_R8) (T := bt_T8) (N := 4) (j := 0) (ty := .int) (v := .int (-1)) hx hb hts bt_inG8 bt_ty8 bt_tyok8 bt_nm8 hown hK hW rfl rfl 1 (by decide) (bt_gin (bt_tin1 (List.mem_of_getElem? (i := 228) (by decide +kernel))) rfl) rfl rfl (by decide +kernel) rfl rfl (Nat.le_of_ble_eq_true rfl) dk_Sh_14 rfl (fun H locs hW => ?_)
  have hW : rwC (bt_D P) n [.inr (8, [.ref (n + 1), .int (-1), .int 0, .int 0]), .inl (bt_dA P 1, 60, .inr (.inl (fun _ => 0)))] s.heap H locs := hW
  refine lv_aload_n hx hb dk_Sh_17 rfl (lv_at hl 0 rfl) ?_
  refine lv_iconst (v := (-1)) hx hb dk_Sh_18 rfl ?_
  refine cr_put (own := "BellTrees$Shelf") (C := bt_R8) (T := bt_T8) (N := 4) (j := 0) (ty := .int) (v := .int (-1)) hx hb hts bt_inG8 bt_ty8 bt_tyok8 bt_nm8 hown hK hW rfl rfl 2 (by decide) (bt_gin (bt_tin1 (List.mem_of_getElem? (i := 229) (by decide +kernel))) rfl) rfl rfl (by decide +kernel) rfl rfl (Nat.le_of_ble_eq_true rfl) dk_Sh_19 rfl (fun H locs hW => ?_)
  have hW : rwC (bt_D P) n [.inr (8, [.ref (n + 1), .int (-1), .int (-1), .int 0]), .inl (bt_dA P 1, 60, .inr (.inl (fun _ => 0)))] s.heap H locs := hW
  exact W.vret hx hb hr (fun t ht _ => ⟨rfl, by rw [ht]; exact ⟨hW.1, hW.2.1, hW.2.2.1, fun l h => by cases h⟩⟩) hW.2.2.2 dk_Sh_22
def y_La : MethodName := ⟨"BellTrees$Law", "<init>", "()V"⟩
theorem gw_La_c : Cond.code y_La prog_6_method_1_code 1 none ∈ bt_gw := bt_gin (bt_tin1 (List.mem_of_getElem? (i := 63) (by decide +kernel))) rfl
theorem gw_La_i : Cond.instanceMethod y_La ∈ bt_gw := bt_gin (bt_tin1 (List.mem_of_getElem? (i := 62) (by decide +kernel))) rfl
theorem gw_La_l : Cond.initialized y_La.cls ∈ bt_gw := bt_gin (bt_tin1 (List.mem_of_getElem? (i := 4) (by decide +kernel))) rfl
theorem dk_La_0 : decode prog_6_method_1_code 0 = .ok (.aload_n 0, 1) := by decide +kernel
theorem dk_La_1 : decode prog_6_method_1_code 1 = .ok (.invokespecial 3, 3) := by decide +kernel
theorem dk_La_4 : decode prog_6_method_1_code 4 = .ok (.aload_n 0, 1) := by decide +kernel
theorem dk_La_5 : decode prog_6_method_1_code 5 = .ok (.bipush 120, 2) := by decide +kernel
theorem dk_La_7 : decode prog_6_method_1_code 7 = .ok (.newarray .int, 2) := by decide +kernel
theorem dk_La_9 : decode prog_6_method_1_code 9 = .ok (.putfield 11, 3) := by decide +kernel
theorem dk_La_12 : decode prog_6_method_1_code 12 = .ok (.aload_n 0, 1) := by decide +kernel
theorem dk_La_13 : decode prog_6_method_1_code 13 = .ok (.sipush 128, 3) := by decide +kernel
theorem dk_La_16 : decode prog_6_method_1_code 16 = .ok (.newarray .int, 2) := by decide +kernel
theorem dk_La_18 : decode prog_6_method_1_code 18 = .ok (.putfield 15, 3) := by decide +kernel
theorem dk_La_21 : decode prog_6_method_1_code 21 = .ok (.aload_n 0, 1) := by decide +kernel
theorem dk_La_22 : decode prog_6_method_1_code 22 = .ok (.sipush 128, 3) := by decide +kernel
theorem dk_La_25 : decode prog_6_method_1_code 25 = .ok (.newarray .int, 2) := by decide +kernel
theorem dk_La_27 : decode prog_6_method_1_code 27 = .ok (.putfield 18, 3) := by decide +kernel
theorem dk_La_30 : decode prog_6_method_1_code 30 = .ok (.aload_n 0, 1) := by decide +kernel
theorem dk_La_31 : decode prog_6_method_1_code 31 = .ok (.sipush 128, 3) := by decide +kernel
theorem dk_La_34 : decode prog_6_method_1_code 34 = .ok (.newarray .int, 2) := by decide +kernel
theorem dk_La_36 : decode prog_6_method_1_code 36 = .ok (.putfield 21, 3) := by decide +kernel
theorem dk_La_39 : decode prog_6_method_1_code 39 = .ok (.return_, 1) := by decide +kernel
def ec_La (P : bt_PT) (n : Nat) : List va_E := [.inr (2, [.ref (n + 1), .ref (n + 2), .ref (n + 3), .ref (n + 4), .int 0, .int 0, .int 0, .int 0, .int 0, .int 0, .int 0, .int 0, .int 0, .int 0, .int 0]), .inl (bt_dA P 0, 120, .inl (fun _ => 0)), .inl (bt_dA P 0, 128, .inl (fun _ => 0)), .inl (bt_dA P 0, 128, .inl (fun _ => 0)), .inl (bt_dA P 0, 128, .inl (fun _ => 0))]
set_option maxHeartbeats 4000000 in
set_option maxRecDepth 100000 in
theorem cc_La (P : bt_PT) (n : Nat) : Met (bt_l P) y_La (Cond.code y_La prog_6_method_1_code 1 none :: bt_gw) { frames := 1, cells := 4, slots := 504, locals := 40 } (crP P [.ref n] n [.inr (2, [.null, .null, .null, .null, .int 0, .int 0, .int 0, .int 0, .int 0, .int 0, .int 0, .int 0, .int 0, .int 0, .int 0])]) (crQ P n (ec_La P n)) 4 504 (fun q => n ≤ q) := by
  refine Met.ofW (cc := prog_6_method_1_code) (maxL := 1) (ret := none) (by decide) rfl ?_
  intro p e s m args below meth c s₁ B hml hv
  obtain ⟨rfl, hz, hP, hK⟩ := hv
  have hx := B.exec
  have hb := B.bytes
  have hr := B.returns
  have hts0 := atoms_spec (ws := Cond.code y_La prog_6_method_1_code 1 none :: bt_gw) B.pre
  have hts : ∀ w ∈ bt_gw, w.before _ s = true := fun w hw => hts0 w (List.mem_cons_of_mem _ hw)
  have hown : s.vm.findClass "BellTrees$Law" = some m.cls := findClass_of_methodNamed B.named
  have hlocks := B.notSynchronized
  have hin : meth.name = "<init>" := (name_of_methodNamed B.named B.method).1
  have hW : rwC (bt_D P) n [.inr (2, [.null, .null, .null, .null, .int 0, .int 0, .int 0, .int 0, .int 0, .int 0, .int 0, .int 0, .int 0, .int 0, .int 0])] s.heap s.heap [] := ⟨hz, hP, fun _ _ => rfl, fun l h => by cases h⟩
  have hl := lv_entry ([.ref n]) (n := 1) (Nat.le_of_ble_eq_true rfl)
  rw [lg_entry_eq]
  generalize (lg_sl ([.ref n]) ++ List.replicate (1 - (lg_sl ([.ref n])).length) Slot.unset).toArray = ls at hl ⊢
  have hl : lv_has ls 1 [(0, .ref n)] := hl
  refine lv_aload_n hx hb dk_La_0 rfl (lv_at hl 0 rfl) ?_
  refine W.objInit hx hb hown (hts _ (bt_gin (bt_tin1 (List.mem_of_getElem? (i := 64) (by decide +kernel))) rfl)) (hts _ gw_oi) (hts _ gw_oc) rfl (by rw [hml]; exact hl.1) rfl dk_La_1 (Nat.le_of_ble_eq_true rfl) (Nat.le_of_ble_eq_true rfl) ?_
  refine W.eq (g2 := F0 m 4 ls []) rfl ?_
  refine lv_aload_n hx hb dk_La_4 rfl (lv_at hl 0 rfl) ?_
  refine lv_bipush hx hb dk_La_5 rfl ?_
  refine cr_newa (atype := .int) (N' := 120) (a0 := (120, .inl (fun _ => 0))) hx hb (hts _ gw_aint) rfl (hK.2 0 _ rfl).2 hW (fun _ => rfl) (by decide) (by decide) (Nat.le_of_ble_eq_true rfl) (Nat.le_of_ble_eq_true rfl) (Nat.le_of_ble_eq_true rfl) dk_La_7 (fun H hW => ?_)
  have hW : rwC (bt_D P) n [.inr (2, [.null, .null, .null, .null, .int 0, .int 0, .int 0, .int 0, .int 0, .int 0, .int 0, .int 0, .int 0, .int 0, .int 0]), .inl (bt_dA P 0, 120, .inl (fun _ => 0))] s.heap H [] := hW
  refine cr_putF (own := "BellTrees$Law") (C := bt_R2) (T := bt_T2) (N := 15) (j := 0) (ty := (.array .int)) (v := .ref (n + 1)) hx hb hts bt_inG2 bt_ty2 bt_tyok2 bt_nm2 hown hK hW rfl rfl 0 (by decide) (bt_gin (bt_tin1 (List.mem_of_getElem? (i := 65) (by decide +kernel))) rfl) rfl rfl hin rfl (by decide +kernel) rfl rfl (Nat.le_of_ble_eq_true rfl) dk_La_9 rfl (fun H locs hW => ?_)
  have hW : rwC (bt_D P) n [.inr (2, [.ref (n + 1), .null, .null, .null, .int 0, .int 0, .int 0, .int 0, .int 0, .int 0, .int 0, .int 0, .int 0, .int 0, .int 0]), .inl (bt_dA P 0, 120, .inl (fun _ => 0))] s.heap H locs := hW
  refine lv_aload_n hx hb dk_La_12 rfl (lv_at hl 0 rfl) ?_
  refine lv_sipush hx hb dk_La_13 rfl ?_
  refine cr_newa (atype := .int) (N' := 128) (a0 := (128, .inl (fun _ => 0))) hx hb (hts _ gw_aint) rfl (hK.2 0 _ rfl).2 hW (fun _ => rfl) (by decide) (by decide) (Nat.le_of_ble_eq_true rfl) (Nat.le_of_ble_eq_true rfl) (Nat.le_of_ble_eq_true rfl) dk_La_16 (fun H hW => ?_)
  have hW : rwC (bt_D P) n [.inr (2, [.ref (n + 1), .null, .null, .null, .int 0, .int 0, .int 0, .int 0, .int 0, .int 0, .int 0, .int 0, .int 0, .int 0, .int 0]), .inl (bt_dA P 0, 120, .inl (fun _ => 0)), .inl (bt_dA P 0, 128, .inl (fun _ => 0))] s.heap H locs := hW
  refine cr_putF (own := "BellTrees$Law") (C := bt_R2) (T := bt_T2) (N := 15) (j := 0) (ty := (.array .int)) (v := .ref (n + 2)) hx hb hts bt_inG2 bt_ty2 bt_tyok2 bt_nm2 hown hK hW rfl rfl 1 (by decide) (bt_gin (bt_tin1 (List.mem_of_getElem? (i := 66) (by decide +kernel))) rfl) rfl rfl hin rfl (by decide +kernel) rfl rfl (Nat.le_of_ble_eq_true rfl) dk_La_18 rfl (fun H locs hW => ?_)
  have hW : rwC (bt_D P) n [.inr (2, [.ref (n + 1), .ref (n + 2), .null, .null, .int 0, .int 0, .int 0, .int 0, .int 0, .int 0, .int 0, .int 0, .int 0, .int 0, .int 0]), .inl (bt_dA P 0, 120, .inl (fun _ => 0)), .inl (bt_dA P 0, 128, .inl (fun _ => 0))] s.heap H locs := hW
  refine lv_aload_n hx hb dk_La_21 rfl (lv_at hl 0 rfl) ?_
  refine lv_sipush hx hb dk_La_22 rfl ?_
  refine cr_newa (atype := .int) (N' := 128) (a0 := (128, .inl (fun _ => 0))) hx hb (hts _ gw_aint) rfl (hK.2 0 _ rfl).2 hW (fun _ => rfl) (by decide) (by decide) (Nat.le_of_ble_eq_true rfl) (Nat.le_of_ble_eq_true rfl) (Nat.le_of_ble_eq_true rfl) dk_La_25 (fun H hW => ?_)
  have hW : rwC (bt_D P) n [.inr (2, [.ref (n + 1), .ref (n + 2), .null, .null, .int 0, .int 0, .int 0, .int 0, .int 0, .int 0, .int 0, .int 0, .int 0, .int 0, .int 0]), .inl (bt_dA P 0, 120, .inl (fun _ => 0)), .inl (bt_dA P 0, 128, .inl (fun _ => 0)), .inl (bt_dA P 0, 128, .inl (fun _ => 0))] s.heap H locs := hW
  refine cr_putF (own := "BellTrees$Law") (C := bt_R2) (T := bt_T2) (N := 15) (j := 0) (ty := (.array .int)) (v := .ref (n + 3)) hx hb hts bt_inG2 bt_ty2 bt_tyok2 bt_nm2 hown hK hW rfl rfl 2 (by decide) (bt_gin (bt_tin1 (List.mem_of_getElem? (i := 67) (by decide +kernel))) rfl) rfl rfl hin rfl (by decide +kernel) rfl rfl (Nat.le_of_ble_eq_true rfl) dk_La_27 rfl (fun H locs hW => ?_)
  have hW : rwC (bt_D P) n [.inr (2, [.ref (n + 1), .ref (n + 2), .ref (n + 3), .null, .int 0, .int 0, .int 0, .int 0, .int 0, .int 0, .int 0, .int 0, .int 0, .int 0, .int 0]), .inl (bt_dA P 0, 120, .inl (fun _ => 0)), .inl (bt_dA P 0, 128, .inl (fun _ => 0)), .inl (bt_dA P 0, 128, .inl (fun _ => 0))] s.heap H locs := hW
  refine lv_aload_n hx hb dk_La_30 rfl (lv_at hl 0 rfl) ?_
  refine lv_sipush hx hb dk_La_31 rfl ?_
  refine cr_newa (atype := .int) (N' := 128) (a0 := (128, .inl (fun _ => 0))) hx hb (hts _ gw_aint) rfl (hK.2 0 _ rfl).2 hW (fun _ => rfl) (by decide) (by decide) (Nat.le_of_ble_eq_true rfl) (Nat.le_of_ble_eq_true rfl) (Nat.le_of_ble_eq_true rfl) dk_La_34 (fun H hW => ?_)
  have hW : rwC (bt_D P) n [.inr (2, [.ref (n + 1), .ref (n + 2), .ref (n + 3), .null, .int 0, .int 0, .int 0, .int 0, .int 0, .int 0, .int 0, .int 0, .int 0, .int 0, .int 0]), .inl (bt_dA P 0, 120, .inl (fun _ => 0)), .inl (bt_dA P 0, 128, .inl (fun _ => 0)), .inl (bt_dA P 0, 128, .inl (fun _ => 0)), .inl (bt_dA P 0, 128, .inl (fun _ => 0))] s.heap H locs := hW
  refine cr_putF (own := "BellTrees$Law") (C := bt_R2) (T := bt_T2) (N := 15) (j := 0) (ty := (.array .int)) (v := .ref (n + 4)) hx hb hts bt_inG2 bt_ty2 bt_tyok2 bt_nm2 hown hK hW rfl rfl 3 (by decide) (bt_gin (bt_tin1 (List.mem_of_getElem? (i := 68) (by decide +kernel))) rfl) rfl rfl hin rfl (by decide +kernel) rfl rfl (Nat.le_of_ble_eq_true rfl) dk_La_36 rfl (fun H locs hW => ?_)
  have hW : rwC (bt_D P) n [.inr (2, [.ref (n + 1), .ref (n + 2), .ref (n + 3), .ref (n + 4), .int 0, .int 0, .int 0, .int 0, .int 0, .int 0, .int 0, .int 0, .int 0, .int 0, .int 0]), .inl (bt_dA P 0, 120, .inl (fun _ => 0)), .inl (bt_dA P 0, 128, .inl (fun _ => 0)), .inl (bt_dA P 0, 128, .inl (fun _ => 0)), .inl (bt_dA P 0, 128, .inl (fun _ => 0))] s.heap H locs := hW
  exact W.vret hx hb hr (fun t ht _ => ⟨rfl, by rw [ht]; exact ⟨hW.1, hW.2.1, hW.2.2.1, fun l h => by cases h⟩⟩) hW.2.2.2 dk_La_39
