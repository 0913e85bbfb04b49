/-! printed by wip/whole/genctor3.py: the Forest is made -/
section MAT
variable {p : Program} {l : Launch} {e : Env} {R : Room} {s : State} {m : MethodId} {args : Array Value} {below : List Frame} {meth : Method} {c : Code} {H H0 : Heap} {locs : List Loc} {cells slots : Nat} {Q : State → Prop} {cc : ByteArray} {pc n : Nat} {ls : Array Slot} {rest : List Value} {D : va_G} {E : List va_E}
theorem cr_aaldS {j a v n1 : Nat} {cA : ClassId} {f : Nat → Option Nat} (hexec : p.tables.exec = Jvm.exec) (hb : c.code = cc) (hAr : ArrOfT s cA (.array .int)) (hW : rwC D n E H0 H locs) (hj : E[j]? = some (.inl (cA, n1, .inr (.inr (.inr (.inr f)))))) {i : Int32} (hin : vp_in i n1) (hv : f i.toNatClampNeg = some v) (hdg : decode cc pc = .ok (.aaload, 1)) (hadr : a = n + j)
    (kk : W p l e R s m args below meth c H locs cells slots Q (F0 m (pc + 1) ls (.ref v :: rest))) : W p l e R s m args below meth c H locs cells slots Q (F0 m pc ls (.int i :: .ref a :: rest)) := by
  refine cr_aald hexec hb hAr hW hj hin hdg hadr ?_
  rw [hv]
  exact kk
end MAT
def y_Fo : MethodName := ⟨"BellTrees$Forest", "<init>", "()V"⟩
theorem gw_Fo_c : Cond.code y_Fo prog_4_method_1_code 1 none ∈ bt_gw := bt_gin (bt_tin1 (List.mem_of_getElem? (i := 27) (by decide +kernel))) rfl
theorem gw_Fo_i : Cond.instanceMethod y_Fo ∈ bt_gw := bt_gin (bt_tin1 (List.mem_of_getElem? (i := 26) (by decide +kernel))) rfl
theorem gw_Fo_l : Cond.initialized y_Fo.cls ∈ bt_gw := bt_gin (bt_tin1 (List.mem_of_getElem? (i := 2) (by decide +kernel))) rfl
theorem dk_Fo_0 : decode prog_4_method_1_code 0 = .ok (.aload_n 0, 1) := by decide +kernel
theorem dk_Fo_1 : decode prog_4_method_1_code 1 = .ok (.invokespecial 3, 3) := by decide +kernel
theorem dk_Fo_4 : decode prog_4_method_1_code 4 = .ok (.aload_n 0, 1) := by decide +kernel
theorem dk_Fo_5 : decode prog_4_method_1_code 5 = .ok (.getstatic 9, 3) := by decide +kernel
theorem dk_Fo_8 : decode prog_4_method_1_code 8 = .ok (.arraylength, 1) := by decide +kernel
theorem dk_Fo_9 : decode prog_4_method_1_code 9 = .ok (.bipush 24, 2) := by decide +kernel
theorem dk_Fo_11 : decode prog_4_method_1_code 11 = .ok (.multianewarray 15 2, 4) := by decide +kernel
theorem dk_Fo_15 : decode prog_4_method_1_code 15 = .ok (.putfield 17, 3) := by decide +kernel
theorem dk_Fo_18 : decode prog_4_method_1_code 18 = .ok (.aload_n 0, 1) := by decide +kernel
theorem dk_Fo_19 : decode prog_4_method_1_code 19 = .ok (.bipush 8, 2) := by decide +kernel
theorem dk_Fo_21 : decode prog_4_method_1_code 21 = .ok (.newarray .int, 2) := by decide +kernel
theorem dk_Fo_23 : decode prog_4_method_1_code 23 = .ok (.putfield 20, 3) := by decide +kernel
theorem dk_Fo_26 : decode prog_4_method_1_code 26 = .ok (.aload_n 0, 1) := by decide +kernel
theorem dk_Fo_27 : decode prog_4_method_1_code 27 = .ok (.bipush 8, 2) := by decide +kernel
theorem dk_Fo_29 : decode prog_4_method_1_code 29 = .ok (.newarray .int, 2) := by decide +kernel
theorem dk_Fo_31 : decode prog_4_method_1_code 31 = .ok (.putfield 23, 3) := by decide +kernel
theorem dk_Fo_34 : decode prog_4_method_1_code 34 = .ok (.aload_n 0, 1) := by decide +kernel
theorem dk_Fo_35 : decode prog_4_method_1_code 35 = .ok (.bipush 8, 2) := by decide +kernel
theorem dk_Fo_37 : decode prog_4_method_1_code 37 = .ok (.newarray .int, 2) := by decide +kernel
theorem dk_Fo_39 : decode prog_4_method_1_code 39 = .ok (.putfield 26, 3) := by decide +kernel
theorem dk_Fo_42 : decode prog_4_method_1_code 42 = .ok (.aload_n 0, 1) := by decide +kernel
theorem dk_Fo_43 : decode prog_4_method_1_code 43 = .ok (.getfield 17, 3) := by decide +kernel
theorem dk_Fo_46 : decode prog_4_method_1_code 46 = .ok (.iconst 4, 1) := by decide +kernel
theorem dk_Fo_47 : decode prog_4_method_1_code 47 = .ok (.aaload, 1) := by decide +kernel
theorem dk_Fo_48 : decode prog_4_method_1_code 48 = .ok (.iconst 2, 1) := by decide +kernel
theorem dk_Fo_49 : decode prog_4_method_1_code 49 = .ok (.invokestatic 29, 3) := by decide +kernel
theorem dk_Fo_52 : decode prog_4_method_1_code 52 = .ok (.aload_n 0, 1) := by decide +kernel
theorem dk_Fo_53 : decode prog_4_method_1_code 53 = .ok (.getfield 17, 3) := by decide +kernel
theorem dk_Fo_56 : decode prog_4_method_1_code 56 = .ok (.iconst 5, 1) := by decide +kernel
theorem dk_Fo_57 : decode prog_4_method_1_code 57 = .ok (.aaload, 1) := by decide +kernel
theorem dk_Fo_58 : decode prog_4_method_1_code 58 = .ok (.iconst 5, 1) := by decide +kernel
theorem dk_Fo_59 : decode prog_4_method_1_code 59 = .ok (.invokestatic 29, 3) := by decide +kernel
theorem dk_Fo_62 : decode prog_4_method_1_code 62 = .ok (.return_, 1) := by decide +kernel
theorem bs_Fo_29x : Cond.methodLink "BellTrees$Forest" 29 mi_JA_fillI.1 ∈ bt_gw := bt_gin (bt_tin1 (List.mem_of_getElem? (i := 33) (by decide +kernel))) rfl
def ec_Fo (P : bt_PT) (n : Nat) : List va_E := ((((.inr (1, [.ref (n + 1), .ref (n + 10), .ref (n + 11), .ref (n + 12), .int 0, .int 0, .int 0])) :: (moE (n + 1) 8 24 (bt_dA P 4) (bt_dA P 0) ++ [.inl (bt_dA P 0, 8, .inl (fun _ => 0))] ++ [.inl (bt_dA P 0, 8, .inl (fun _ => 0))] ++ [.inl (bt_dA P 0, 8, .inl (fun _ => 0))]))).set 6 (.inl (bt_dA P 0, 24, .inl (fun _ => 2)))).set 7 (.inl (bt_dA P 0, 24, .inl (fun _ => 5)))
def pc_Fo (P : bt_PT) (n : Nat) : Array Value → State → Prop := fun v U => crP P [.ref n] n [.inr (1, [.null, .null, .null, .null, .int 0, .int 0, .int 0])] v U ∧ mo_AO U ∧ bt_SF P U U.heap
set_option maxHeartbeats 4000000 in
set_option maxRecDepth 100000 in
theorem cc_Fo (P : bt_PT) (n : Nat) (hB : bt_B P ≤ n) : Met (bt_l P) y_Fo (Cond.code y_Fo prog_4_method_1_code 1 none :: bt_gw) { frames := 1, cells := 12, slots := 224, locals := 40 } (pc_Fo P n) (crQ P n (ec_Fo P n)) 12 224 (fun q => n ≤ q) := by
  refine Met.ofW (cc := prog_4_method_1_code) (maxL := 1) (ret := none) (by decide) rfl ?_
  intro p e s m args below meth c s₁ B hml hv
  obtain ⟨⟨rfl, hz, hP, hK⟩, hAO, hSF⟩ := hv
  have hx := B.exec
  have hb := B.bytes
  have hr := B.returns
  have hts0 := atoms_spec (ws := Cond.code y_Fo prog_4_method_1_code 1 none :: bt_gw) B.pre
  have hts : ∀ w ∈ bt_gw, w.before _ s = true := fun w hw => hts0 w (List.mem_cons_of_mem _ hw)
  have hown : s.vm.findClass "BellTrees$Forest" = some m.cls := findClass_of_methodNamed B.named
  have hlocks := B.notSynchronized
  have hin : meth.name = "<init>" := (name_of_methodNamed B.named B.method).1
  have hW : rwC (bt_D P) n [.inr (1, [.null, .null, .null, .null, .int 0, .int 0, .int 0])] s.heap s.heap [] := ⟨hz, hP, fun _ _ => rfl, fun l h => by cases h⟩
  have hz : s.heap.size = n + 1 := hz
  have hl := lv_entry ([.ref n] : List Value) (n := 1) (Nat.le_of_ble_eq_true rfl)
  rw [lg_entry_eq]
  generalize (lg_sl ([.ref n] : List Value) ++ List.replicate (1 - (lg_sl ([.ref n] : List Value)).length) Slot.unset).toArray = ls at hl ⊢
  have hl : lv_has ls 1 [(0, .ref n)] := hl
  refine lv_aload_n hx hb dk_Fo_0 rfl (lv_at hl 0 rfl) ?_
  refine W.objInit hx hb hown (hts _ (bt_gin (bt_tin1 (List.mem_of_getElem? (i := 28) (by decide +kernel))) rfl)) (hts _ gw_oi) (hts _ gw_oc) rfl (by rw [hml]; exact hl.1) rfl dk_Fo_1 (Nat.le_of_ble_eq_true rfl) (Nat.le_of_ble_eq_true rfl) ?_
  refine W.eq (g2 := F0 m 4 ls []) rfl ?_
  refine lv_aload_n hx hb dk_Fo_4 rfl (lv_at hl 0 rfl) ?_
  refine va_gets hx hb (hSF.1 0 (by decide)) (cr_S hW (fun q hq => Nat.le_trans hB hq) (by rw [hz]; exact Nat.add_le_add_left (Nat.le_of_ble_eq_true rfl) n)) hown (hts _ ls_Fo_9.2) (fun _ h => h) dk_Fo_5 ?_
  refine va_tlen (v := 8) hx hb (hSF.2 0 (by decide)) (cr_S hW (fun q hq => Nat.le_trans hB hq) (by rw [hz]; exact Nat.add_le_add_left (Nat.le_of_ble_eq_true rfl) n)) rfl dk_Fo_8 ?_
  refine lv_bipush hx hb dk_Fo_9 rfl ?_
  refine cr_mna (N' := 8) (K' := 24) hx hb hown (hts _ (show Cond.classLink "BellTrees$Forest" 15 ("[" ++ (FieldType.array .int).toString) ∈ bt_gw from bt_gin (bt_tin1 (List.mem_of_getElem? (i := 31) (by decide +kernel))) rfl)) hAO (hts _ gw_aint) (hK.2 4 _ rfl).2 (hK.2 0 _ rfl).2 hW (by decide) (by decide) (by decide) (by decide) (Nat.le_of_ble_eq_true rfl) (Nat.le_of_ble_eq_true rfl) (Nat.le_of_ble_eq_true rfl) (Nat.le_of_ble_eq_true rfl) (Nat.le_of_ble_eq_true rfl) dk_Fo_11 (fun H hW => ?_)
  have hW : rwC (bt_D P) n ((.inr (1, [.null, .null, .null, .null, .int 0, .int 0, .int 0])) :: (moE (n + 1) 8 24 (bt_dA P 4) (bt_dA P 0))) s.heap H [] := hW
  refine cr_putF (own := "BellTrees$Forest") (C := bt_R1) (T := bt_T1) (N := 7) (j := 0) (ty := (.array (.array .int))) (v := .ref (n + 1)) hx hb hts bt_inG1 bt_ty1 bt_tyok1 bt_nm1 hown hK hW rfl rfl 0 (by decide) (bt_gin (bt_tin1 (List.mem_of_getElem? (i := 36) (by decide +kernel))) rfl) rfl rfl hin rfl (by decide +kernel) rfl rfl (Nat.le_of_ble_eq_true rfl) dk_Fo_15 rfl (fun H locs hW => ?_)
  have hW : rwC (bt_D P) n ((.inr (1, [.ref (n + 1), .null, .null, .null, .int 0, .int 0, .int 0])) :: (moE (n + 1) 8 24 (bt_dA P 4) (bt_dA P 0))) s.heap H locs := hW
  refine lv_aload_n hx hb dk_Fo_18 rfl (lv_at hl 0 rfl) ?_
  refine lv_bipush hx hb dk_Fo_19 rfl ?_
  refine cr_newa (atype := .int) (N' := 8) (a0 := (8, .inl (fun _ => 0))) hx hb (hts _ gw_aint) rfl (hK.2 0 _ rfl).2 hW (fun _ => rfl) (by decide) (by decide) (Nat.le_of_ble_eq_true rfl) (Nat.le_of_ble_eq_true rfl) (Nat.le_of_ble_eq_true rfl) dk_Fo_21 (fun H hW => ?_)
  have hW : rwC (bt_D P) n ((.inr (1, [.ref (n + 1), .null, .null, .null, .int 0, .int 0, .int 0])) :: (moE (n + 1) 8 24 (bt_dA P 4) (bt_dA P 0) ++ [.inl (bt_dA P 0, 8, .inl (fun _ => 0))])) s.heap H locs := hW
  refine cr_putF (own := "BellTrees$Forest") (C := bt_R1) (T := bt_T1) (N := 7) (j := 0) (ty := (.array .int)) (v := .ref (n + 10)) hx hb hts bt_inG1 bt_ty1 bt_tyok1 bt_nm1 hown hK hW rfl rfl 1 (by decide) (bt_gin (bt_tin1 (List.mem_of_getElem? (i := 37) (by decide +kernel))) rfl) rfl rfl hin rfl (by decide +kernel) rfl rfl (Nat.le_of_ble_eq_true rfl) dk_Fo_23 rfl (fun H locs hW => ?_)
  have hW : rwC (bt_D P) n ((.inr (1, [.ref (n + 1), .ref (n + 10), .null, .null, .int 0, .int 0, .int 0])) :: (moE (n + 1) 8 24 (bt_dA P 4) (bt_dA P 0) ++ [.inl (bt_dA P 0, 8, .inl (fun _ => 0))])) s.heap H locs := hW
  refine lv_aload_n hx hb dk_Fo_26 rfl (lv_at hl 0 rfl) ?_
  refine lv_bipush hx hb dk_Fo_27 rfl ?_
  refine cr_newa (atype := .int) (N' := 8) (a0 := (8, .inl (fun _ => 0))) hx hb (hts _ gw_aint) rfl (hK.2 0 _ rfl).2 hW (fun _ => rfl) (by decide) (by decide) (Nat.le_of_ble_eq_true rfl) (Nat.le_of_ble_eq_true rfl) (Nat.le_of_ble_eq_true rfl) dk_Fo_29 (fun H hW => ?_)
  have hW : rwC (bt_D P) n ((.inr (1, [.ref (n + 1), .ref (n + 10), .null, .null, .int 0, .int 0, .int 0])) :: (moE (n + 1) 8 24 (bt_dA P 4) (bt_dA P 0) ++ [.inl (bt_dA P 0, 8, .inl (fun _ => 0))] ++ [.inl (bt_dA P 0, 8, .inl (fun _ => 0))])) s.heap H locs := hW
  refine cr_putF (own := "BellTrees$Forest") (C := bt_R1) (T := bt_T1) (N := 7) (j := 0) (ty := (.array .int)) (v := .ref (n + 11)) hx hb hts bt_inG1 bt_ty1 bt_tyok1 bt_nm1 hown hK hW rfl rfl 2 (by decide) (bt_gin (bt_tin1 (List.mem_of_getElem? (i := 38) (by decide +kernel))) rfl) rfl rfl hin rfl (by decide +kernel) rfl rfl (Nat.le_of_ble_eq_true rfl) dk_Fo_31 rfl (fun H locs hW => ?_)
  have hW : rwC (bt_D P) n ((.inr (1, [.ref (n + 1), .ref (n + 10), .ref (n + 11), .null, .int 0, .int 0, .int 0])) :: (moE (n + 1) 8 24 (bt_dA P 4) (bt_dA P 0) ++ [.inl (bt_dA P 0, 8, .inl (fun _ => 0))] ++ [.inl (bt_dA P 0, 8, .inl (fun _ => 0))])) s.heap H locs := hW
  refine lv_aload_n hx hb dk_Fo_34 rfl (lv_at hl 0 rfl) ?_
  refine lv_bipush hx hb dk_Fo_35 rfl ?_
  refine cr_newa (atype := .int) (N' := 8) (a0 := (8, .inl (fun _ => 0))) hx hb (hts _ gw_aint) rfl (hK.2 0 _ rfl).2 hW (fun _ => rfl) (by decide) (by decide) (Nat.le_of_ble_eq_true rfl) (Nat.le_of_ble_eq_true rfl) (Nat.le_of_ble_eq_true rfl) dk_Fo_37 (fun H hW => ?_)
  have hW : rwC (bt_D P) n ((.inr (1, [.ref (n + 1), .ref (n + 10), .ref (n + 11), .null, .int 0, .int 0, .int 0])) :: (moE (n + 1) 8 24 (bt_dA P 4) (bt_dA P 0) ++ [.inl (bt_dA P 0, 8, .inl (fun _ => 0))] ++ [.inl (bt_dA P 0, 8, .inl (fun _ => 0))] ++ [.inl (bt_dA P 0, 8, .inl (fun _ => 0))])) s.heap H locs := hW
  refine cr_putF (own := "BellTrees$Forest") (C := bt_R1) (T := bt_T1) (N := 7) (j := 0) (ty := (.array .int)) (v := .ref (n + 12)) hx hb hts bt_inG1 bt_ty1 bt_tyok1 bt_nm1 hown hK hW rfl rfl 3 (by decide) (bt_gin (bt_tin1 (List.mem_of_getElem? (i := 39) (by decide +kernel))) rfl) rfl rfl hin rfl (by decide +kernel) rfl rfl (Nat.le_of_ble_eq_true rfl) dk_Fo_39 rfl (fun H locs hW => ?_)
  have hW : rwC (bt_D P) n ((.inr (1, [.ref (n + 1), .ref (n + 10), .ref (n + 11), .ref (n + 12), .int 0, .int 0, .int 0])) :: (moE (n + 1) 8 24 (bt_dA P 4) (bt_dA P 0) ++ [.inl (bt_dA P 0, 8, .inl (fun _ => 0))] ++ [.inl (bt_dA P 0, 8, .inl (fun _ => 0))] ++ [.inl (bt_dA P 0, 8, .inl (fun _ => 0))])) s.heap H locs := hW
  refine lv_aload_n hx hb dk_Fo_42 rfl (lv_at hl 0 rfl) ?_
  refine cr_get (own := "BellTrees$Forest") (C := bt_R1) (T := bt_T1) (N := 7) (j := 0) (fs := [.ref (n + 1), .ref (n + 10), .ref (n + 11), .ref (n + 12), .int 0, .int 0, .int 0]) (v := .ref (n + 1)) hx hb hts bt_inG1 hown hK hW rfl rfl 0 (by decide) (bt_gin (bt_tin1 (List.mem_of_getElem? (i := 36) (by decide +kernel))) rfl) rfl rfl dk_Fo_43 rfl ?_
  refine lv_iconst (v := 4) hx hb dk_Fo_46 rfl ?_
  refine cr_aaldS (j := 1) (v := n + 6) (n1 := 8) (f := fun i => if i < 8 then some (n + 1 + 1 + i) else none) hx hb (hK.2 4 _ rfl).1 hW rfl (ti_in (n := 4) (by decide) (by decide)) rfl dk_Fo_47 rfl ?_
  refine lv_iconst (v := 2) hx hb dk_Fo_48 rfl ?_
  refine cr_fill (own := "BellTrees$Forest") (j := 6) (N' := 24) (f := fun _ => 0) (v := 2) hx hb hml hown hts hK hl.1 hW rfl (by decide) bs_Fo_29x ⟨Nat.le_of_ble_eq_true rfl, Nat.le_of_ble_eq_true rfl⟩ ⟨Nat.le_of_ble_eq_true rfl, Nat.le_of_ble_eq_true rfl⟩ dk_Fo_49 rfl (fun H locs hW => ?_)
  have hW : rwC (bt_D P) n ((((.inr (1, [.ref (n + 1), .ref (n + 10), .ref (n + 11), .ref (n + 12), .int 0, .int 0, .int 0])) :: (moE (n + 1) 8 24 (bt_dA P 4) (bt_dA P 0) ++ [.inl (bt_dA P 0, 8, .inl (fun _ => 0))] ++ [.inl (bt_dA P 0, 8, .inl (fun _ => 0))] ++ [.inl (bt_dA P 0, 8, .inl (fun _ => 0))]))).set 6 (.inl (bt_dA P 0, 24, .inl (fun _ => 2)))) s.heap H locs := hW
  refine lv_aload_n hx hb dk_Fo_52 rfl (lv_at hl 0 rfl) ?_
  refine cr_get (own := "BellTrees$Forest") (C := bt_R1) (T := bt_T1) (N := 7) (j := 0) (fs := [.ref (n + 1), .ref (n + 10), .ref (n + 11), .ref (n + 12), .int 0, .int 0, .int 0]) (v := .ref (n + 1)) hx hb hts bt_inG1 hown hK hW rfl rfl 0 (by decide) (bt_gin (bt_tin1 (List.mem_of_getElem? (i := 36) (by decide +kernel))) rfl) rfl rfl dk_Fo_53 rfl ?_
  refine lv_iconst (v := 5) hx hb dk_Fo_56 rfl ?_
  refine cr_aaldS (j := 1) (v := n + 7) (n1 := 8) (f := fun i => if i < 8 then some (n + 1 + 1 + i) else none) hx hb (hK.2 4 _ rfl).1 hW rfl (ti_in (n := 5) (by decide) (by decide)) rfl dk_Fo_57 rfl ?_
  refine lv_iconst (v := 5) hx hb dk_Fo_58 rfl ?_
  refine cr_fill (own := "BellTrees$Forest") (j := 7) (N' := 24) (f := fun _ => 0) (v := 5) hx hb hml hown hts hK hl.1 hW rfl (by decide) bs_Fo_29x ⟨Nat.le_of_ble_eq_true rfl, Nat.le_of_ble_eq_true rfl⟩ ⟨Nat.le_of_ble_eq_true rfl, Nat.le_of_ble_eq_true rfl⟩ dk_Fo_59 rfl (fun H locs hW => ?_)
  have hW : rwC (bt_D P) n (((((.inr (1, [.ref (n + 1), .ref (n + 10), .ref (n + 11), .ref (n + 12), .int 0, .int 0, .int 0])) :: (moE (n + 1) 8 24 (bt_dA P 4) (bt_dA P 0) ++ [.inl (bt_dA P 0, 8, .inl (fun _ => 0))] ++ [.inl (bt_dA P 0, 8, .inl (fun _ => 0))] ++ [.inl (bt_dA P 0, 8, .inl (fun _ => 0))]))).set 6 (.inl (bt_dA P 0, 24, .inl (fun _ => 2)))).set 7 (.inl (bt_dA P 0, 24, .inl (fun _ => 5)))) s.heap H locs := hW
  exact W.vret hx hb hr (fun t ht _ => ⟨rfl, by rw [ht]; exact ⟨hW.1, hW.2.1, hW.2.2.1, fun l h => by cases h⟩⟩) hW.2.2.2 dk_Fo_62
