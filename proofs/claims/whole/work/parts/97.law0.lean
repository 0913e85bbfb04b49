/-! printed by wip/whole/gen97.py: the law's entry: what stands ahead of it -/
theorem dk_X_0 : decode code 0 = .ok (.new 7, 3) := by decide +kernel
theorem dk_X_3 : decode code 3 = .ok (.dup, 1) := by decide +kernel
theorem dk_X_4 : decode code 4 = .ok (.invokespecial 9, 3) := by decide +kernel
theorem dk_X_7 : decode code 7 = .ok (.astore_n 1, 1) := by decide +kernel
theorem dk_X_8 : decode code 8 = .ok (.new 10, 3) := by decide +kernel
theorem dk_X_11 : decode code 11 = .ok (.dup, 1) := by decide +kernel
theorem dk_X_12 : decode code 12 = .ok (.invokespecial 12, 3) := by decide +kernel
theorem dk_X_15 : decode code 15 = .ok (.astore_n 2, 1) := by decide +kernel
theorem dk_X_16 : decode code 16 = .ok (.iconst 0, 1) := by decide +kernel
theorem dk_X_17 : decode code 17 = .ok (.istore_n 3, 1) := by decide +kernel
theorem bd_B : ∀ j, j < 9 → defaultValue (bt_ty0 j) = vp_V [.null, .null, .null, .null, .null, .null, .null, .null, .null] j := by
  intro j hj
  match j, hj with
  | 0, _ => rfl
  | 1, _ => rfl
  | 2, _ => rfl
  | 3, _ => rfl
  | 4, _ => rfl
  | 5, _ => rfl
  | 6, _ => rfl
  | 7, _ => rfl
  | 8, _ => rfl
  | j + 9, hj => omega
theorem bd_M : ∀ j, j < 53 → defaultValue (bt_ty9 j) = vp_V [.int 0, .int 0, .null, .null, .null, .null, .null, .null, .int 0, .int 0, .null, .null, .int 0, .int 0, .int 0, .int 0, .null, .null, .null, .null, .null, .null, .int 0, .int 0, .int 0, .int 0, .int 0, .null, .null, .null, .null, .null, .null, .null, .int 0, .null, .null, .null, .int 0, .int 0, .int 0, .null, .null, .null, .null, .int 0, .null, .int 0, .null, .null, .null, .null, .null] j := by
  intro j hj
  match j, hj with
  | 0, _ => rfl
  | 1, _ => rfl
  | 2, _ => rfl
  | 3, _ => rfl
  | 4, _ => rfl
  | 5, _ => rfl
  | 6, _ => rfl
  | 7, _ => rfl
  | 8, _ => rfl
  | 9, _ => rfl
  | 10, _ => rfl
  | 11, _ => rfl
  | 12, _ => rfl
  | 13, _ => rfl
  | 14, _ => rfl
  | 15, _ => rfl
  | 16, _ => rfl
  | 17, _ => rfl
  | 18, _ => rfl
  | 19, _ => rfl
  | 20, _ => rfl
  | 21, _ => rfl
  | 22, _ => rfl
  | 23, _ => rfl
  | 24, _ => rfl
  | 25, _ => rfl
  | 26, _ => rfl
  | 27, _ => rfl
  | 28, _ => rfl
  | 29, _ => rfl
  | 30, _ => rfl
  | 31, _ => rfl
  | 32, _ => rfl
  | 33, _ => rfl
  | 34, _ => rfl
  | 35, _ => rfl
  | 36, _ => rfl
  | 37, _ => rfl
  | 38, _ => rfl
  | 39, _ => rfl
  | 40, _ => rfl
  | 41, _ => rfl
  | 42, _ => rfl
  | 43, _ => rfl
  | 44, _ => rfl
  | 45, _ => rfl
  | 46, _ => rfl
  | 47, _ => rfl
  | 48, _ => rfl
  | 49, _ => rfl
  | 50, _ => rfl
  | 51, _ => rfl
  | 52, _ => rfl
  | j + 53, hj => omega
theorem len_B (P : bt_PT) (n : Nat) : (ec_B P n).length = 93 := by
  unfold ec_B
  simp only [List.length_cons, List.length_append, len_B8, len_Sh]
theorem len_BM (P : bt_PT) (n : Nat) : (ec_B P n ++ ec_M P (n + 93)).length = 128 := by
  rw [List.length_append, len_B]
  rfl
section MAV
variable {P : bt_PT} {s : State} {H H0 : Heap} {locs : List Loc} {n : Nat} {E : List va_E}
theorem ct_NW_warm {s U : State} (hw : s.WarmedH U.vm) (h : ct_NW s) : ct_NW U := fun q hq => va_Nw.warmM hw (h q hq)
theorem pr_B {n' : Nat} (hW : rwC (bt_D P) n (E ++ [.inr (0, [.null, .null, .null, .null, .null, .null, .null, .null, .null])]) s.heap H locs) (hn' : n + E.length = n') (hK : va_K (bt_D P) bt_cl (bt_tys P) s) (hAO : mo_AO s) (hAS : va_AO "BellTrees$Shelf" s) (hB : bt_B P ≤ n) (hSF : bt_SF P s s.heap) (hCN : ct_NW s) : PreS s H (pc_B P n') [.ref n'] :=
  ⟨fun a U g mk h => ⟨crP_blind P _ n' _ a U g mk h.1, mo_AO.moved (u := U) (U := U.calling g mk a) (Vm.Alike.refl U.vm) h.2.1, va_AO.moved (u := U) (U := U.calling g mk a) (Vm.Alike.refl U.vm) h.2.2.1, bt_SF_moved (u := U) (U := U.calling g mk a) (Vm.Alike.refl U.vm) h.2.2.2.1, fun q hq => va_Nw.same rfl (show U.vm = (U.calling g mk a).vm from rfl) (h.2.2.2.2 q hq)⟩, fun _ hU hw => ⟨crP_last _ hW hn' hK hU hw, mo_AO.moved hw.alike hAO, va_AO.moved hw.alike hAS, sf_now hW hB hSF hU hw, ct_NW_warm hw hCN⟩⟩
end MAV
