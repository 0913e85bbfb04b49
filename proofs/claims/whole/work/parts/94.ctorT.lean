/-! printed by wip/whole/genctor4.py: a BellTrees is made -/
section MAU
variable {P : bt_PT} {p : Program} {e : Env} {R : Room} {s : State} {m : MethodId} {args : Array Value} {below : List Frame} {meth : Method} {c : Code} {H H0 : Heap} {locs : List Loc} {cells slots : Nat} {Q : State → Prop} {cc : ByteArray} {pc n nL : Nat} {ls : Array Slot} {rest : List Value} {E : List va_E}
theorem cr_newA {l : Launch} {D : va_G} {tys : List (ClassId × FieldType)} {own : String} {ci index k : Nat} {C : String} {T : u_T} {N : Nat} (hexec : p.tables.exec = Jvm.exec) (hb : c.code = cc) (hts : ∀ w ∈ bt_gw, w.before args s = true) (hin : ∀ w ∈ u_ws C T N, w ∈ bt_gw) (ty : Nat → FieldType) (hty : ∀ k, k < N → parseFieldDescriptor (T k).2.2.1 = some (ty k)) (hown : s.vm.findClass own = some m.cls) (hcl : Cond.classLink own index C ∈ bt_gw) (hinst : Cond.instantiable C N ∈ bt_gw) (hini : Cond.initialized C ∈ bt_gw) (hK : va_K D bt_cl tys s) (hW : rwC D n E H0 H locs) (hc : bt_cl[ci]? = some (C, T, N)) {fs : List Value} (hfs : ∀ j, j < N → defaultValue (ty j) = vp_V fs j) (hcells : cells + 1 ≤ R.cells) (hslots : slots + N ≤ R.slots) (hdg : decode cc pc = .ok (.new index, 3)) (ha : E.length = k)
    (kk : ∀ H1 : Heap, rwC D n (E ++ [.inr (ci, fs)]) H0 H1 locs → W p l e R s m args below meth c H1 locs (cells + 1) (slots + N) Q (F0 m (pc + 3) ls (.ref (n + k) :: rest))) : W p l e R s m args below meth c H locs cells slots Q (F0 m pc ls rest) := by
  subst ha
  exact cr_new hexec hb hts hin ty hty hown hcl hinst hini hK hW hc hfs hcells hslots hdg kk
theorem crP_last {n' : Nat} {e0 : va_E} (as : List Value) (hW : rwC (bt_D P) n (E ++ [e0]) H0 H locs) (hn' : n + E.length = n') (hK : va_K (bt_D P) bt_cl (bt_tys P) s) {U : State} (hU : U.heap = H) (hw : s.WarmedH U.vm) : crP P as n' [e0] as.toArray U := by
  subst hU
  subst hn'
  refine ⟨rfl, by rw [hW.1, List.length_append, Nat.add_assoc], fun j x hx => ?_, va_K.moved hw.alike hK⟩
  match j, hx with
  | 0, hx =>
    cases hx
    exact hW.2.1 E.length _ (by rw [List.getElem?_append_right (Nat.le_refl _), Nat.sub_self]; rfl)
  | j + 1, hx => simp at hx
theorem pr_plain {n' : Nat} {e0 : va_E} (as : List Value) (hW : rwC (bt_D P) n (E ++ [e0]) H0 H locs) (hn' : n + E.length = n') (hK : va_K (bt_D P) bt_cl (bt_tys P) s) : PreS s H (crP P as n' [e0]) as := ⟨crP_blind P as n' [e0], fun _ hU hw => crP_last as hW hn' hK hU hw⟩
theorem pr_mo {n' : Nat} {e0 : va_E} (as : List Value) (hW : rwC (bt_D P) n (E ++ [e0]) H0 H locs) (hn' : n + E.length = n') (hK : va_K (bt_D P) bt_cl (bt_tys P) s) (hAO : mo_AO s) : PreS s H (fun v U => crP P as n' [e0] v U ∧ mo_AO U) as := ⟨fun a U g mk h => ⟨crP_blind P as n' [e0] a U g mk h.1, mo_AO.moved (u := U) (U := U.calling g mk a) (Vm.Alike.refl U.vm) h.2⟩, fun _ hU hw => ⟨crP_last as hW hn' hK hU hw, mo_AO.moved hw.alike hAO⟩⟩
theorem sf_now (hW : rwC (bt_D P) n E s.heap H locs) (hB : bt_B P ≤ n) (hSF : bt_SF P s s.heap) {U : State} (hU : U.heap = H) (hw : s.WarmedH U.vm) : bt_SF P U U.heap := by
  subst hU
  exact bt_SF_moved hw.alike (bt_SF_kept hSF (fun a _ h2 => hW.2.2.1 a (Nat.lt_of_lt_of_le (Nat.lt_of_not_le h2) hB)))
theorem pr_Fo {n' : Nat} (hW : rwC (bt_D P) n (E ++ [.inr (1, [.null, .null, .null, .null, .int 0, .int 0, .int 0])]) s.heap H locs) (hn' : n + E.length = n') (hK : va_K (bt_D P) bt_cl (bt_tys P) s) (hAO : mo_AO s) (hB : bt_B P ≤ n) (hSF : bt_SF P s s.heap) : PreS s H (pc_Fo P n') [.ref n'] :=
  ⟨fun a U g mk h => ⟨crP_blind P _ n' _ a U g mk h.1, mo_AO.moved (u := U) (U := U.calling g mk a) (Vm.Alike.refl U.vm) h.2.1, bt_SF_moved (u := U) (U := U.calling g mk a) (Vm.Alike.refl U.vm) h.2.2⟩, fun _ hU hw => ⟨crP_last _ hW hn' hK hU hw, mo_AO.moved hw.alike hAO, sf_now hW hB hSF hU hw⟩⟩
theorem gw_ws {y : MethodName} {bytes : ByteArray} {maxL : Nat} (hcode : Cond.code y bytes maxL none ∈ bt_gw) : GoodIn bt_gw (Cond.code y bytes maxL none :: bt_gw) := fun w hw => by
  rcases List.mem_cons.mp hw with rfl | hw
  · exact ⟨hcode, bt_gw_good _ hcode⟩
  · exact ⟨hw, bt_gw_good _ hw⟩
theorem cr_ctorI {own : String} {y : MethodName} {bytes : ByteArray} {index maxL mc ms na n' b : Nat} {post : List va_E} {e0 : va_E} {Pc : Array Value → State → Prop} {rm : Room} {As st0 : List Value} (hx : p.tables.exec = Jvm.exec) (hb : c.code = cc) (hml : c.maxLocals = nL) (hown : s.vm.findClass own = some m.cls) (hts : ∀ w ∈ bt_gw, w.before args s = true) (hls : ls.size = nL) (hW : rwC (bt_D P) n (E ++ [e0]) H0 H locs) (hn' : n + E.length = n')
    (hM : Met (bt_l P) y (Cond.code y bytes maxL none :: bt_gw) rm Pc (crQ P n' post) mc ms (fun q => n' ≤ q)) (hcode : Cond.code y bytes maxL none ∈ bt_gw) (hini : Cond.initialized y.cls ∈ bt_gw) (hinst : Cond.instanceMethod y ∈ bt_gw) (hlk : Cond.methodLink own index y ∈ bt_gw) (hy1 : y.name = "<init>") (hd : y.cls ≠ "java/lang/invoke/MethodHandle" ∧ y.cls ≠ "java/lang/invoke/VarHandle" ∧ (parseMethodDescriptor y.desc).map (fun d => d.parameters.length) = some na) (hrc : rm.cells = mc) (hrs : rm.slots = ms) (hR : rm.frames + 1 ≤ R.frames ∧ 8 + (maxL + 11) + rm.locals ≤ R.locals) (hpre : PreS s H Pc (.ref b :: As)) (hna : As.length = na) (hst : st0 = As.reverse ++ .ref b :: rest) (hw : (rest.map fun v => v.category).sum ≤ 8) (hdg : decode cc pc = .ok (.invokespecial index, 3)) (hf : cells + mc ≤ R.cells ∧ slots + ms ≤ R.slots)
    (kk : ∀ (H1 : Heap) (locs1 : List Loc), rwC (bt_D P) n (E ++ post) H0 H1 locs1 → W p (bt_l P) e R s m args below meth c H1 locs1 (cells + mc) (slots + ms) Q (F0 m (pc + 3) ls rest)) : W p (bt_l P) e R s m args below meth c H locs cells slots Q (F0 m pc ls st0) := by
  subst hn'
  subst hst
  refine cr_callv (rest := rest) (va_runI (l := bt_l P) (Ts := bt_gw) (own := own) (nL := nL) ⟨hx, hb, hml, hown, hts⟩ hM (cwI na hts (gw_ws hcode) rfl hrc hrs (hts _ hini) (hts _ hlk) (hts _ hinst) hy1 hd hR) hpre rfl hna hls rfl (lv_room hw) hdg hf) (fun H1 L hc hL => ?_)
  exact kk H1 _ (rwC_call hW hc hL)
theorem cr_ctorN {own host : String} {y : MethodName} {bytes : ByteArray} {index maxL mc ms na n' b : Nat} {post : List va_E} {e0 : va_E} {Pc : Array Value → State → Prop} {rm : Room} {As st0 : List Value} (hx : p.tables.exec = Jvm.exec) (hb : c.code = cc) (hml : c.maxLocals = nL) (hown : s.vm.findClass own = some m.cls) (hts : ∀ w ∈ bt_gw, w.before args s = true) (hls : ls.size = nL) (hW : rwC (bt_D P) n (E ++ [e0]) H0 H locs) (hn' : n + E.length = n')
    (hM : Met (bt_l P) y (Cond.code y bytes maxL none :: bt_gw) rm Pc (crQ P n' post) mc ms (fun q => n' ≤ q)) (hcode : Cond.code y bytes maxL none ∈ bt_gw) (hini : Cond.initialized y.cls ∈ bt_gw) (hinst : Cond.instanceMethod y ∈ bt_gw) (hlk : va_Nw (.methodLinkNest own index y host) s) (hy1 : y.name = "<init>") (hd : y.cls ≠ "java/lang/invoke/MethodHandle" ∧ y.cls ≠ "java/lang/invoke/VarHandle" ∧ (parseMethodDescriptor y.desc).map (fun d => d.parameters.length) = some na) (hrc : rm.cells = mc) (hrs : rm.slots = ms) (hR : rm.frames + 1 ≤ R.frames ∧ 8 + (maxL + 11) + rm.locals ≤ R.locals) (hpre : PreS s H Pc (.ref b :: As)) (hna : As.length = na) (hst : st0 = As.reverse ++ .ref b :: rest) (hw : (rest.map fun v => v.category).sum ≤ 8) (hdg : decode cc pc = .ok (.invokespecial index, 3)) (hf : cells + mc ≤ R.cells ∧ slots + ms ≤ R.slots)
    (kk : ∀ (H1 : Heap) (locs1 : List Loc), rwC (bt_D P) n (E ++ post) H0 H1 locs1 → W p (bt_l P) e R s m args below meth c H1 locs1 (cells + mc) (slots + ms) Q (F0 m (pc + 3) ls rest)) : W p (bt_l P) e R s m args below meth c H locs cells slots Q (F0 m pc ls st0) := by
  subst hn'
  subst hst
  refine cr_callv (rest := rest) (va_runIN (l := bt_l P) (Ts := bt_gw) (own := own) (nL := nL) ⟨hx, hb, hml, hown, hts⟩ hM ⟨va_cnB na hts (gw_ws hcode) rfl hrc hrs hlk (hts _ hini) hd hR, hy1, hts _ hinst⟩ hpre rfl hna hls rfl (lv_room hw) hdg hf) (fun H1 L hc hL => ?_)
  exact kk H1 _ (rwC_call hW hc hL)
end MAU
theorem set_mid (o : va_E) : ∀ (X : List va_E) (a b : va_E) (Y : List va_E) (k : Nat), k = X.length + 1 → (o :: (X ++ a :: Y)).set k b = o :: (X ++ b :: Y) := by
  intro X a b Y k hk
  subst hk
  show o :: ((X ++ a :: Y).set X.length b) = _
  rw [List.set_append_right _ _ (Nat.le_refl _), Nat.sub_self]
  rfl
theorem app_mid (o : va_E) (X : List va_E) (a : va_E) (Y Z : List va_E) : (o :: (X ++ a :: Y)) ++ Z = o :: (X ++ a :: (Y ++ Z)) := by
  simp
theorem at_mid (o : va_E) (X : List va_E) (a : va_E) (Y : List va_E) (k : Nat) (hk : k = X.length + 1) : (o :: (X ++ a :: Y))[k]? = some a := by
  subst hk
  show (X ++ a :: Y)[X.length]? = some a
  rw [List.getElem?_append_right (Nat.le_refl _), Nat.sub_self]
  rfl
theorem at_end (o : va_E) (X : List va_E) (a : va_E) (Y : List va_E) (y : va_E) (Z : List va_E) (k : Nat) (hk : k = X.length + Y.length + 2) : (o :: (X ++ a :: (Y ++ y :: Z)))[k]? = some y := by
  have e : o :: (X ++ a :: (Y ++ y :: Z)) = o :: ((X ++ a :: Y) ++ y :: Z) := by simp
  rw [e]
  exact at_mid o (X ++ a :: Y) y Z k (by rw [hk, List.length_append, List.length_cons]; omega)
/-- the links to the private constructors, and to the law's own helpers: they are carried with the world -/
def ct_nests : List (String × Nat × MethodName × String) := [("BellTrees", 18, y_La, "BellTrees"), ("BellTrees", 46, y_Ch, "BellTrees"), ("BellTrees", 53, y_Im, "BellTrees"), ("BellTrees", 60, y_Bo, "BellTrees"), ("BellTrees", 71, y_Sh, "BellTrees")]
def ct_NW (U : State) : Prop := ∀ q ∈ ct_nests, va_Nw (.methodLinkNest q.1 q.2.1 q.2.2.1 q.2.2.2) U
def y_B : MethodName := ⟨"BellTrees", "<init>", "()V"⟩
theorem gw_B_c : Cond.code y_B prog_1_method_1_code 2 none ∈ bt_gw := bt_gin (bt_tin1 (List.mem_of_getElem? (i := 19) (by decide +kernel))) rfl
theorem gw_B_i : Cond.instanceMethod y_B ∈ bt_gw := bt_gin (bt_tin1 (List.mem_of_getElem? (i := 18) (by decide +kernel))) rfl
theorem gw_B_l : Cond.initialized y_B.cls ∈ bt_gw := bt_gin (bt_tin1 (List.mem_of_getElem? (i := 1) (by decide +kernel))) rfl
theorem dk_B_0 : decode prog_1_method_1_code 0 = .ok (.aload_n 0, 1) := by decide +kernel
theorem dk_B_1 : decode prog_1_method_1_code 1 = .ok (.invokespecial 1, 3) := by decide +kernel
theorem dk_B_4 : decode prog_1_method_1_code 4 = .ok (.aload_n 0, 1) := by decide +kernel
theorem dk_B_5 : decode prog_1_method_1_code 5 = .ok (.new 7, 3) := by decide +kernel
theorem dk_B_8 : decode prog_1_method_1_code 8 = .ok (.dup, 1) := by decide +kernel
theorem dk_B_9 : decode prog_1_method_1_code 9 = .ok (.invokespecial 9, 3) := by decide +kernel
theorem dk_B_12 : decode prog_1_method_1_code 12 = .ok (.putfield 10, 3) := by decide +kernel
theorem dk_B_15 : decode prog_1_method_1_code 15 = .ok (.aload_n 0, 1) := by decide +kernel
theorem dk_B_16 : decode prog_1_method_1_code 16 = .ok (.new 16, 3) := by decide +kernel
theorem dk_B_19 : decode prog_1_method_1_code 19 = .ok (.dup, 1) := by decide +kernel
theorem dk_B_20 : decode prog_1_method_1_code 20 = .ok (.invokespecial 18, 3) := by decide +kernel
theorem dk_B_23 : decode prog_1_method_1_code 23 = .ok (.putfield 19, 3) := by decide +kernel
theorem dk_B_26 : decode prog_1_method_1_code 26 = .ok (.aload_n 0, 1) := by decide +kernel
theorem dk_B_27 : decode prog_1_method_1_code 27 = .ok (.new 23, 3) := by decide +kernel
theorem dk_B_30 : decode prog_1_method_1_code 30 = .ok (.dup, 1) := by decide +kernel
theorem dk_B_31 : decode prog_1_method_1_code 31 = .ok (.aload_n 0, 1) := by decide +kernel
theorem dk_B_32 : decode prog_1_method_1_code 32 = .ok (.getfield 10, 3) := by decide +kernel
theorem dk_B_35 : decode prog_1_method_1_code 35 = .ok (.aload_n 0, 1) := by decide +kernel
theorem dk_B_36 : decode prog_1_method_1_code 36 = .ok (.getfield 19, 3) := by decide +kernel
theorem dk_B_39 : decode prog_1_method_1_code 39 = .ok (.invokespecial 25, 3) := by decide +kernel
theorem dk_B_42 : decode prog_1_method_1_code 42 = .ok (.putfield 28, 3) := by decide +kernel
theorem dk_B_45 : decode prog_1_method_1_code 45 = .ok (.aload_n 0, 1) := by decide +kernel
theorem dk_B_46 : decode prog_1_method_1_code 46 = .ok (.new 23, 3) := by decide +kernel
theorem dk_B_49 : decode prog_1_method_1_code 49 = .ok (.dup, 1) := by decide +kernel
theorem dk_B_50 : decode prog_1_method_1_code 50 = .ok (.aload_n 0, 1) := by decide +kernel
theorem dk_B_51 : decode prog_1_method_1_code 51 = .ok (.getfield 10, 3) := by decide +kernel
theorem dk_B_54 : decode prog_1_method_1_code 54 = .ok (.aload_n 0, 1) := by decide +kernel
theorem dk_B_55 : decode prog_1_method_1_code 55 = .ok (.getfield 19, 3) := by decide +kernel
theorem dk_B_58 : decode prog_1_method_1_code 58 = .ok (.invokespecial 25, 3) := by decide +kernel
theorem dk_B_61 : decode prog_1_method_1_code 61 = .ok (.putfield 32, 3) := by decide +kernel
theorem dk_B_64 : decode prog_1_method_1_code 64 = .ok (.aload_n 0, 1) := by decide +kernel
theorem dk_B_65 : decode prog_1_method_1_code 65 = .ok (.new 35, 3) := by decide +kernel
theorem dk_B_68 : decode prog_1_method_1_code 68 = .ok (.dup, 1) := by decide +kernel
theorem dk_B_69 : decode prog_1_method_1_code 69 = .ok (.aload_n 0, 1) := by decide +kernel
theorem dk_B_70 : decode prog_1_method_1_code 70 = .ok (.getfield 10, 3) := by decide +kernel
theorem dk_B_73 : decode prog_1_method_1_code 73 = .ok (.invokespecial 37, 3) := by decide +kernel
theorem dk_B_76 : decode prog_1_method_1_code 76 = .ok (.putfield 40, 3) := by decide +kernel
theorem dk_B_79 : decode prog_1_method_1_code 79 = .ok (.aload_n 0, 1) := by decide +kernel
theorem dk_B_80 : decode prog_1_method_1_code 80 = .ok (.new 44, 3) := by decide +kernel
theorem dk_B_83 : decode prog_1_method_1_code 83 = .ok (.dup, 1) := by decide +kernel
theorem dk_B_84 : decode prog_1_method_1_code 84 = .ok (.invokespecial 46, 3) := by decide +kernel
theorem dk_B_87 : decode prog_1_method_1_code 87 = .ok (.putfield 47, 3) := by decide +kernel
theorem dk_B_90 : decode prog_1_method_1_code 90 = .ok (.aload_n 0, 1) := by decide +kernel
theorem dk_B_91 : decode prog_1_method_1_code 91 = .ok (.new 51, 3) := by decide +kernel
theorem dk_B_94 : decode prog_1_method_1_code 94 = .ok (.dup, 1) := by decide +kernel
theorem dk_B_95 : decode prog_1_method_1_code 95 = .ok (.invokespecial 53, 3) := by decide +kernel
theorem dk_B_98 : decode prog_1_method_1_code 98 = .ok (.putfield 54, 3) := by decide +kernel
theorem dk_B_101 : decode prog_1_method_1_code 101 = .ok (.aload_n 0, 1) := by decide +kernel
theorem dk_B_102 : decode prog_1_method_1_code 102 = .ok (.new 58, 3) := by decide +kernel
theorem dk_B_105 : decode prog_1_method_1_code 105 = .ok (.dup, 1) := by decide +kernel
theorem dk_B_106 : decode prog_1_method_1_code 106 = .ok (.invokespecial 60, 3) := by decide +kernel
theorem dk_B_109 : decode prog_1_method_1_code 109 = .ok (.putfield 61, 3) := by decide +kernel
theorem dk_B_112 : decode prog_1_method_1_code 112 = .ok (.aload_n 0, 1) := by decide +kernel
theorem dk_B_113 : decode prog_1_method_1_code 113 = .ok (.bipush 6, 2) := by decide +kernel
theorem dk_B_115 : decode prog_1_method_1_code 115 = .ok (.anewarray 65, 3) := by decide +kernel
theorem dk_B_118 : decode prog_1_method_1_code 118 = .ok (.putfield 67, 3) := by decide +kernel
theorem dk_B_121 : decode prog_1_method_1_code 121 = .ok (.iconst 0, 1) := by decide +kernel
theorem dk_B_122 : decode prog_1_method_1_code 122 = .ok (.istore_n 1, 1) := by decide +kernel
theorem dk_B_123 : decode prog_1_method_1_code 123 = .ok (.iload_n 1, 1) := by decide +kernel
theorem dk_B_124 : decode prog_1_method_1_code 124 = .ok (.bipush 6, 2) := by decide +kernel
theorem dk_B_126 : decode prog_1_method_1_code 126 = .ok (.if_icmp .ge 22, 3) := by decide +kernel
theorem dk_B_129 : decode prog_1_method_1_code 129 = .ok (.aload_n 0, 1) := by decide +kernel
theorem dk_B_130 : decode prog_1_method_1_code 130 = .ok (.getfield 67, 3) := by decide +kernel
theorem dk_B_133 : decode prog_1_method_1_code 133 = .ok (.iload_n 1, 1) := by decide +kernel
theorem dk_B_134 : decode prog_1_method_1_code 134 = .ok (.new 65, 3) := by decide +kernel
theorem dk_B_137 : decode prog_1_method_1_code 137 = .ok (.dup, 1) := by decide +kernel
theorem dk_B_138 : decode prog_1_method_1_code 138 = .ok (.invokespecial 71, 3) := by decide +kernel
theorem dk_B_141 : decode prog_1_method_1_code 141 = .ok (.aastore, 1) := by decide +kernel
theorem dk_B_142 : decode prog_1_method_1_code 142 = .ok (.iinc 1 1, 3) := by decide +kernel
theorem dk_B_145 : decode prog_1_method_1_code 145 = .ok (.goto (-22), 3) := by decide +kernel
theorem dk_B_148 : decode prog_1_method_1_code 148 = .ok (.return_, 1) := by decide +kernel
theorem bd_Fo : ∀ j, j < 7 → defaultValue (bt_ty1 j) = vp_V [.null, .null, .null, .null, .int 0, .int 0, .int 0] j := by
  intro j hj
  match j, hj with
  | 0, _ => rfl
  | 1, _ => rfl
  | 2, _ => rfl
  | 3, _ => rfl
  | 4, _ => rfl
  | 5, _ => rfl
  | 6, _ => rfl
  | j + 7, hj => omega
theorem len_Fo (P : bt_PT) (n : Nat) : (ec_Fo P n).length = 13 := rfl
theorem bd_La : ∀ j, j < 15 → defaultValue (bt_ty2 j) = vp_V [.null, .null, .null, .null, .int 0, .int 0, .int 0, .int 0, .int 0, .int 0, .int 0, .int 0, .int 0, .int 0, .int 0] j := by
  intro j hj
  match j, hj with
  | 0, _ => rfl
  | 1, _ => rfl
  | 2, _ => rfl
  | 3, _ => rfl
  | 4, _ => rfl
  | 5, _ => rfl
  | 6, _ => rfl
  | 7, _ => rfl
  | 8, _ => rfl
  | 9, _ => rfl
  | 10, _ => rfl
  | 11, _ => rfl
  | 12, _ => rfl
  | 13, _ => rfl
  | 14, _ => rfl
  | j + 15, hj => omega
theorem len_La (P : bt_PT) (n : Nat) : (ec_La P n).length = 5 := rfl
theorem bd_So : ∀ j, j < 4 → defaultValue (bt_ty3 j) = vp_V [.null, .null, .null, .null] j := by
  intro j hj
  match j, hj with
  | 0, _ => rfl
  | 1, _ => rfl
  | 2, _ => rfl
  | 3, _ => rfl
  | j + 4, hj => omega
theorem len_So (P : bt_PT) (n : Nat) (f w : Nat) : (ec_So P n f w).length = 11 := rfl
theorem bd_Wa : ∀ j, j < 2 → defaultValue (bt_ty4 j) = vp_V [.null, .null] j := by
  intro j hj
  match j, hj with
  | 0, _ => rfl
  | 1, _ => rfl
  | j + 2, hj => omega
theorem len_Wa (P : bt_PT) (n : Nat) (f : Nat) : (ec_Wa P n f).length = 26 := rfl
theorem bd_Ch : ∀ j, j < 6 → defaultValue (bt_ty5 j) = vp_V [.null, .null, .null, .null, .int 0, .int 0] j := by
  intro j hj
  match j, hj with
  | 0, _ => rfl
  | 1, _ => rfl
  | 2, _ => rfl
  | 3, _ => rfl
  | 4, _ => rfl
  | 5, _ => rfl
  | j + 6, hj => omega
theorem len_Ch (P : bt_PT) (n : Nat) : (ec_Ch P n).length = 5 := rfl
theorem bd_Im : ∀ j, j < 7 → defaultValue (bt_ty6 j) = vp_V [.null, .null, .null, .null, .int 0, .int 0, .int 0] j := by
  intro j hj
  match j, hj with
  | 0, _ => rfl
  | 1, _ => rfl
  | 2, _ => rfl
  | 3, _ => rfl
  | 4, _ => rfl
  | 5, _ => rfl
  | 6, _ => rfl
  | j + 7, hj => omega
theorem len_Im (P : bt_PT) (n : Nat) : (ec_Im P n).length = 5 := rfl
theorem bd_Bo : ∀ j, j < 5 → defaultValue (bt_ty7 j) = vp_V [.null, .null, .int 0, .int 0, .int 0] j := by
  intro j hj
  match j, hj with
  | 0, _ => rfl
  | 1, _ => rfl
  | 2, _ => rfl
  | 3, _ => rfl
  | 4, _ => rfl
  | j + 5, hj => omega
theorem len_Bo (P : bt_PT) (n : Nat) : (ec_Bo P n).length = 3 := rfl
theorem bd_Sh : ∀ j, j < 4 → defaultValue (bt_ty8 j) = vp_V [.null, .int 0, .int 0, .int 0] j := by
  intro j hj
  match j, hj with
  | 0, _ => rfl
  | 1, _ => rfl
  | 2, _ => rfl
  | 3, _ => rfl
  | j + 4, hj => omega
theorem len_Sh (P : bt_PT) (n : Nat) : (ec_Sh P n).length = 2 := rfl
def eB0 (_ : bt_PT) (_ : Nat) : List va_E := []
theorem len_B0 (P : bt_PT) (n : Nat) : (eB0 P n).length = 0 := rfl
def eB1 (P : bt_PT) (n : Nat) : List va_E := eB0 P n ++ ec_Fo P (n + 1)
theorem len_B1 (P : bt_PT) (n : Nat) : (eB1 P n).length = 13 := by
  unfold eB1
  rw [List.length_append, len_B0, len_Fo]
def eB2 (P : bt_PT) (n : Nat) : List va_E := eB1 P n ++ ec_La P (n + 14)
theorem len_B2 (P : bt_PT) (n : Nat) : (eB2 P n).length = 18 := by
  unfold eB2
  rw [List.length_append, len_B1, len_La]
def eB3 (P : bt_PT) (n : Nat) : List va_E := eB2 P n ++ ec_So P (n + 19) (n + 1) (n + 14)
theorem len_B3 (P : bt_PT) (n : Nat) : (eB3 P n).length = 29 := by
  unfold eB3
  rw [List.length_append, len_B2, len_So]
def eB4 (P : bt_PT) (n : Nat) : List va_E := eB3 P n ++ ec_So P (n + 30) (n + 1) (n + 14)
theorem len_B4 (P : bt_PT) (n : Nat) : (eB4 P n).length = 40 := by
  unfold eB4
  rw [List.length_append, len_B3, len_So]
def eB5 (P : bt_PT) (n : Nat) : List va_E := eB4 P n ++ ec_Wa P (n + 41) (n + 1)
theorem len_B5 (P : bt_PT) (n : Nat) : (eB5 P n).length = 66 := by
  unfold eB5
  rw [List.length_append, len_B4, len_Wa]
def eB6 (P : bt_PT) (n : Nat) : List va_E := eB5 P n ++ ec_Ch P (n + 67)
theorem len_B6 (P : bt_PT) (n : Nat) : (eB6 P n).length = 71 := by
  unfold eB6
  rw [List.length_append, len_B5, len_Ch]
def eB7 (P : bt_PT) (n : Nat) : List va_E := eB6 P n ++ ec_Im P (n + 72)
theorem len_B7 (P : bt_PT) (n : Nat) : (eB7 P n).length = 76 := by
  unfold eB7
  rw [List.length_append, len_B6, len_Im]
def eB8 (P : bt_PT) (n : Nat) : List va_E := eB7 P n ++ ec_Bo P (n + 77)
theorem len_B8 (P : bt_PT) (n : Nat) : (eB8 P n).length = 79 := by
  unfold eB8
  rw [List.length_append, len_B7, len_Bo]
def ec_B (P : bt_PT) (n : Nat) : List va_E := (.inr (0, [.ref (n + 1), .ref (n + 14), .ref (n + 19), .ref (n + 30), .ref (n + 41), .ref (n + 67), .ref (n + 72), .ref (n + 77), .ref (n + 80)])) :: (eB8 P n ++ (.inl (bt_dA P 5, 6, .inr (.inr (.inr (.inr (va_up (va_up (va_up (va_up (va_up (va_up (fun _ => none) 0 (some (n + 81))) 1 (some (n + 83))) 2 (some (n + 85))) 3 (some (n + 87))) 4 (some (n + 89))) 5 (some (n + 91)))))))) :: (ec_Sh P (n + 81) ++ ec_Sh P (n + 83) ++ ec_Sh P (n + 85) ++ ec_Sh P (n + 87) ++ ec_Sh P (n + 89) ++ ec_Sh P (n + 91)))
def pc_B (P : bt_PT) (n : Nat) : Array Value → State → Prop := fun v U => crP P [.ref n] n [.inr (0, [.null, .null, .null, .null, .null, .null, .null, .null, .null])] v U ∧ mo_AO U ∧ va_AO "BellTrees$Shelf" U ∧ bt_SF P U U.heap ∧ ct_NW U
set_option maxHeartbeats 8000000 in
set_option maxRecDepth 100000 in
theorem cc_B (P : bt_PT) (n : Nat) (hB : bt_B P ≤ n) : Met (bt_l P) y_B (Cond.code y_B prog_1_method_1_code 2 none :: bt_gw) { frames := 2, cells := 92, slots := 2070, locals := 80 } (pc_B P n) (crQ P n (ec_B P n)) 92 2070 (fun q => n ≤ q) := by
  refine Met.ofW (cc := prog_1_method_1_code) (maxL := 2) (ret := none) (by decide) rfl ?_
  intro p e s m args below meth c s₁ B hml hv
  obtain ⟨⟨rfl, hz, hP, hK⟩, hAO, hAS, hSF, hNW⟩ := hv
  have hx := B.exec
  have hb := B.bytes
  have hr := B.returns
  have hts0 := atoms_spec (ws := Cond.code y_B prog_1_method_1_code 2 none :: bt_gw) B.pre
  have hts : ∀ w ∈ bt_gw, w.before _ s = true := fun w hw => hts0 w (List.mem_cons_of_mem _ hw)
  have hown : s.vm.findClass "BellTrees" = some m.cls := findClass_of_methodNamed B.named
  have hlocks := B.notSynchronized
  have hin : meth.name = "<init>" := (name_of_methodNamed B.named B.method).1
  have hB1 : bt_B P ≤ n + 1 := Nat.le_succ_of_le hB
  have hW : rwC (bt_D P) n [.inr (0, [.null, .null, .null, .null, .null, .null, .null, .null, .null])] s.heap s.heap [] := ⟨hz, hP, fun _ _ => rfl, fun l h => by cases h⟩
  have hz : s.heap.size = n + 1 := hz
  have hl := lv_entry ([.ref n] : List Value) (n := 2) (Nat.le_of_ble_eq_true rfl)
  rw [lg_entry_eq]
  generalize (lg_sl ([.ref n] : List Value) ++ List.replicate (2 - (lg_sl ([.ref n] : List Value)).length) Slot.unset).toArray = ls at hl ⊢
  have hl : lv_has ls 2 [(0, .ref n)] := hl
  have hW : rwC (bt_D P) n ((.inr (0, [.null, .null, .null, .null, .null, .null, .null, .null, .null])) :: (eB0 P n)) s.heap s.heap [] := hW
  refine lv_aload_n hx hb dk_B_0 rfl (lv_at hl 0 rfl) ?_
  refine W.objInit hx hb hown (hts _ (bt_gin (bt_tin1 (List.mem_of_getElem? (i := 20) (by decide +kernel))) rfl)) (hts _ gw_oi) (hts _ gw_oc) rfl (by rw [hml]; exact hl.1) rfl dk_B_1 (Nat.le_of_ble_eq_true rfl) (Nat.le_of_ble_eq_true rfl) ?_
  refine W.eq (g2 := F0 m 4 ls []) rfl ?_
  refine lv_aload_n hx hb dk_B_4 rfl (lv_at hl 0 rfl) ?_
  refine cr_newA (own := "BellTrees") (ci := 1) (k := 1) (C := bt_R1) (T := bt_T1) (N := 7) (fs := [.null, .null, .null, .null, .int 0, .int 0, .int 0]) hx hb hts bt_inG1 bt_ty1 bt_tyok1 hown (bt_gin (bt_tin1 (List.mem_of_getElem? (i := 23) (by decide +kernel))) rfl) (bt_gin bt_inst1 rfl) gw_Fo_l hK hW rfl bd_Fo (Nat.le_of_ble_eq_true rfl) (Nat.le_of_ble_eq_true rfl) dk_B_5 (by rw [List.length_cons, len_B0]) (fun H hW => ?_)
  refine lv_dup hx hb dk_B_8 rfl ?_
  refine cr_ctorI (own := "BellTrees") (As := []) (rest := [.ref (n + 1), .ref n]) (na := 0) hx hb hml hown hts hl.1 hW (by rw [List.length_cons, len_B0]) (cc_Fo P (n + 1) hB1) gw_Fo_c gw_Fo_l gw_Fo_i (bt_gin (bt_tin1 (List.mem_of_getElem? (i := 25) (by decide +kernel))) rfl) rfl ⟨by decide +kernel, by decide +kernel, by decide +kernel⟩ rfl rfl ⟨Nat.le_of_ble_eq_true rfl, Nat.le_of_ble_eq_true rfl⟩ (pr_Fo hW (by rw [List.length_cons, len_B0]) hK hAO hB hSF) rfl rfl (Nat.le_of_ble_eq_true rfl) dk_B_9 ⟨Nat.le_of_ble_eq_true rfl, Nat.le_of_ble_eq_true rfl⟩ (fun H locs hW => ?_)
  have hW : rwC (bt_D P) n ((.inr (0, [.null, .null, .null, .null, .null, .null, .null, .null, .null])) :: (eB1 P n)) s.heap H locs := hW
  refine cr_putF (own := "BellTrees") (C := bt_R0) (T := bt_T0) (N := 9) (j := 0) (ty := ((.object "BellTrees$Forest"))) (v := .ref (n + 1)) hx hb hts bt_inG0 bt_ty0 bt_tyok0 bt_nm0 hown hK hW rfl rfl 0 (by decide) (bt_gin (bt_tin2 (List.mem_of_getElem? (i := 1) (by decide +kernel))) rfl) rfl rfl hin rfl (by decide +kernel) rfl rfl (Nat.le_of_ble_eq_true rfl) dk_B_12 rfl (fun H locs hW => ?_)
  have hW : rwC (bt_D P) n ((.inr (0, [.ref (n + 1), .null, .null, .null, .null, .null, .null, .null, .null])) :: (eB1 P n)) s.heap H locs := hW
  refine lv_aload_n hx hb dk_B_15 rfl (lv_at hl 0 rfl) ?_
  refine cr_newA (own := "BellTrees") (ci := 2) (k := 14) (C := bt_R2) (T := bt_T2) (N := 15) (fs := [.null, .null, .null, .null, .int 0, .int 0, .int 0, .int 0, .int 0, .int 0, .int 0, .int 0, .int 0, .int 0, .int 0]) hx hb hts bt_inG2 bt_ty2 bt_tyok2 hown (bt_gin (bt_tin1 (List.mem_of_getElem? (i := 59) (by decide +kernel))) rfl) (bt_gin bt_inst2 rfl) gw_La_l hK hW rfl bd_La (Nat.le_of_ble_eq_true rfl) (Nat.le_of_ble_eq_true rfl) dk_B_16 (by rw [List.length_cons, len_B1]) (fun H hW => ?_)
  refine lv_dup hx hb dk_B_19 rfl ?_
  refine cr_ctorN (own := "BellTrees") (As := []) (rest := [.ref (n + 14), .ref n]) (na := 0) hx hb hml hown hts hl.1 hW (by rw [List.length_cons, len_B1]) (cc_La P (n + 14)) gw_La_c gw_La_l gw_La_i (hNW _ (List.mem_of_getElem? (i := 0) rfl)) rfl ⟨by decide +kernel, by decide +kernel, by decide +kernel⟩ rfl rfl ⟨Nat.le_of_ble_eq_true rfl, Nat.le_of_ble_eq_true rfl⟩ (pr_plain [.ref (n + 14)] hW (by rw [List.length_cons, len_B1]) hK) rfl rfl (Nat.le_of_ble_eq_true rfl) dk_B_20 ⟨Nat.le_of_ble_eq_true rfl, Nat.le_of_ble_eq_true rfl⟩ (fun H locs hW => ?_)
  have hW : rwC (bt_D P) n ((.inr (0, [.ref (n + 1), .null, .null, .null, .null, .null, .null, .null, .null])) :: (eB2 P n)) s.heap H locs := hW
  refine cr_putF (own := "BellTrees") (C := bt_R0) (T := bt_T0) (N := 9) (j := 0) (ty := ((.object "BellTrees$Law"))) (v := .ref (n + 14)) hx hb hts bt_inG0 bt_ty0 bt_tyok0 bt_nm0 hown hK hW rfl rfl 1 (by decide) (bt_gin (bt_tin2 (List.mem_of_getElem? (i := 2) (by decide +kernel))) rfl) rfl rfl hin rfl (by decide +kernel) rfl rfl (Nat.le_of_ble_eq_true rfl) dk_B_23 rfl (fun H locs hW => ?_)
  have hW : rwC (bt_D P) n ((.inr (0, [.ref (n + 1), .ref (n + 14), .null, .null, .null, .null, .null, .null, .null])) :: (eB2 P n)) s.heap H locs := hW
  refine lv_aload_n hx hb dk_B_26 rfl (lv_at hl 0 rfl) ?_
  refine cr_newA (own := "BellTrees") (ci := 3) (k := 19) (C := bt_R3) (T := bt_T3) (N := 4) (fs := [.null, .null, .null, .null]) hx hb hts bt_inG3 bt_ty3 bt_tyok3 hown (bt_gin (bt_tin1 (List.mem_of_getElem? (i := 111) (by decide +kernel))) rfl) (bt_gin bt_inst3 rfl) gw_So_l hK hW rfl bd_So (Nat.le_of_ble_eq_true rfl) (Nat.le_of_ble_eq_true rfl) dk_B_27 (by rw [List.length_cons, len_B2]) (fun H hW => ?_)
  refine lv_dup hx hb dk_B_30 rfl ?_
  refine lv_aload_n hx hb dk_B_31 rfl (lv_at hl 0 rfl) ?_
  refine cr_get (own := "BellTrees") (C := bt_R0) (T := bt_T0) (N := 9) (j := 0) (fs := [.ref (n + 1), .ref (n + 14), .null, .null, .null, .null, .null, .null, .null]) (v := .ref (n + 1)) hx hb hts bt_inG0 hown hK hW rfl rfl 0 (by decide) (bt_gin (bt_tin2 (List.mem_of_getElem? (i := 1) (by decide +kernel))) rfl) rfl rfl dk_B_32 rfl ?_
  refine lv_aload_n hx hb dk_B_35 rfl (lv_at hl 0 rfl) ?_
  refine cr_get (own := "BellTrees") (C := bt_R0) (T := bt_T0) (N := 9) (j := 0) (fs := [.ref (n + 1), .ref (n + 14), .null, .null, .null, .null, .null, .null, .null]) (v := .ref (n + 14)) hx hb hts bt_inG0 hown hK hW rfl rfl 1 (by decide) (bt_gin (bt_tin2 (List.mem_of_getElem? (i := 2) (by decide +kernel))) rfl) rfl rfl dk_B_36 rfl ?_
  refine cr_ctorI (own := "BellTrees") (As := [.ref (n + 1), .ref (n + 14)]) (rest := [.ref (n + 19), .ref n]) (na := 2) hx hb hml hown hts hl.1 hW (by rw [List.length_cons, len_B2]) (cc_So P (n + 19) ((n + 1)) ((n + 14))) gw_So_c gw_So_l gw_So_i (bt_gin (bt_tin1 (List.mem_of_getElem? (i := 113) (by decide +kernel))) rfl) rfl ⟨by decide +kernel, by decide +kernel, by decide +kernel⟩ rfl rfl ⟨Nat.le_of_ble_eq_true rfl, Nat.le_of_ble_eq_true rfl⟩ (pr_mo [.ref (n + 19), .ref (n + 1), .ref (n + 14)] hW (by rw [List.length_cons, len_B2]) hK hAO) rfl rfl (Nat.le_of_ble_eq_true rfl) dk_B_39 ⟨Nat.le_of_ble_eq_true rfl, Nat.le_of_ble_eq_true rfl⟩ (fun H locs hW => ?_)
  have hW : rwC (bt_D P) n ((.inr (0, [.ref (n + 1), .ref (n + 14), .null, .null, .null, .null, .null, .null, .null])) :: (eB3 P n)) s.heap H locs := hW
  refine cr_putF (own := "BellTrees") (C := bt_R0) (T := bt_T0) (N := 9) (j := 0) (ty := ((.object "BellTrees$Sounds"))) (v := .ref (n + 19)) hx hb hts bt_inG0 bt_ty0 bt_tyok0 bt_nm0 hown hK hW rfl rfl 2 (by decide) (bt_gin (bt_tin2 (List.mem_of_getElem? (i := 3) (by decide +kernel))) rfl) rfl rfl hin rfl (by decide +kernel) rfl rfl (Nat.le_of_ble_eq_true rfl) dk_B_42 rfl (fun H locs hW => ?_)
  have hW : rwC (bt_D P) n ((.inr (0, [.ref (n + 1), .ref (n + 14), .ref (n + 19), .null, .null, .null, .null, .null, .null])) :: (eB3 P n)) s.heap H locs := hW
  refine lv_aload_n hx hb dk_B_45 rfl (lv_at hl 0 rfl) ?_
  refine cr_newA (own := "BellTrees") (ci := 3) (k := 30) (C := bt_R3) (T := bt_T3) (N := 4) (fs := [.null, .null, .null, .null]) hx hb hts bt_inG3 bt_ty3 bt_tyok3 hown (bt_gin (bt_tin1 (List.mem_of_getElem? (i := 111) (by decide +kernel))) rfl) (bt_gin bt_inst3 rfl) gw_So_l hK hW rfl bd_So (Nat.le_of_ble_eq_true rfl) (Nat.le_of_ble_eq_true rfl) dk_B_46 (by rw [List.length_cons, len_B3]) (fun H hW => ?_)
  refine lv_dup hx hb dk_B_49 rfl ?_
  refine lv_aload_n hx hb dk_B_50 rfl (lv_at hl 0 rfl) ?_
  refine cr_get (own := "BellTrees") (C := bt_R0) (T := bt_T0) (N := 9) (j := 0) (fs := [.ref (n + 1), .ref (n + 14), .ref (n + 19), .null, .null, .null, .null, .null, .null]) (v := .ref (n + 1)) hx hb hts bt_inG0 hown hK hW rfl rfl 0 (by decide) (bt_gin (bt_tin2 (List.mem_of_getElem? (i := 1) (by decide +kernel))) rfl) rfl rfl dk_B_51 rfl ?_
  refine lv_aload_n hx hb dk_B_54 rfl (lv_at hl 0 rfl) ?_
  refine cr_get (own := "BellTrees") (C := bt_R0) (T := bt_T0) (N := 9) (j := 0) (fs := [.ref (n + 1), .ref (n + 14), .ref (n + 19), .null, .null, .null, .null, .null, .null]) (v := .ref (n + 14)) hx hb hts bt_inG0 hown hK hW rfl rfl 1 (by decide) (bt_gin (bt_tin2 (List.mem_of_getElem? (i := 2) (by decide +kernel))) rfl) rfl rfl dk_B_55 rfl ?_
  refine cr_ctorI (own := "BellTrees") (As := [.ref (n + 1), .ref (n + 14)]) (rest := [.ref (n + 30), .ref n]) (na := 2) hx hb hml hown hts hl.1 hW (by rw [List.length_cons, len_B3]) (cc_So P (n + 30) ((n + 1)) ((n + 14))) gw_So_c gw_So_l gw_So_i (bt_gin (bt_tin1 (List.mem_of_getElem? (i := 113) (by decide +kernel))) rfl) rfl ⟨by decide +kernel, by decide +kernel, by decide +kernel⟩ rfl rfl ⟨Nat.le_of_ble_eq_true rfl, Nat.le_of_ble_eq_true rfl⟩ (pr_mo [.ref (n + 30), .ref (n + 1), .ref (n + 14)] hW (by rw [List.length_cons, len_B3]) hK hAO) rfl rfl (Nat.le_of_ble_eq_true rfl) dk_B_58 ⟨Nat.le_of_ble_eq_true rfl, Nat.le_of_ble_eq_true rfl⟩ (fun H locs hW => ?_)
  have hW : rwC (bt_D P) n ((.inr (0, [.ref (n + 1), .ref (n + 14), .ref (n + 19), .null, .null, .null, .null, .null, .null])) :: (eB4 P n)) s.heap H locs := hW
  refine cr_putF (own := "BellTrees") (C := bt_R0) (T := bt_T0) (N := 9) (j := 0) (ty := ((.object "BellTrees$Sounds"))) (v := .ref (n + 30)) hx hb hts bt_inG0 bt_ty0 bt_tyok0 bt_nm0 hown hK hW rfl rfl 3 (by decide) (bt_gin (bt_tin2 (List.mem_of_getElem? (i := 4) (by decide +kernel))) rfl) rfl rfl hin rfl (by decide +kernel) rfl rfl (Nat.le_of_ble_eq_true rfl) dk_B_61 rfl (fun H locs hW => ?_)
  have hW : rwC (bt_D P) n ((.inr (0, [.ref (n + 1), .ref (n + 14), .ref (n + 19), .ref (n + 30), .null, .null, .null, .null, .null])) :: (eB4 P n)) s.heap H locs := hW
  refine lv_aload_n hx hb dk_B_64 rfl (lv_at hl 0 rfl) ?_
  refine cr_newA (own := "BellTrees") (ci := 4) (k := 41) (C := bt_R4) (T := bt_T4) (N := 2) (fs := [.null, .null]) hx hb hts bt_inG4 bt_ty4 bt_tyok4 hown (bt_gin (bt_tin1 (List.mem_of_getElem? (i := 131) (by decide +kernel))) rfl) (bt_gin bt_inst4 rfl) gw_Wa_l hK hW rfl bd_Wa (Nat.le_of_ble_eq_true rfl) (Nat.le_of_ble_eq_true rfl) dk_B_65 (by rw [List.length_cons, len_B4]) (fun H hW => ?_)
  refine lv_dup hx hb dk_B_68 rfl ?_
  refine lv_aload_n hx hb dk_B_69 rfl (lv_at hl 0 rfl) ?_
  refine cr_get (own := "BellTrees") (C := bt_R0) (T := bt_T0) (N := 9) (j := 0) (fs := [.ref (n + 1), .ref (n + 14), .ref (n + 19), .ref (n + 30), .null, .null, .null, .null, .null]) (v := .ref (n + 1)) hx hb hts bt_inG0 hown hK hW rfl rfl 0 (by decide) (bt_gin (bt_tin2 (List.mem_of_getElem? (i := 1) (by decide +kernel))) rfl) rfl rfl dk_B_70 rfl ?_
  refine cr_ctorI (own := "BellTrees") (As := [.ref (n + 1)]) (rest := [.ref (n + 41), .ref n]) (na := 1) hx hb hml hown hts hl.1 hW (by rw [List.length_cons, len_B4]) (cc_Wa P (n + 41) ((n + 1))) gw_Wa_c gw_Wa_l gw_Wa_i (bt_gin (bt_tin1 (List.mem_of_getElem? (i := 133) (by decide +kernel))) rfl) rfl ⟨by decide +kernel, by decide +kernel, by decide +kernel⟩ rfl rfl ⟨Nat.le_of_ble_eq_true rfl, Nat.le_of_ble_eq_true rfl⟩ (pr_mo [.ref (n + 41), .ref (n + 1)] hW (by rw [List.length_cons, len_B4]) hK hAO) rfl rfl (Nat.le_of_ble_eq_true rfl) dk_B_73 ⟨Nat.le_of_ble_eq_true rfl, Nat.le_of_ble_eq_true rfl⟩ (fun H locs hW => ?_)
  have hW : rwC (bt_D P) n ((.inr (0, [.ref (n + 1), .ref (n + 14), .ref (n + 19), .ref (n + 30), .null, .null, .null, .null, .null])) :: (eB5 P n)) s.heap H locs := hW
  refine cr_putF (own := "BellTrees") (C := bt_R0) (T := bt_T0) (N := 9) (j := 0) (ty := ((.object "BellTrees$Walks"))) (v := .ref (n + 41)) hx hb hts bt_inG0 bt_ty0 bt_tyok0 bt_nm0 hown hK hW rfl rfl 4 (by decide) (bt_gin (bt_tin2 (List.mem_of_getElem? (i := 5) (by decide +kernel))) rfl) rfl rfl hin rfl (by decide +kernel) rfl rfl (Nat.le_of_ble_eq_true rfl) dk_B_76 rfl (fun H locs hW => ?_)
  have hW : rwC (bt_D P) n ((.inr (0, [.ref (n + 1), .ref (n + 14), .ref (n + 19), .ref (n + 30), .ref (n + 41), .null, .null, .null, .null])) :: (eB5 P n)) s.heap H locs := hW
  refine lv_aload_n hx hb dk_B_79 rfl (lv_at hl 0 rfl) ?_
  refine cr_newA (own := "BellTrees") (ci := 5) (k := 67) (C := bt_R5) (T := bt_T5) (N := 6) (fs := [.null, .null, .null, .null, .int 0, .int 0]) hx hb hts bt_inG5 bt_ty5 bt_tyok5 hown (bt_gin (bt_tin1 (List.mem_of_getElem? (i := 145) (by decide +kernel))) rfl) (bt_gin bt_inst5 rfl) gw_Ch_l hK hW rfl bd_Ch (Nat.le_of_ble_eq_true rfl) (Nat.le_of_ble_eq_true rfl) dk_B_80 (by rw [List.length_cons, len_B5]) (fun H hW => ?_)
  refine lv_dup hx hb dk_B_83 rfl ?_
  refine cr_ctorN (own := "BellTrees") (As := []) (rest := [.ref (n + 67), .ref n]) (na := 0) hx hb hml hown hts hl.1 hW (by rw [List.length_cons, len_B5]) (cc_Ch P (n + 67)) gw_Ch_c gw_Ch_l gw_Ch_i (hNW _ (List.mem_of_getElem? (i := 1) rfl)) rfl ⟨by decide +kernel, by decide +kernel, by decide +kernel⟩ rfl rfl ⟨Nat.le_of_ble_eq_true rfl, Nat.le_of_ble_eq_true rfl⟩ (pr_plain [.ref (n + 67)] hW (by rw [List.length_cons, len_B5]) hK) rfl rfl (Nat.le_of_ble_eq_true rfl) dk_B_84 ⟨Nat.le_of_ble_eq_true rfl, Nat.le_of_ble_eq_true rfl⟩ (fun H locs hW => ?_)
  have hW : rwC (bt_D P) n ((.inr (0, [.ref (n + 1), .ref (n + 14), .ref (n + 19), .ref (n + 30), .ref (n + 41), .null, .null, .null, .null])) :: (eB6 P n)) s.heap H locs := hW
  refine cr_putF (own := "BellTrees") (C := bt_R0) (T := bt_T0) (N := 9) (j := 0) (ty := ((.object "BellTrees$Changes"))) (v := .ref (n + 67)) hx hb hts bt_inG0 bt_ty0 bt_tyok0 bt_nm0 hown hK hW rfl rfl 5 (by decide) (bt_gin (bt_tin2 (List.mem_of_getElem? (i := 6) (by decide +kernel))) rfl) rfl rfl hin rfl (by decide +kernel) rfl rfl (Nat.le_of_ble_eq_true rfl) dk_B_87 rfl (fun H locs hW => ?_)
  have hW : rwC (bt_D P) n ((.inr (0, [.ref (n + 1), .ref (n + 14), .ref (n + 19), .ref (n + 30), .ref (n + 41), .ref (n + 67), .null, .null, .null])) :: (eB6 P n)) s.heap H locs := hW
  refine lv_aload_n hx hb dk_B_90 rfl (lv_at hl 0 rfl) ?_
  refine cr_newA (own := "BellTrees") (ci := 6) (k := 72) (C := bt_R6) (T := bt_T6) (N := 7) (fs := [.null, .null, .null, .null, .int 0, .int 0, .int 0]) hx hb hts bt_inG6 bt_ty6 bt_tyok6 hown (bt_gin (bt_tin1 (List.mem_of_getElem? (i := 170) (by decide +kernel))) rfl) (bt_gin bt_inst6 rfl) gw_Im_l hK hW rfl bd_Im (Nat.le_of_ble_eq_true rfl) (Nat.le_of_ble_eq_true rfl) dk_B_91 (by rw [List.length_cons, len_B6]) (fun H hW => ?_)
  refine lv_dup hx hb dk_B_94 rfl ?_
  refine cr_ctorN (own := "BellTrees") (As := []) (rest := [.ref (n + 72), .ref n]) (na := 0) hx hb hml hown hts hl.1 hW (by rw [List.length_cons, len_B6]) (cc_Im P (n + 72)) gw_Im_c gw_Im_l gw_Im_i (hNW _ (List.mem_of_getElem? (i := 2) rfl)) rfl ⟨by decide +kernel, by decide +kernel, by decide +kernel⟩ rfl rfl ⟨Nat.le_of_ble_eq_true rfl, Nat.le_of_ble_eq_true rfl⟩ (pr_plain [.ref (n + 72)] hW (by rw [List.length_cons, len_B6]) hK) rfl rfl (Nat.le_of_ble_eq_true rfl) dk_B_95 ⟨Nat.le_of_ble_eq_true rfl, Nat.le_of_ble_eq_true rfl⟩ (fun H locs hW => ?_)
  have hW : rwC (bt_D P) n ((.inr (0, [.ref (n + 1), .ref (n + 14), .ref (n + 19), .ref (n + 30), .ref (n + 41), .ref (n + 67), .null, .null, .null])) :: (eB7 P n)) s.heap H locs := hW
  refine cr_putF (own := "BellTrees") (C := bt_R0) (T := bt_T0) (N := 9) (j := 0) (ty := ((.object "BellTrees$Image"))) (v := .ref (n + 72)) hx hb hts bt_inG0 bt_ty0 bt_tyok0 bt_nm0 hown hK hW rfl rfl 6 (by decide) (bt_gin (bt_tin2 (List.mem_of_getElem? (i := 7) (by decide +kernel))) rfl) rfl rfl hin rfl (by decide +kernel) rfl rfl (Nat.le_of_ble_eq_true rfl) dk_B_98 rfl (fun H locs hW => ?_)
  have hW : rwC (bt_D P) n ((.inr (0, [.ref (n + 1), .ref (n + 14), .ref (n + 19), .ref (n + 30), .ref (n + 41), .ref (n + 67), .ref (n + 72), .null, .null])) :: (eB7 P n)) s.heap H locs := hW
  refine lv_aload_n hx hb dk_B_101 rfl (lv_at hl 0 rfl) ?_
  refine cr_newA (own := "BellTrees") (ci := 7) (k := 77) (C := bt_R7) (T := bt_T7) (N := 5) (fs := [.null, .null, .int 0, .int 0, .int 0]) hx hb hts bt_inG7 bt_ty7 bt_tyok7 hown (bt_gin (bt_tin1 (List.mem_of_getElem? (i := 198) (by decide +kernel))) rfl) (bt_gin bt_inst7 rfl) gw_Bo_l hK hW rfl bd_Bo (Nat.le_of_ble_eq_true rfl) (Nat.le_of_ble_eq_true rfl) dk_B_102 (by rw [List.length_cons, len_B7]) (fun H hW => ?_)
  refine lv_dup hx hb dk_B_105 rfl ?_
  refine cr_ctorN (own := "BellTrees") (As := []) (rest := [.ref (n + 77), .ref n]) (na := 0) hx hb hml hown hts hl.1 hW (by rw [List.length_cons, len_B7]) (cc_Bo P (n + 77)) gw_Bo_c gw_Bo_l gw_Bo_i (hNW _ (List.mem_of_getElem? (i := 3) rfl)) rfl ⟨by decide +kernel, by decide +kernel, by decide +kernel⟩ rfl rfl ⟨Nat.le_of_ble_eq_true rfl, Nat.le_of_ble_eq_true rfl⟩ (pr_plain [.ref (n + 77)] hW (by rw [List.length_cons, len_B7]) hK) rfl rfl (Nat.le_of_ble_eq_true rfl) dk_B_106 ⟨Nat.le_of_ble_eq_true rfl, Nat.le_of_ble_eq_true rfl⟩ (fun H locs hW => ?_)
  have hW : rwC (bt_D P) n ((.inr (0, [.ref (n + 1), .ref (n + 14), .ref (n + 19), .ref (n + 30), .ref (n + 41), .ref (n + 67), .ref (n + 72), .null, .null])) :: (eB8 P n)) s.heap H locs := hW
  refine cr_putF (own := "BellTrees") (C := bt_R0) (T := bt_T0) (N := 9) (j := 0) (ty := ((.object "BellTrees$Bodies"))) (v := .ref (n + 77)) hx hb hts bt_inG0 bt_ty0 bt_tyok0 bt_nm0 hown hK hW rfl rfl 7 (by decide) (bt_gin (bt_tin2 (List.mem_of_getElem? (i := 8) (by decide +kernel))) rfl) rfl rfl hin rfl (by decide +kernel) rfl rfl (Nat.le_of_ble_eq_true rfl) dk_B_109 rfl (fun H locs hW => ?_)
  have hW : rwC (bt_D P) n ((.inr (0, [.ref (n + 1), .ref (n + 14), .ref (n + 19), .ref (n + 30), .ref (n + 41), .ref (n + 67), .ref (n + 72), .ref (n + 77), .null])) :: (eB8 P n)) s.heap H locs := hW
  refine lv_aload_n hx hb dk_B_112 rfl (lv_at hl 0 rfl) ?_
  refine lv_bipush hx hb dk_B_113 rfl ?_
  obtain ⟨_, _, _, _, _, hf5⟩ := (hK.2 5 _ rfl).2
  refine cr_anew (C := "BellTrees$Shelf") (N' := 6) hx hb hown (hts _ (bt_gin (bt_tin1 (List.mem_of_getElem? (i := 220) (by decide +kernel))) rfl)) hAS hf5 hW (by decide) (by decide) (Nat.le_of_ble_eq_true rfl) (Nat.le_of_ble_eq_true rfl) (Nat.le_of_ble_eq_true rfl) dk_B_115 (fun H hW => ?_)
  have hW : rwC (bt_D P) n ((.inr (0, [.ref (n + 1), .ref (n + 14), .ref (n + 19), .ref (n + 30), .ref (n + 41), .ref (n + 67), .ref (n + 72), .ref (n + 77), .null])) :: (eB8 P n ++ (.inl (bt_dA P 5, 6, .inr (.inr (.inr (.inr (fun _ => none)))))) :: ([]))) s.heap H locs := hW
  refine W.eq (g2 := F0 m 118 ls [.ref (n + 80), .ref n]) (by rw [List.length_cons, len_B8]) ?_
  refine cr_putF (own := "BellTrees") (C := bt_R0) (T := bt_T0) (N := 9) (j := 0) (ty := ((.array (.object "BellTrees$Shelf")))) (v := .ref (n + 80)) hx hb hts bt_inG0 bt_ty0 bt_tyok0 bt_nm0 hown hK hW rfl rfl 8 (by decide) (bt_gin (bt_tin2 (List.mem_of_getElem? (i := 9) (by decide +kernel))) rfl) rfl rfl hin rfl (by decide +kernel) rfl rfl (Nat.le_of_ble_eq_true rfl) dk_B_118 rfl (fun H locs hW => ?_)
  have hW : rwC (bt_D P) n ((.inr (0, [.ref (n + 1), .ref (n + 14), .ref (n + 19), .ref (n + 30), .ref (n + 41), .ref (n + 67), .ref (n + 72), .ref (n + 77), .ref (n + 80)])) :: (eB8 P n ++ (.inl (bt_dA P 5, 6, .inr (.inr (.inr (.inr (fun _ => none)))))) :: ([]))) s.heap H locs := hW
  refine lv_iconst (v := 0) hx hb dk_B_121 rfl ?_
  refine lv_istore_n (lv' := [(1, .int 0), (0, .ref n)]) hx hb dk_B_122 rfl hl (by decide) rfl (fun ls hl => ?_)
  refine lv_iload_n hx hb dk_B_123 rfl (lv_at hl 0 rfl) ?_
  refine lv_bipush hx hb dk_B_124 rfl ?_
  refine lv_icmp_ge (tgt := 148) hx hb dk_B_126 rfl (fun q => absurd q (by decide)) (fun _ => ?_)
  refine lv_aload_n hx hb dk_B_129 rfl (lv_at hl 1 rfl) ?_
  refine cr_get (own := "BellTrees") (C := bt_R0) (T := bt_T0) (N := 9) (j := 0) (fs := [.ref (n + 1), .ref (n + 14), .ref (n + 19), .ref (n + 30), .ref (n + 41), .ref (n + 67), .ref (n + 72), .ref (n + 77), .ref (n + 80)]) (v := .ref (n + 80)) hx hb hts bt_inG0 hown hK hW rfl rfl 8 (by decide) (bt_gin (bt_tin2 (List.mem_of_getElem? (i := 9) (by decide +kernel))) rfl) rfl rfl dk_B_130 rfl ?_
  refine lv_iload_n hx hb dk_B_133 rfl (lv_at hl 0 rfl) ?_
  refine cr_newA (own := "BellTrees") (ci := 8) (k := 81) (C := bt_R8) (T := bt_T8) (N := 4) (fs := [.null, .int 0, .int 0, .int 0]) hx hb hts bt_inG8 bt_ty8 bt_tyok8 hown (bt_gin (bt_tin1 (List.mem_of_getElem? (i := 220) (by decide +kernel))) rfl) (bt_gin bt_inst8 rfl) gw_Sh_l hK hW rfl bd_Sh (Nat.le_of_ble_eq_true rfl) (Nat.le_of_ble_eq_true rfl) dk_B_134 (by simp only [List.length_cons, List.length_append, List.length_nil, len_B8, len_Sh]) (fun H hW => ?_)
  refine lv_dup hx hb dk_B_137 rfl ?_
  refine cr_ctorN (own := "BellTrees") (As := []) (rest := [.ref (n + 81), .int 0, .ref (n + 80)]) (na := 0) hx hb hml hown hts hl.1 hW (by simp only [List.length_cons, List.length_append, List.length_nil, len_B8, len_Sh]) (cc_Sh P (n + 81)) gw_Sh_c gw_Sh_l gw_Sh_i (hNW _ (List.mem_of_getElem? (i := 4) rfl)) rfl ⟨by decide +kernel, by decide +kernel, by decide +kernel⟩ rfl rfl ⟨Nat.le_of_ble_eq_true rfl, Nat.le_of_ble_eq_true rfl⟩ (pr_plain [.ref (n + 81)] hW (by simp only [List.length_cons, List.length_append, List.length_nil, len_B8, len_Sh]) hK) rfl rfl (Nat.le_of_ble_eq_true rfl) dk_B_138 ⟨Nat.le_of_ble_eq_true rfl, Nat.le_of_ble_eq_true rfl⟩ (fun H locs hW => ?_)
  have hW : rwC (bt_D P) n ((.inr (0, [.ref (n + 1), .ref (n + 14), .ref (n + 19), .ref (n + 30), .ref (n + 41), .ref (n + 67), .ref (n + 72), .ref (n + 77), .ref (n + 80)])) :: (eB8 P n ++ (.inl (bt_dA P 5, 6, .inr (.inr (.inr (.inr (fun _ => none)))))) :: (([]) ++ ec_Sh P (n + 81)))) s.heap H locs := by
    rw [app_mid] at hW
    exact hW
  refine cr_aast (j := 80) (jv := 81) (t0 := 5) (r := (bt_R8, bt_T8, 4)) (ci := 8) (n1 := 6) (f := (fun _ => none)) (i := 0) (v := n + 81) hx hb hK rfl hW (at_mid _ _ _ _ 80 (by rw [len_B8])) (at_end _ _ _ ([]) _ _ 81 (by simp only [List.length_cons, List.length_append, List.length_nil, len_B8, len_Sh])) rfl (ti_in (n := 0) (by decide) (by decide)) dk_B_141 rfl rfl (fun H locs hW => ?_)
  have hW : rwC (bt_D P) n ((.inr (0, [.ref (n + 1), .ref (n + 14), .ref (n + 19), .ref (n + 30), .ref (n + 41), .ref (n + 67), .ref (n + 72), .ref (n + 77), .ref (n + 80)])) :: (eB8 P n ++ (.inl (bt_dA P 5, 6, .inr (.inr (.inr (.inr (va_up (fun _ => none) 0 (some (n + 81)))))))) :: (ec_Sh P (n + 81)))) s.heap H locs := by
    rw [set_mid _ _ _ _ _ 80 (by rw [len_B8])] at hW
    exact hW
  refine lv_iinc (lv' := [(1, .int 1), (0, .ref n)]) hx hb dk_B_142 hl (k := 0) rfl rfl (by decide) rfl (fun ls hl => ?_)
  refine lv_goto (tgt := 123) hx hb dk_B_145 rfl ?_
  refine lv_iload_n hx hb dk_B_123 rfl (lv_at hl 0 rfl) ?_
  refine lv_bipush hx hb dk_B_124 rfl ?_
  refine lv_icmp_ge (tgt := 148) hx hb dk_B_126 rfl (fun q => absurd q (by decide)) (fun _ => ?_)
  refine lv_aload_n hx hb dk_B_129 rfl (lv_at hl 1 rfl) ?_
  refine cr_get (own := "BellTrees") (C := bt_R0) (T := bt_T0) (N := 9) (j := 0) (fs := [.ref (n + 1), .ref (n + 14), .ref (n + 19), .ref (n + 30), .ref (n + 41), .ref (n + 67), .ref (n + 72), .ref (n + 77), .ref (n + 80)]) (v := .ref (n + 80)) hx hb hts bt_inG0 hown hK hW rfl rfl 8 (by decide) (bt_gin (bt_tin2 (List.mem_of_getElem? (i := 9) (by decide +kernel))) rfl) rfl rfl dk_B_130 rfl ?_
  refine lv_iload_n hx hb dk_B_133 rfl (lv_at hl 0 rfl) ?_
  refine cr_newA (own := "BellTrees") (ci := 8) (k := 83) (C := bt_R8) (T := bt_T8) (N := 4) (fs := [.null, .int 0, .int 0, .int 0]) hx hb hts bt_inG8 bt_ty8 bt_tyok8 hown (bt_gin (bt_tin1 (List.mem_of_getElem? (i := 220) (by decide +kernel))) rfl) (bt_gin bt_inst8 rfl) gw_Sh_l hK hW rfl bd_Sh (Nat.le_of_ble_eq_true rfl) (Nat.le_of_ble_eq_true rfl) dk_B_134 (by simp only [List.length_cons, List.length_append, List.length_nil, len_B8, len_Sh]) (fun H hW => ?_)
  refine lv_dup hx hb dk_B_137 rfl ?_
  refine cr_ctorN (own := "BellTrees") (As := []) (rest := [.ref (n + 83), .int 1, .ref (n + 80)]) (na := 0) hx hb hml hown hts hl.1 hW (by simp only [List.length_cons, List.length_append, List.length_nil, len_B8, len_Sh]) (cc_Sh P (n + 83)) gw_Sh_c gw_Sh_l gw_Sh_i (hNW _ (List.mem_of_getElem? (i := 4) rfl)) rfl ⟨by decide +kernel, by decide +kernel, by decide +kernel⟩ rfl rfl ⟨Nat.le_of_ble_eq_true rfl, Nat.le_of_ble_eq_true rfl⟩ (pr_plain [.ref (n + 83)] hW (by simp only [List.length_cons, List.length_append, List.length_nil, len_B8, len_Sh]) hK) rfl rfl (Nat.le_of_ble_eq_true rfl) dk_B_138 ⟨Nat.le_of_ble_eq_true rfl, Nat.le_of_ble_eq_true rfl⟩ (fun H locs hW => ?_)
  have hW : rwC (bt_D P) n ((.inr (0, [.ref (n + 1), .ref (n + 14), .ref (n + 19), .ref (n + 30), .ref (n + 41), .ref (n + 67), .ref (n + 72), .ref (n + 77), .ref (n + 80)])) :: (eB8 P n ++ (.inl (bt_dA P 5, 6, .inr (.inr (.inr (.inr (va_up (fun _ => none) 0 (some (n + 81)))))))) :: ((ec_Sh P (n + 81)) ++ ec_Sh P (n + 83)))) s.heap H locs := by
    rw [app_mid] at hW
    exact hW
  refine cr_aast (j := 80) (jv := 83) (t0 := 5) (r := (bt_R8, bt_T8, 4)) (ci := 8) (n1 := 6) (f := (va_up (fun _ => none) 0 (some (n + 81)))) (i := 1) (v := n + 83) hx hb hK rfl hW (at_mid _ _ _ _ 80 (by rw [len_B8])) (at_end _ _ _ (ec_Sh P (n + 81)) _ _ 83 (by simp only [List.length_cons, List.length_append, List.length_nil, len_B8, len_Sh])) rfl (ti_in (n := 1) (by decide) (by decide)) dk_B_141 rfl rfl (fun H locs hW => ?_)
  have hW : rwC (bt_D P) n ((.inr (0, [.ref (n + 1), .ref (n + 14), .ref (n + 19), .ref (n + 30), .ref (n + 41), .ref (n + 67), .ref (n + 72), .ref (n + 77), .ref (n + 80)])) :: (eB8 P n ++ (.inl (bt_dA P 5, 6, .inr (.inr (.inr (.inr (va_up (va_up (fun _ => none) 0 (some (n + 81))) 1 (some (n + 83)))))))) :: (ec_Sh P (n + 81) ++ ec_Sh P (n + 83)))) s.heap H locs := by
    rw [set_mid _ _ _ _ _ 80 (by rw [len_B8])] at hW
    exact hW
  refine lv_iinc (lv' := [(1, .int 2), (0, .ref n)]) hx hb dk_B_142 hl (k := 0) rfl rfl (by decide) rfl (fun ls hl => ?_)
  refine lv_goto (tgt := 123) hx hb dk_B_145 rfl ?_
  refine lv_iload_n hx hb dk_B_123 rfl (lv_at hl 0 rfl) ?_
  refine lv_bipush hx hb dk_B_124 rfl ?_
  refine lv_icmp_ge (tgt := 148) hx hb dk_B_126 rfl (fun q => absurd q (by decide)) (fun _ => ?_)
  refine lv_aload_n hx hb dk_B_129 rfl (lv_at hl 1 rfl) ?_
  refine cr_get (own := "BellTrees") (C := bt_R0) (T := bt_T0) (N := 9) (j := 0) (fs := [.ref (n + 1), .ref (n + 14), .ref (n + 19), .ref (n + 30), .ref (n + 41), .ref (n + 67), .ref (n + 72), .ref (n + 77), .ref (n + 80)]) (v := .ref (n + 80)) hx hb hts bt_inG0 hown hK hW rfl rfl 8 (by decide) (bt_gin (bt_tin2 (List.mem_of_getElem? (i := 9) (by decide +kernel))) rfl) rfl rfl dk_B_130 rfl ?_
  refine lv_iload_n hx hb dk_B_133 rfl (lv_at hl 0 rfl) ?_
  refine cr_newA (own := "BellTrees") (ci := 8) (k := 85) (C := bt_R8) (T := bt_T8) (N := 4) (fs := [.null, .int 0, .int 0, .int 0]) hx hb hts bt_inG8 bt_ty8 bt_tyok8 hown (bt_gin (bt_tin1 (List.mem_of_getElem? (i := 220) (by decide +kernel))) rfl) (bt_gin bt_inst8 rfl) gw_Sh_l hK hW rfl bd_Sh (Nat.le_of_ble_eq_true rfl) (Nat.le_of_ble_eq_true rfl) dk_B_134 (by simp only [List.length_cons, List.length_append, List.length_nil, len_B8, len_Sh]) (fun H hW => ?_)
  refine lv_dup hx hb dk_B_137 rfl ?_
  refine cr_ctorN (own := "BellTrees") (As := []) (rest := [.ref (n + 85), .int 2, .ref (n + 80)]) (na := 0) hx hb hml hown hts hl.1 hW (by simp only [List.length_cons, List.length_append, List.length_nil, len_B8, len_Sh]) (cc_Sh P (n + 85)) gw_Sh_c gw_Sh_l gw_Sh_i (hNW _ (List.mem_of_getElem? (i := 4) rfl)) rfl ⟨by decide +kernel, by decide +kernel, by decide +kernel⟩ rfl rfl ⟨Nat.le_of_ble_eq_true rfl, Nat.le_of_ble_eq_true rfl⟩ (pr_plain [.ref (n + 85)] hW (by simp only [List.length_cons, List.length_append, List.length_nil, len_B8, len_Sh]) hK) rfl rfl (Nat.le_of_ble_eq_true rfl) dk_B_138 ⟨Nat.le_of_ble_eq_true rfl, Nat.le_of_ble_eq_true rfl⟩ (fun H locs hW => ?_)
  have hW : rwC (bt_D P) n ((.inr (0, [.ref (n + 1), .ref (n + 14), .ref (n + 19), .ref (n + 30), .ref (n + 41), .ref (n + 67), .ref (n + 72), .ref (n + 77), .ref (n + 80)])) :: (eB8 P n ++ (.inl (bt_dA P 5, 6, .inr (.inr (.inr (.inr (va_up (va_up (fun _ => none) 0 (some (n + 81))) 1 (some (n + 83)))))))) :: ((ec_Sh P (n + 81) ++ ec_Sh P (n + 83)) ++ ec_Sh P (n + 85)))) s.heap H locs := by
    rw [app_mid] at hW
    exact hW
  refine cr_aast (j := 80) (jv := 85) (t0 := 5) (r := (bt_R8, bt_T8, 4)) (ci := 8) (n1 := 6) (f := (va_up (va_up (fun _ => none) 0 (some (n + 81))) 1 (some (n + 83)))) (i := 2) (v := n + 85) hx hb hK rfl hW (at_mid _ _ _ _ 80 (by rw [len_B8])) (at_end _ _ _ (ec_Sh P (n + 81) ++ ec_Sh P (n + 83)) _ _ 85 (by simp only [List.length_cons, List.length_append, List.length_nil, len_B8, len_Sh])) rfl (ti_in (n := 2) (by decide) (by decide)) dk_B_141 rfl rfl (fun H locs hW => ?_)
  have hW : rwC (bt_D P) n ((.inr (0, [.ref (n + 1), .ref (n + 14), .ref (n + 19), .ref (n + 30), .ref (n + 41), .ref (n + 67), .ref (n + 72), .ref (n + 77), .ref (n + 80)])) :: (eB8 P n ++ (.inl (bt_dA P 5, 6, .inr (.inr (.inr (.inr (va_up (va_up (va_up (fun _ => none) 0 (some (n + 81))) 1 (some (n + 83))) 2 (some (n + 85)))))))) :: (ec_Sh P (n + 81) ++ ec_Sh P (n + 83) ++ ec_Sh P (n + 85)))) s.heap H locs := by
    rw [set_mid _ _ _ _ _ 80 (by rw [len_B8])] at hW
    exact hW
  refine lv_iinc (lv' := [(1, .int 3), (0, .ref n)]) hx hb dk_B_142 hl (k := 0) rfl rfl (by decide) rfl (fun ls hl => ?_)
  refine lv_goto (tgt := 123) hx hb dk_B_145 rfl ?_
  refine lv_iload_n hx hb dk_B_123 rfl (lv_at hl 0 rfl) ?_
  refine lv_bipush hx hb dk_B_124 rfl ?_
  refine lv_icmp_ge (tgt := 148) hx hb dk_B_126 rfl (fun q => absurd q (by decide)) (fun _ => ?_)
  refine lv_aload_n hx hb dk_B_129 rfl (lv_at hl 1 rfl) ?_
  refine cr_get (own := "BellTrees") (C := bt_R0) (T := bt_T0) (N := 9) (j := 0) (fs := [.ref (n + 1), .ref (n + 14), .ref (n + 19), .ref (n + 30), .ref (n + 41), .ref (n + 67), .ref (n + 72), .ref (n + 77), .ref (n + 80)]) (v := .ref (n + 80)) hx hb hts bt_inG0 hown hK hW rfl rfl 8 (by decide) (bt_gin (bt_tin2 (List.mem_of_getElem? (i := 9) (by decide +kernel))) rfl) rfl rfl dk_B_130 rfl ?_
  refine lv_iload_n hx hb dk_B_133 rfl (lv_at hl 0 rfl) ?_
  refine cr_newA (own := "BellTrees") (ci := 8) (k := 87) (C := bt_R8) (T := bt_T8) (N := 4) (fs := [.null, .int 0, .int 0, .int 0]) hx hb hts bt_inG8 bt_ty8 bt_tyok8 hown (bt_gin (bt_tin1 (List.mem_of_getElem? (i := 220) (by decide +kernel))) rfl) (bt_gin bt_inst8 rfl) gw_Sh_l hK hW rfl bd_Sh (Nat.le_of_ble_eq_true rfl) (Nat.le_of_ble_eq_true rfl) dk_B_134 (by simp only [List.length_cons, List.length_append, List.length_nil, len_B8, len_Sh]) (fun H hW => ?_)
  refine lv_dup hx hb dk_B_137 rfl ?_
  refine cr_ctorN (own := "BellTrees") (As := []) (rest := [.ref (n + 87), .int 3, .ref (n + 80)]) (na := 0) hx hb hml hown hts hl.1 hW (by simp only [List.length_cons, List.length_append, List.length_nil, len_B8, len_Sh]) (cc_Sh P (n + 87)) gw_Sh_c gw_Sh_l gw_Sh_i (hNW _ (List.mem_of_getElem? (i := 4) rfl)) rfl ⟨by decide +kernel, by decide +kernel, by decide +kernel⟩ rfl rfl ⟨Nat.le_of_ble_eq_true rfl, Nat.le_of_ble_eq_true rfl⟩ (pr_plain [.ref (n + 87)] hW (by simp only [List.length_cons, List.length_append, List.length_nil, len_B8, len_Sh]) hK) rfl rfl (Nat.le_of_ble_eq_true rfl) dk_B_138 ⟨Nat.le_of_ble_eq_true rfl, Nat.le_of_ble_eq_true rfl⟩ (fun H locs hW => ?_)
  have hW : rwC (bt_D P) n ((.inr (0, [.ref (n + 1), .ref (n + 14), .ref (n + 19), .ref (n + 30), .ref (n + 41), .ref (n + 67), .ref (n + 72), .ref (n + 77), .ref (n + 80)])) :: (eB8 P n ++ (.inl (bt_dA P 5, 6, .inr (.inr (.inr (.inr (va_up (va_up (va_up (fun _ => none) 0 (some (n + 81))) 1 (some (n + 83))) 2 (some (n + 85)))))))) :: ((ec_Sh P (n + 81) ++ ec_Sh P (n + 83) ++ ec_Sh P (n + 85)) ++ ec_Sh P (n + 87)))) s.heap H locs := by
    rw [app_mid] at hW
    exact hW
  refine cr_aast (j := 80) (jv := 87) (t0 := 5) (r := (bt_R8, bt_T8, 4)) (ci := 8) (n1 := 6) (f := (va_up (va_up (va_up (fun _ => none) 0 (some (n + 81))) 1 (some (n + 83))) 2 (some (n + 85)))) (i := 3) (v := n + 87) hx hb hK rfl hW (at_mid _ _ _ _ 80 (by rw [len_B8])) (at_end _ _ _ (ec_Sh P (n + 81) ++ ec_Sh P (n + 83) ++ ec_Sh P (n + 85)) _ _ 87 (by simp only [List.length_cons, List.length_append, List.length_nil, len_B8, len_Sh])) rfl (ti_in (n := 3) (by decide) (by decide)) dk_B_141 rfl rfl (fun H locs hW => ?_)
  have hW : rwC (bt_D P) n ((.inr (0, [.ref (n + 1), .ref (n + 14), .ref (n + 19), .ref (n + 30), .ref (n + 41), .ref (n + 67), .ref (n + 72), .ref (n + 77), .ref (n + 80)])) :: (eB8 P n ++ (.inl (bt_dA P 5, 6, .inr (.inr (.inr (.inr (va_up (va_up (va_up (va_up (fun _ => none) 0 (some (n + 81))) 1 (some (n + 83))) 2 (some (n + 85))) 3 (some (n + 87)))))))) :: (ec_Sh P (n + 81) ++ ec_Sh P (n + 83) ++ ec_Sh P (n + 85) ++ ec_Sh P (n + 87)))) s.heap H locs := by
    rw [set_mid _ _ _ _ _ 80 (by rw [len_B8])] at hW
    exact hW
  refine lv_iinc (lv' := [(1, .int 4), (0, .ref n)]) hx hb dk_B_142 hl (k := 0) rfl rfl (by decide) rfl (fun ls hl => ?_)
  refine lv_goto (tgt := 123) hx hb dk_B_145 rfl ?_
  refine lv_iload_n hx hb dk_B_123 rfl (lv_at hl 0 rfl) ?_
  refine lv_bipush hx hb dk_B_124 rfl ?_
  refine lv_icmp_ge (tgt := 148) hx hb dk_B_126 rfl (fun q => absurd q (by decide)) (fun _ => ?_)
  refine lv_aload_n hx hb dk_B_129 rfl (lv_at hl 1 rfl) ?_
  refine cr_get (own := "BellTrees") (C := bt_R0) (T := bt_T0) (N := 9) (j := 0) (fs := [.ref (n + 1), .ref (n + 14), .ref (n + 19), .ref (n + 30), .ref (n + 41), .ref (n + 67), .ref (n + 72), .ref (n + 77), .ref (n + 80)]) (v := .ref (n + 80)) hx hb hts bt_inG0 hown hK hW rfl rfl 8 (by decide) (bt_gin (bt_tin2 (List.mem_of_getElem? (i := 9) (by decide +kernel))) rfl) rfl rfl dk_B_130 rfl ?_
  refine lv_iload_n hx hb dk_B_133 rfl (lv_at hl 0 rfl) ?_
  refine cr_newA (own := "BellTrees") (ci := 8) (k := 89) (C := bt_R8) (T := bt_T8) (N := 4) (fs := [.null, .int 0, .int 0, .int 0]) hx hb hts bt_inG8 bt_ty8 bt_tyok8 hown (bt_gin (bt_tin1 (List.mem_of_getElem? (i := 220) (by decide +kernel))) rfl) (bt_gin bt_inst8 rfl) gw_Sh_l hK hW rfl bd_Sh (Nat.le_of_ble_eq_true rfl) (Nat.le_of_ble_eq_true rfl) dk_B_134 (by simp only [List.length_cons, List.length_append, List.length_nil, len_B8, len_Sh]) (fun H hW => ?_)
  refine lv_dup hx hb dk_B_137 rfl ?_
  refine cr_ctorN (own := "BellTrees") (As := []) (rest := [.ref (n + 89), .int 4, .ref (n + 80)]) (na := 0) hx hb hml hown hts hl.1 hW (by simp only [List.length_cons, List.length_append, List.length_nil, len_B8, len_Sh]) (cc_Sh P (n + 89)) gw_Sh_c gw_Sh_l gw_Sh_i (hNW _ (List.mem_of_getElem? (i := 4) rfl)) rfl ⟨by decide +kernel, by decide +kernel, by decide +kernel⟩ rfl rfl ⟨Nat.le_of_ble_eq_true rfl, Nat.le_of_ble_eq_true rfl⟩ (pr_plain [.ref (n + 89)] hW (by simp only [List.length_cons, List.length_append, List.length_nil, len_B8, len_Sh]) hK) rfl rfl (Nat.le_of_ble_eq_true rfl) dk_B_138 ⟨Nat.le_of_ble_eq_true rfl, Nat.le_of_ble_eq_true rfl⟩ (fun H locs hW => ?_)
  have hW : rwC (bt_D P) n ((.inr (0, [.ref (n + 1), .ref (n + 14), .ref (n + 19), .ref (n + 30), .ref (n + 41), .ref (n + 67), .ref (n + 72), .ref (n + 77), .ref (n + 80)])) :: (eB8 P n ++ (.inl (bt_dA P 5, 6, .inr (.inr (.inr (.inr (va_up (va_up (va_up (va_up (fun _ => none) 0 (some (n + 81))) 1 (some (n + 83))) 2 (some (n + 85))) 3 (some (n + 87)))))))) :: ((ec_Sh P (n + 81) ++ ec_Sh P (n + 83) ++ ec_Sh P (n + 85) ++ ec_Sh P (n + 87)) ++ ec_Sh P (n + 89)))) s.heap H locs := by
    rw [app_mid] at hW
    exact hW
  refine cr_aast (j := 80) (jv := 89) (t0 := 5) (r := (bt_R8, bt_T8, 4)) (ci := 8) (n1 := 6) (f := (va_up (va_up (va_up (va_up (fun _ => none) 0 (some (n + 81))) 1 (some (n + 83))) 2 (some (n + 85))) 3 (some (n + 87)))) (i := 4) (v := n + 89) hx hb hK rfl hW (at_mid _ _ _ _ 80 (by rw [len_B8])) (at_end _ _ _ (ec_Sh P (n + 81) ++ ec_Sh P (n + 83) ++ ec_Sh P (n + 85) ++ ec_Sh P (n + 87)) _ _ 89 (by simp only [List.length_cons, List.length_append, List.length_nil, len_B8, len_Sh])) rfl (ti_in (n := 4) (by decide) (by decide)) dk_B_141 rfl rfl (fun H locs hW => ?_)
  have hW : rwC (bt_D P) n ((.inr (0, [.ref (n + 1), .ref (n + 14), .ref (n + 19), .ref (n + 30), .ref (n + 41), .ref (n + 67), .ref (n + 72), .ref (n + 77), .ref (n + 80)])) :: (eB8 P n ++ (.inl (bt_dA P 5, 6, .inr (.inr (.inr (.inr (va_up (va_up (va_up (va_up (va_up (fun _ => none) 0 (some (n + 81))) 1 (some (n + 83))) 2 (some (n + 85))) 3 (some (n + 87))) 4 (some (n + 89)))))))) :: (ec_Sh P (n + 81) ++ ec_Sh P (n + 83) ++ ec_Sh P (n + 85) ++ ec_Sh P (n + 87) ++ ec_Sh P (n + 89)))) s.heap H locs := by
    rw [set_mid _ _ _ _ _ 80 (by rw [len_B8])] at hW
    exact hW
  refine lv_iinc (lv' := [(1, .int 5), (0, .ref n)]) hx hb dk_B_142 hl (k := 0) rfl rfl (by decide) rfl (fun ls hl => ?_)
  refine lv_goto (tgt := 123) hx hb dk_B_145 rfl ?_
  refine lv_iload_n hx hb dk_B_123 rfl (lv_at hl 0 rfl) ?_
  refine lv_bipush hx hb dk_B_124 rfl ?_
  refine lv_icmp_ge (tgt := 148) hx hb dk_B_126 rfl (fun q => absurd q (by decide)) (fun _ => ?_)
  refine lv_aload_n hx hb dk_B_129 rfl (lv_at hl 1 rfl) ?_
  refine cr_get (own := "BellTrees") (C := bt_R0) (T := bt_T0) (N := 9) (j := 0) (fs := [.ref (n + 1), .ref (n + 14), .ref (n + 19), .ref (n + 30), .ref (n + 41), .ref (n + 67), .ref (n + 72), .ref (n + 77), .ref (n + 80)]) (v := .ref (n + 80)) hx hb hts bt_inG0 hown hK hW rfl rfl 8 (by decide) (bt_gin (bt_tin2 (List.mem_of_getElem? (i := 9) (by decide +kernel))) rfl) rfl rfl dk_B_130 rfl ?_
  refine lv_iload_n hx hb dk_B_133 rfl (lv_at hl 0 rfl) ?_
  refine cr_newA (own := "BellTrees") (ci := 8) (k := 91) (C := bt_R8) (T := bt_T8) (N := 4) (fs := [.null, .int 0, .int 0, .int 0]) hx hb hts bt_inG8 bt_ty8 bt_tyok8 hown (bt_gin (bt_tin1 (List.mem_of_getElem? (i := 220) (by decide +kernel))) rfl) (bt_gin bt_inst8 rfl) gw_Sh_l hK hW rfl bd_Sh (Nat.le_of_ble_eq_true rfl) (Nat.le_of_ble_eq_true rfl) dk_B_134 (by simp only [List.length_cons, List.length_append, List.length_nil, len_B8, len_Sh]) (fun H hW => ?_)
  refine lv_dup hx hb dk_B_137 rfl ?_
  refine cr_ctorN (own := "BellTrees") (As := []) (rest := [.ref (n + 91), .int 5, .ref (n + 80)]) (na := 0) hx hb hml hown hts hl.1 hW (by simp only [List.length_cons, List.length_append, List.length_nil, len_B8, len_Sh]) (cc_Sh P (n + 91)) gw_Sh_c gw_Sh_l gw_Sh_i (hNW _ (List.mem_of_getElem? (i := 4) rfl)) rfl ⟨by decide +kernel, by decide +kernel, by decide +kernel⟩ rfl rfl ⟨Nat.le_of_ble_eq_true rfl, Nat.le_of_ble_eq_true rfl⟩ (pr_plain [.ref (n + 91)] hW (by simp only [List.length_cons, List.length_append, List.length_nil, len_B8, len_Sh]) hK) rfl rfl (Nat.le_of_ble_eq_true rfl) dk_B_138 ⟨Nat.le_of_ble_eq_true rfl, Nat.le_of_ble_eq_true rfl⟩ (fun H locs hW => ?_)
  have hW : rwC (bt_D P) n ((.inr (0, [.ref (n + 1), .ref (n + 14), .ref (n + 19), .ref (n + 30), .ref (n + 41), .ref (n + 67), .ref (n + 72), .ref (n + 77), .ref (n + 80)])) :: (eB8 P n ++ (.inl (bt_dA P 5, 6, .inr (.inr (.inr (.inr (va_up (va_up (va_up (va_up (va_up (fun _ => none) 0 (some (n + 81))) 1 (some (n + 83))) 2 (some (n + 85))) 3 (some (n + 87))) 4 (some (n + 89)))))))) :: ((ec_Sh P (n + 81) ++ ec_Sh P (n + 83) ++ ec_Sh P (n + 85) ++ ec_Sh P (n + 87) ++ ec_Sh P (n + 89)) ++ ec_Sh P (n + 91)))) s.heap H locs := by
    rw [app_mid] at hW
    exact hW
  refine cr_aast (j := 80) (jv := 91) (t0 := 5) (r := (bt_R8, bt_T8, 4)) (ci := 8) (n1 := 6) (f := (va_up (va_up (va_up (va_up (va_up (fun _ => none) 0 (some (n + 81))) 1 (some (n + 83))) 2 (some (n + 85))) 3 (some (n + 87))) 4 (some (n + 89)))) (i := 5) (v := n + 91) hx hb hK rfl hW (at_mid _ _ _ _ 80 (by rw [len_B8])) (at_end _ _ _ (ec_Sh P (n + 81) ++ ec_Sh P (n + 83) ++ ec_Sh P (n + 85) ++ ec_Sh P (n + 87) ++ ec_Sh P (n + 89)) _ _ 91 (by simp only [List.length_cons, List.length_append, List.length_nil, len_B8, len_Sh])) rfl (ti_in (n := 5) (by decide) (by decide)) dk_B_141 rfl rfl (fun H locs hW => ?_)
  have hW : rwC (bt_D P) n ((.inr (0, [.ref (n + 1), .ref (n + 14), .ref (n + 19), .ref (n + 30), .ref (n + 41), .ref (n + 67), .ref (n + 72), .ref (n + 77), .ref (n + 80)])) :: (eB8 P n ++ (.inl (bt_dA P 5, 6, .inr (.inr (.inr (.inr (va_up (va_up (va_up (va_up (va_up (va_up (fun _ => none) 0 (some (n + 81))) 1 (some (n + 83))) 2 (some (n + 85))) 3 (some (n + 87))) 4 (some (n + 89))) 5 (some (n + 91)))))))) :: (ec_Sh P (n + 81) ++ ec_Sh P (n + 83) ++ ec_Sh P (n + 85) ++ ec_Sh P (n + 87) ++ ec_Sh P (n + 89) ++ ec_Sh P (n + 91)))) s.heap H locs := by
    rw [set_mid _ _ _ _ _ 80 (by rw [len_B8])] at hW
    exact hW
  refine lv_iinc (lv' := [(1, .int 6), (0, .ref n)]) hx hb dk_B_142 hl (k := 0) rfl rfl (by decide) rfl (fun ls hl => ?_)
  refine lv_goto (tgt := 123) hx hb dk_B_145 rfl ?_
  refine lv_iload_n hx hb dk_B_123 rfl (lv_at hl 0 rfl) ?_
  refine lv_bipush hx hb dk_B_124 rfl ?_
  refine lv_icmp_ge (tgt := 148) hx hb dk_B_126 rfl (fun _ => ?_) (fun q => absurd (by decide) q)
  exact W.vret hx hb hr (fun t ht _ => ⟨rfl, by rw [ht]; exact ⟨hW.1, hW.2.1, hW.2.2.1, fun l h => by cases h⟩⟩) hW.2.2.2 dk_B_148
