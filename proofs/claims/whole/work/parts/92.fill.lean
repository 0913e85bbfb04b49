/-! CELLS MADE IN A ROW, 5: the same cell told otherwise; a row filled with one number -/
/-- the second tells the same cell as the first -/
def eqE (e e' : va_E) : Prop := ∀ (D : va_G) (a : Nat) (H : Heap), va_at D bt_cl (a, e) H → va_at D bt_cl (a, e') H
def eqL : List va_E → List va_E → Prop
  | [], [] => True
  | a :: r, b :: s => eqE a b ∧ eqL r s
  | _, _ => False
theorem eqE_rf (e : va_E) : eqE e e := fun _ _ _ h => h
theorem eqE_of {e e' : va_E} (h : e = e') : eqE e e' := h ▸ eqE_rf e
theorem arrV_ext {cA : ClassId} {N : Nat} {f g : Nat → Value} (h : ∀ q, q < N → f q = g q) : arrV cA N f = arrV cA N g := by
  unfold arrV
  congr 2
  funext j
  exact h j.val j.isLt
theorem eqE_i {cA : ClassId} {N : Nat} {f g : Nat → Int32} (h : ∀ q, q < N → f q = g q) : eqE (.inl (cA, N, .inl f)) (.inl (cA, N, .inl g)) := fun D a H z => by
  have z : H[a]? = some (vp_cell cA (N, .inl f)) := z
  show H[a]? = some (vp_cell cA (N, .inl g))
  rw [z, vp_cell_i, vp_cell_i]
  exact congrArg some (arrV_ext fun q hq => by rw [h q hq])
theorem eqE_q {cA : ClassId} {N : Nat} {f g : Nat → Option Nat} (h : ∀ q, q < N → f q = g q) : eqE (.inl (cA, N, .inr (.inr (.inr (.inr f))))) (.inl (cA, N, .inr (.inr (.inr (.inr g))))) := fun D a H z => by
  have z : H[a]? = some (vp_cell cA (N, .inr (.inr (.inr (.inr f))))) := z
  show H[a]? = some (vp_cell cA (N, .inr (.inr (.inr (.inr g)))))
  rw [z, vp_cell_q, vp_cell_q]
  exact congrArg some (arrV_ext fun q hq => by rw [h q hq])
theorem eqL_rf : ∀ E : List va_E, eqL E E
  | [] => trivial
  | e :: r => ⟨eqE_rf e, eqL_rf r⟩
theorem eqL_len : ∀ {E E' : List va_E}, eqL E E' → E.length = E'.length
  | [], [], _ => rfl
  | _ :: r, _ :: s, h => congrArg (· + 1) (eqL_len (E := r) (E' := s) h.2)
  | [], _ :: _, h => h.elim
  | _ :: _, [], h => h.elim
theorem eqL_app : ∀ {E E' F F' : List va_E}, eqL E E' → eqL F F' → eqL (E ++ F) (E' ++ F')
  | [], [], _, _, _, h => h
  | _ :: r, _ :: s, _, _, g, h => ⟨g.1, eqL_app (E := r) (E' := s) g.2 h⟩
  | [], _ :: _, _, _, g, _ => g.elim
  | _ :: _, [], _, _, g, _ => g.elim
theorem eqL_at : ∀ {E E' : List va_E}, eqL E E' → ∀ (j : Nat) (e' : va_E), E'[j]? = some e' → ∃ e, E[j]? = some e ∧ eqE e e'
  | [], [], _, j, e', h => by simp at h
  | a :: r, b :: s, g, 0, e', h => by
    have h : b = e' := Option.some.inj h
    subst h
    exact ⟨a, rfl, g.1⟩
  | a :: r, b :: s, g, j + 1, e', h => eqL_at (E := r) (E' := s) g.2 j e' h
  | [], _ :: _, g, _, _, _ => g.elim
  | _ :: _, [], g, _, _, _ => g.elim
theorem eqL_set : ∀ (E : List va_E) (j : Nat) {e e' : va_E}, eqE e e' → eqL (E.set j e) (E.set j e')
  | [], _, _, _, _ => trivial
  | a :: r, 0, _, _, h => ⟨h, eqL_rf r⟩
  | a :: r, j + 1, _, _, h => ⟨eqE_rf a, eqL_set r j h⟩
theorem rwC_eq {D : va_G} {n : Nat} {E E' : List va_E} {H0 H : Heap} {locs : List Loc} (h : rwC D n E H0 H locs) (g : eqL E E') : rwC D n E' H0 H locs := by
  obtain ⟨h1, h2, h3, h4⟩ := h
  refine ⟨by rw [h1, eqL_len g], fun j e' he => ?_, h3, h4⟩
  obtain ⟨e, q1, q2⟩ := eqL_at g j e' he
  exact q2 D _ _ (h2 j e q1)
/-- a call that changed cells made before it -/
theorem rwC_over {D : va_G} {n : Nat} {E E' : List va_E} {H0 H H1 : Heap} {locs L : List Loc} (h : rwC D n E H0 H locs) (hc : rwC D n E' H H1 []) (hL : ∀ q ∈ L, n ≤ q.base) : rwC D n E' H0 H1 (locs ++ L) := by
  obtain ⟨h1, h2, h3, h4⟩ := h
  obtain ⟨c1, c2, c3, -⟩ := hc
  refine ⟨c1, c2, fun q hq => (c3 q hq).trans (h3 q hq), fun l hl => ?_⟩
  rcases List.mem_append.mp hl with z | z
  · exact h4 l z
  · exact hL l z
theorem set_self {E : List va_E} {j : Nat} {x : va_E} (h : E[j]? = some x) : E.set j x = E := by
  obtain ⟨hl, he⟩ := List.getElem?_eq_some_iff.mp h
  rw [← he]
  exact List.set_getElem_self hl
theorem df_0 : decode prog_15_method_103_code 0 = .ok (.iconst 0, 1) := by decide +kernel
theorem df_1 : decode prog_15_method_103_code 1 = .ok (.istore_n 2, 1) := by decide +kernel
theorem df_2 : decode prog_15_method_103_code 2 = .ok (.aload_n 0, 1) := by decide +kernel
theorem df_3 : decode prog_15_method_103_code 3 = .ok (.arraylength, 1) := by decide +kernel
theorem df_4 : decode prog_15_method_103_code 4 = .ok (.istore_n 3, 1) := by decide +kernel
theorem df_5 : decode prog_15_method_103_code 5 = .ok (.iload_n 2, 1) := by decide +kernel
theorem df_6 : decode prog_15_method_103_code 6 = .ok (.iload_n 3, 1) := by decide +kernel
theorem df_7 : decode prog_15_method_103_code 7 = .ok (.if_icmp .ge 13, 3) := by decide +kernel
theorem df_10 : decode prog_15_method_103_code 10 = .ok (.aload_n 0, 1) := by decide +kernel
theorem df_11 : decode prog_15_method_103_code 11 = .ok (.iload_n 2, 1) := by decide +kernel
theorem df_12 : decode prog_15_method_103_code 12 = .ok (.iload_n 1, 1) := by decide +kernel
theorem df_13 : decode prog_15_method_103_code 13 = .ok (.iastore, 1) := by decide +kernel
theorem df_14 : decode prog_15_method_103_code 14 = .ok (.iinc 2 1, 3) := by decide +kernel
theorem df_17 : decode prog_15_method_103_code 17 = .ok (.goto (-12), 3) := by decide +kernel
theorem df_20 : decode prog_15_method_103_code 20 = .ok (.return_, 1) := by decide +kernel
def flF (v : Int32) (k : Nat) (f : Nat → Int32) : Nat → Int32 := fun q => if q < k then v else f q
theorem flF_up (v : Int32) (k : Nat) (f : Nat → Int32) : upd (flF v k f) k v = flF v (k + 1) f := by
  funext q
  simp only [upd, flF]
  by_cases h : q = k
  · subst h; simp
  · by_cases h2 : q < k
    · simp [h, h2, Nat.lt_succ_of_lt h2]
    · simp [h, h2, show ¬ q < k + 1 by omega]
theorem flF_0 (v : Int32) (f : Nat → Int32) : flF v 0 f = f := by
  funext q
  simp [flF]
section FIL
variable {p : Program} {l : Launch} {e : Env} {R : Room} {s : State} {m : MethodId} {args : Array Value} {below : List Frame} {meth : Method} {c : Code} {cells slots : Nat} {D : va_G} {n j N : Nat} {E : List va_E} {H0 : Heap} {cA : ClassId} {f : Nat → Int32} {v : Int32} {Q : State → Prop}
theorem fl_loop (hx : p.tables.exec = Jvm.exec) (hb : c.code = prog_15_method_103_code) (hAr : ArrOfT s cA .int) (hN : N ≤ 1000) (hj : j < E.length)
    (kk : ∀ (H : Heap) (locs : List Loc) (ls : Array Slot), rwC D n (E.set j (.inl (cA, N, .inl (flF v N f)))) H0 H locs → W p l e R s m args below meth c H locs cells slots Q (F0 m 20 ls [])) :
    ∀ (t k : Nat), k + t = N → ∀ (H : Heap) (locs : List Loc) (ls : Array Slot), rwC D n (E.set j (.inl (cA, N, .inl (flF v k f)))) H0 H locs → lv_has ls 4 [(2, .int (nI k)), (3, .int (nI N)), (0, .ref (n + j)), (1, .int v)] → W p l e R s m args below meth c H locs cells slots Q (F0 m 5 ls [])
  | 0, k, hk, H, locs, ls, hW, hl => by
    have hk : k = N := hk
    subst hk
    refine lv_iload_n hx hb df_5 rfl (lv_at hl 0 rfl) ?_
    refine lv_iload_n hx hb df_6 rfl (lv_at hl 1 rfl) ?_
    refine lv_icmp_ge (tgt := 20) hx hb df_7 rfl (fun _ => kk H locs ls hW) (fun q => absurd ((nle (by omega) (by omega)).mpr (Nat.le_refl k)) q)
  | t + 1, k, hk, H, locs, ls, hW, hl => by
    refine lv_iload_n hx hb df_5 rfl (lv_at hl 0 rfl) ?_
    refine lv_iload_n hx hb df_6 rfl (lv_at hl 1 rfl) ?_
    refine lv_icmp_ge (tgt := 20) hx hb df_7 rfl (fun q => absurd ((nle (by omega) (by omega)).mp q) (by omega)) (fun _ => ?_)
    refine lv_aload_n hx hb df_10 rfl (lv_at hl 2 rfl) ?_
    refine lv_iload_n hx hb df_11 rfl (lv_at hl 0 rfl) ?_
    refine lv_iload_n hx hb df_12 rfl (lv_at hl 3 rfl) ?_
    refine cr_iast (j := j) hx hb hAr hW (List.getElem?_set_self hj) (ti_in (n := k) (by omega) (by omega)) df_13 rfl (fun H1 locs1 hW1 => ?_)
    have hW1 : rwC D n (E.set j (.inl (cA, N, .inl (flF v (k + 1) f)))) H0 H1 locs1 := by
      rw [List.set_set, show (nI k).toNatClampNeg = k from ti_tn (by omega), flF_up] at hW1
      exact hW1
    refine lv_iinc (lv' := [(2, .int (nI (k + 1))), (3, .int (nI N)), (0, .ref (n + j)), (1, .int v)]) hx hb df_14 hl (k := 0) rfl (nI_add k 1) (by decide) rfl (fun ls1 hl1 => ?_)
    exact lv_goto (tgt := 5) hx hb df_17 rfl (fl_loop hx hb hAr hN hj kk t (k + 1) (by omega) H1 locs1 ls1 hW1 hl1)
end FIL
theorem crP_blind (P : bt_PT) (as : List Value) (n : Nat) (pre : List va_E) : FrameBlind (crP P as n pre) := fun a U g mk h => by
  obtain ⟨h1, h2, h3, h4⟩ := h
  exact ⟨h1, h2, h3, va_K.moved (u := U) (U := U.calling g mk a) (Vm.Alike.refl U.vm) h4⟩
theorem crP_now {P : bt_PT} {n : Nat} {E : List va_E} {H0 H : Heap} {locs : List Loc} {s : State} (as : List Value) (hW : rwC (bt_D P) n E H0 H locs) (hK : va_K (bt_D P) bt_cl (bt_tys P) s) {U : State} (hU : U.heap = H) (hw : s.WarmedH U.vm) : crP P as n E as.toArray U := by
  subst hU
  exact ⟨rfl, hW.1, hW.2.1, va_K.moved hw.alike hK⟩
set_option maxHeartbeats 4000000 in
theorem cc_fill (P : bt_PT) (n j N : Nat) (E : List va_E) (f : Nat → Int32) (v : Int32) (hN : N ≤ 1000) (hE : E[j]? = some (.inl (bt_dA P 0, N, .inl f))) : Met (bt_l P) mi_JA_fillI.1 (Cond.code mi_JA_fillI.1 mi_JA_fillI.2.1 mi_JA_fillI.2.2.1 mi_JA_fillI.2.2.2 :: bt_gw) { frames := 0, cells := 0, slots := 0, locals := 0 } (crP P [.ref (n + j), .int v] n E) (crQ P n (E.set j (.inl (bt_dA P 0, N, .inl (fun _ => v))))) 0 0 (fun q => n ≤ q) := by
  refine Met.ofW (cc := prog_15_method_103_code) (maxL := 4) (ret := none) (by decide) rfl ?_
  intro p e s m args below meth c s₁ B hml hv
  obtain ⟨rfl, hz, hP, hK⟩ := hv
  have hx := B.exec
  have hb := B.bytes
  have hr := B.returns
  have hlocks := B.notSynchronized
  have hjl : j < E.length := (List.getElem?_eq_some_iff.mp hE).1
  have hset : E.set j (.inl (bt_dA P 0, N, .inl (flF v 0 f))) = E := by
    rw [flF_0]
    exact set_self hE
  have hW : rwC (bt_D P) n (E.set j (.inl (bt_dA P 0, N, .inl (flF v 0 f)))) s.heap s.heap [] := by
    rw [hset]
    exact ⟨hz, hP, fun _ _ => rfl, fun l h => by cases h⟩
  have hAr : ArrOfT s (bt_dA P 0) .int := (hK.2 0 _ rfl).1
  have hl := lv_entry ([.ref (n + j), .int v] : List Value) (n := 4) (Nat.le_of_ble_eq_true rfl)
  rw [lg_entry_eq]
  generalize (lg_sl ([.ref (n + j), .int v] : List Value) ++ List.replicate (4 - (lg_sl ([.ref (n + j), .int v] : List Value)).length) Slot.unset).toArray = ls at hl ⊢
  have hl : lv_has ls 4 [(0, .ref (n + j)), (1, .int v)] := hl
  refine lv_iconst (v := 0) hx hb df_0 rfl ?_
  refine lv_istore_n (lv' := [(2, .int (nI 0)), (0, .ref (n + j)), (1, .int v)]) hx hb df_1 rfl hl (by decide) rfl (fun ls hl => ?_)
  refine lv_aload_n hx hb df_2 rfl (lv_at hl 1 rfl) ?_
  refine W.alen (n := nI N) hx hb (hP j _ hE) (hAr N (fun j => .int (f j))) (by show (arrV _ _ _).slots.size.toInt32 = _; rw [arrV_size]; rfl) rfl rfl df_3 ?_
  refine lv_istore_n (lv' := [(3, .int (nI N)), (2, .int (nI 0)), (0, .ref (n + j)), (1, .int v)]) hx hb df_4 rfl hl (by decide) rfl (fun ls hl => ?_)
  have hl : lv_has ls 4 [(2, .int (nI 0)), (3, .int (nI N)), (0, .ref (n + j)), (1, .int v)] := lv_sub hl [1, 0, 2, 3] rfl
  refine fl_loop hx hb hAr hN hjl (fun H locs ls hW => ?_) N 0 (by omega) s.heap [] ls hW hl
  have hW : rwC (bt_D P) n (E.set j (.inl (bt_dA P 0, N, .inl (fun _ => v)))) s.heap H locs := rwC_eq hW (eqL_set E j (eqE_i fun q hq => by show (if q < N then v else f q) = v; rw [if_pos hq]))
  exact W.vret hx hb hr (fun t ht _ => ⟨rfl, by rw [ht]; exact ⟨hW.1, hW.2.1, hW.2.2.1, fun l h => by cases h⟩⟩) hW.2.2.2 df_20
section FIM
variable {P : bt_PT} {p : Program} {e : Env} {R : Room} {s : State} {m : MethodId} {args : Array Value} {below : List Frame} {meth : Method} {c : Code} {H H0 : Heap} {locs : List Loc} {cells slots : Nat} {Q : State → Prop} {cc : ByteArray} {pc n nL : Nat} {ls : Array Slot} {E : List va_E}
theorem cr_fill {own : String} {index j N' a : Nat} {f : Nat → Int32} {v : Int32} (hx : p.tables.exec = Jvm.exec) (hb : c.code = cc) (hml : c.maxLocals = nL) (hown : s.vm.findClass own = some m.cls) (hts : ∀ w ∈ bt_gw, w.before args s = true) (hK : va_K (bt_D P) bt_cl (bt_tys P) s) (hls : ls.size = nL) (hW : rwC (bt_D P) n E H0 H locs) (hj : E[j]? = some (.inl (bt_dA P 0, N', .inl f))) (hN : N' ≤ 1000) (hlk : Cond.methodLink own index mi_JA_fillI.1 ∈ bt_gw) (hR : 1 ≤ R.frames ∧ 23 ≤ R.locals) (hc : cells ≤ R.cells ∧ slots ≤ R.slots) (hdg : decode cc pc = .ok (.invokestatic index, 3)) (hadr : a = n + j)
    (kk : ∀ (H1 : Heap) (locs1 : List Loc), rwC (bt_D P) n (E.set j (.inl (bt_dA P 0, N', .inl (fun _ => v)))) H0 H1 locs1 → W p (bt_l P) e R s m args below meth c H1 locs1 cells slots Q (F0 m (pc + 3) ls [])) : W p (bt_l P) e R s m args below meth c H locs cells slots Q (F0 m pc ls [.int v, .ref a]) := by
  subst hadr
  have hgood : GoodIn bt_gw (va_wsS own index mi_JA_fillI.1 (Cond.code mi_JA_fillI.1 mi_JA_fillI.2.1 mi_JA_fillI.2.2.1 mi_JA_fillI.2.2.2 :: bt_gw)) := fun w hw => by
    unfold va_wsS at hw
    rcases List.mem_append.mp hw with h | h
    · have hin : w ∈ bt_gw := by
        simp only [List.mem_cons, List.not_mem_nil, or_false] at h
        rcases h with rfl | rfl | rfl
        · exact hlk
        · exact vm_JA_fillI_k
        · exact vm_JA_fillI.2.1
      exact ⟨hin, bt_gw_good _ hin⟩
    · exact bt_goodM vm_JA_fillI w h
  have hpre : PreS s H (crP P [.ref (n + j), .int v] n E) [.ref (n + j), .int v] := ⟨crP_blind P _ n E, fun U hU hw => crP_now _ hW hK hU hw⟩
  refine cr_callv (rest := []) (va_runS (l := bt_l P) (Ts := bt_gw) (own := own) (nL := nL) ⟨hx, hb, hml, hown, hts⟩ (cc_fill P n j N' E f v hN hj) (va_cwS 2 hts hgood rfl rfl rfl vm_JA_fillI.2.2.1 ⟨hR.1, hR.2⟩) hpre rfl rfl hls rfl (lv_room (Nat.zero_le 8)) hdg ⟨hc.1, hc.2⟩) (fun H1 L hc hL => ?_)
  exact kk H1 _ (rwC_over hW hc hL)
end FIM
