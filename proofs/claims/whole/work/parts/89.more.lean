/-! CELLS MADE IN A ROW, 3: what is read; arrays of references -/
theorem at_one {D : va_G} {q : Nat × va_E} {H : Heap} (h : va_at D bt_cl q H) : va_P D bt_cl [q] H := fun k x hx => by
  have h0 : k < 1 := (List.getElem?_eq_some_iff.mp hx).1
  rw [show k = 0 by omega] at hx
  cases hx; exact h
section MAR
variable {p : Program} {l : Launch} {e : Env} {R : Room} {s : State} {m : MethodId} {args : Array Value} {below : List Frame} {meth : Method} {c : Code} {H H0 : Heap} {locs : List Loc} {cells slots : Nat} {Q : State → Prop} {cc : ByteArray} {pc n : Nat} {ls : Array Slot} {rest : List Value} {D : va_G} {E : List va_E} {tys : List (ClassId × FieldType)}
theorem cr_get {own : String} {ci index : Nat} {C : String} {T : u_T} {N j a : Nat} {fs : List Value} {v : Value} (hexec : p.tables.exec = Jvm.exec) (hb : c.code = cc) (hts : ∀ w ∈ bt_gw, w.before args s = true) (hin : ∀ w ∈ u_ws C T N, w ∈ bt_gw) (hown : s.vm.findClass own = some m.cls) (hK : va_K D bt_cl tys s) (hW : rwC D n E H0 H locs) (hj : E[j]? = some (.inr (ci, fs))) (hc : bt_cl[ci]? = some (C, T, N)) (k : Nat) (hk : k < N) (hlink : Cond.fieldLink own index C (T k).2.1 (T k).2.2.1 ∈ bt_gw) (hT : (T k).1 = C) (hv : fs[k]? = some v) (hdg : decode cc pc = .ok (.getfield index, 3)) (hadr : a = n + j)
    (kk : W p l e R s m args below meth c H locs cells slots Q (F0 m (pc + 3) ls (v :: rest))) : W p l e R s m args below meth c H locs cells slots Q (F0 m pc ls (.ref a :: rest)) := by
  subst hadr
  exact va_get hexec hb hts hin hown hK (at_one (hW.2.1 j _ hj)) 0 rfl hc k hk (hts _ hlink) (fun x h => by rw [hT] at h; exact h) hv hdg kk
theorem cr_aald {j a n1 : Nat} {cA : ClassId} {f : Nat → Option Nat} (hexec : p.tables.exec = Jvm.exec) (hb : c.code = cc) (hAr : ArrOfT s cA (.array .int)) (hW : rwC D n E H0 H locs) (hj : E[j]? = some (.inl (cA, n1, .inr (.inr (.inr (.inr f)))))) {i : Int32} (hin : vp_in i n1) (hdg : decode cc pc = .ok (.aaload, 1)) (hadr : a = n + j)
    (kk : W p l e R s m args below meth c H locs cells slots Q (F0 m (pc + 1) ls (va_rf (f i.toNatClampNeg) :: rest))) : W p l e R s m args below meth c H locs cells slots Q (F0 m pc ls (.int i :: .ref a :: rest)) := by
  subst hadr
  have hlt : i.toNatClampNeg < n1 := Nat.not_le.mp fun q => hin (Or.inr q)
  exact W.aald (v := va_rf (f i.toNatClampNeg)) (ty := .array .int) hexec hb (hW.2.1 j _ hj) (hAr n1 (fun j => va_rf (f j))) rfl (fun q => by cases q) (by show ¬ (i < 0 ∨ (arrV _ _ _).slots.size ≤ _); rw [arrV_size]; exact hin) (by show (arrV _ _ _).slots[_]? = _; rw [arrV_read _ _ hlt]) rfl rfl hdg kk
theorem cr_S {A : Nat → Prop} (hW : rwC D n E H0 H locs) (hA : ∀ q, n ≤ q → A q) (hz : H0.size ≤ n + E.length) : va_S A H0 H locs := ⟨by rw [hW.1]; exact hz, fun q h1 h2 => hW.2.2.1 q (Nat.lt_of_not_le fun z => h2 (hA q z)), fun l hl => hA _ (hW.2.2.2 l hl)⟩
theorem cr_anew {own : String} {index : Nat} {cA : ClassId} {C : String} (hexec : p.tables.exec = Jvm.exec) (hb : c.code = cc) (hown : s.vm.findClass own = some m.cls) (hclink : (Cond.classLink own index C).before args s = true) (hover : va_AO C s) (hf : s.vm.findClass ("[" ++ (FieldType.object C).toString) = some cA) (hW : rwC D n E H0 H locs) {k : Int32} {N' : Nat} (hn : ¬ k < 0) (hN : k.toNatClampNeg = N') (hbytes : N' * 4 ≤ 536870912) (hcells : cells + 1 ≤ R.cells) (hslots : slots + N' ≤ R.slots) (hdg : decode cc pc = .ok (.anewarray index, 3))
    (kk : ∀ H1 : Heap, rwC D n (E ++ [.inl (cA, N', .inr (.inr (.inr (.inr (fun _ => none)))))]) H0 H1 locs → W p l e R s m args below meth c H1 locs (cells + 1) (slots + N') Q (F0 m (pc + 3) ls (.ref (n + E.length) :: rest))) : W p l e R s m args below meth c H locs cells slots Q (F0 m pc ls (.int k :: rest)) := by
  subst hN
  refine W.anew hexec hb hown hclink (va_AO.use hover) rfl hdg rfl hn hbytes hcells hslots fun cA' kA comp f1 f2 f3 f4 => ?_
  have ec : cA' = cA := Option.some.inj (f1.symm.trans hf)
  subst ec
  rw [hW.1]
  generalize hH1 : H.push ({ cls := cA', slots := Array.replicate k.toNatClampNeg .null, vm := .none } : Cell) = H1
  have z1 : H1.size = H.size + 1 := by rw [← hH1, Array.size_push]
  have e1 : H1[H.size]? = some (arrV cA' k.toNatClampNeg (fun _ => .null)) := by rw [← hH1, Array.getElem?_push_size, ← arrV_new]
  have o1 : ∀ q : Nat, q < H.size → H1[q]? = H[q]? := fun q hq => by rw [← hH1, Array.getElem?_push, if_neg (Nat.ne_of_lt hq)]
  refine kk H1 (rwC_push hW z1 o1 ?_)
  show H1[n + E.length]? = some (vp_cell _ _)
  rw [← hW.1, e1, vp_cell_q]; rfl
end MAR
