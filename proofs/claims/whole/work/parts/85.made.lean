/-! CELLS MADE IN A ROW: what the constructors do (exact addresses) -/
def rwC (D : va_G) (n : Nat) (E : List va_E) (H0 H : Heap) (locs : List Loc) : Prop := H.size = n + E.length ∧ (∀ (j : Nat) (e : va_E), E[j]? = some e → va_at D bt_cl (n + j, e) H) ∧ (∀ q : Nat, q < n → H[q]? = H0[q]?) ∧ ∀ l ∈ locs, n ≤ l.base
theorem at_kept {D : va_G} {q : Nat × va_E} {H H' : Heap} (h : va_at D bt_cl q H) (e : H'[q.1]? = H[q.1]?) : va_at D bt_cl q H' := by
  have hP : va_P D bt_cl [q] H := fun k x hx => by
    have h0 : k < 1 := (List.getElem?_eq_some_iff.mp hx).1
    rw [show k = 0 by omega] at hx
    cases hx; exact h
  exact (hP.kept (fun k x hx => by
    have h0 : k < 1 := (List.getElem?_eq_some_iff.mp hx).1
    rw [show k = 0 by omega] at hx
    cases hx; exact e)) 0 q rfl
theorem rwC_push {D : va_G} {n : Nat} {E : List va_E} {H0 H H' : Heap} {locs : List Loc} {e : va_E} (h : rwC D n E H0 H locs) (hz : H'.size = H.size + 1) (hk : ∀ q : Nat, q < H.size → H'[q]? = H[q]?) (he : va_at D bt_cl (n + E.length, e) H') : rwC D n (E ++ [e]) H0 H' locs := by
  obtain ⟨h1, h2, h3, h4⟩ := h
  refine ⟨by rw [hz, h1, List.length_append]; rfl, fun j x hx => ?_, fun q hq => (hk q (by omega)).trans (h3 q hq), h4⟩
  by_cases q : j < E.length
  · rw [List.getElem?_append_left q] at hx
    exact at_kept (h2 j x hx) (hk _ (by show n + j < H.size; omega))
  · rw [List.getElem?_append_right (by omega)] at hx
    have h0 : j - E.length < 1 := (List.getElem?_eq_some_iff.mp hx).1
    have ej : j = E.length := by omega
    subst ej
    rw [Nat.sub_self] at hx
    cases hx; exact he
theorem rwC_set {D : va_G} {n j x : Nat} {E : List va_E} {H0 H H' : Heap} {locs : List Loc} {e0 e : va_E} (h : rwC D n E H0 H locs) (hj : E[j]? = some e0) (hz : H'.size = H.size) (hk : ∀ q : Nat, q ≠ n + j → H'[q]? = H[q]?) (he : va_at D bt_cl (n + j, e) H') : rwC D n (E.set j e) H0 H' (locs ++ [⟨n + j, x⟩]) := by
  obtain ⟨h1, h2, h3, h4⟩ := h
  have hlt : j < E.length := (List.getElem?_eq_some_iff.mp hj).1
  refine ⟨by rw [hz, h1, List.length_set], fun i y hy => ?_, fun q hq => (hk q (by omega)).trans (h3 q hq), fun l hl => ?_⟩
  · by_cases q : i = j
    · subst q
      rw [List.getElem?_set_self hlt] at hy
      cases hy; exact he
    · rw [List.getElem?_set_ne (fun z => q z.symm)] at hy
      exact at_kept (h2 i y hy) (hk _ (by show n + i ≠ n + j; omega))
  · rcases List.mem_append.mp hl with z | z
    · exact h4 l z
    · rw [List.mem_singleton] at z; subst z; exact Nat.le_add_right _ _
section MAD
variable {p : Program} {l : Launch} {e : Env} {R : Room} {s : State} {m : MethodId} {args : Array Value} {below : List Frame} {meth : Method} {c : Code} {H H0 : Heap} {locs : List Loc} {cells slots : Nat} {Q : State → Prop} {cc : ByteArray} {pc n : Nat} {ls : Array Slot} {rest : List Value} {D : va_G} {E : List va_E} {tys : List (ClassId × FieldType)}
theorem cr_new {own : String} {ci index : Nat} {C : String} {T : u_T} {N : Nat} (hexec : p.tables.exec = Jvm.exec) (hb : c.code = cc) (hts : ∀ w ∈ bt_gw, w.before args s = true) (hin : ∀ w ∈ u_ws C T N, w ∈ bt_gw) (ty : Nat → FieldType) (hty : ∀ k, k < N → parseFieldDescriptor (T k).2.2.1 = some (ty k)) (hown : s.vm.findClass own = some m.cls) (hcl : Cond.classLink own index C ∈ bt_gw) (hinst : Cond.instantiable C N ∈ bt_gw) (hini : Cond.initialized C ∈ bt_gw) (hK : va_K D bt_cl tys s) (hW : rwC D n E H0 H locs) (hc : bt_cl[ci]? = some (C, T, N)) {fs : List Value} (hfs : ∀ j, j < N → defaultValue (ty j) = vp_V fs j) (hcells : cells + 1 ≤ R.cells) (hslots : slots + N ≤ R.slots) (hdg : decode cc pc = .ok (.new index, 3))
    (kk : ∀ H1 : Heap, rwC D n (E ++ [.inr (ci, fs)]) H0 H1 locs → W p l e R s m args below meth c H1 locs (cells + 1) (slots + N) Q (F0 m (pc + 3) ls (.ref (n + E.length) :: rest))) : W p l e R s m args below meth c H locs cells slots Q (F0 m pc ls rest) := by
  have hKn := hK.1 ci _ hc
  refine W.newcK hexec hb hown (hts _ hcl) (hts _ hinst) (hts _ hini) rfl hdg hcells hslots hKn.2.1 hW.1 fun H1 kC hkC e1 z1 o1 => ?_
  exact kk H1 (rwC_push hW (by rw [z1, hW.1]) (fun q hq => o1 q (by rw [← hW.1]; exact hq)) ⟨_, hc, (u_born ty hts hin hKn hkC e1 hty).to hfs⟩)
theorem cr_newa {atype : ArrayType} {cA : ClassId} {ty : FieldType} (hexec : p.tables.exec = Jvm.exec) (hb : c.code = cc) (harr : (Cond.arrayClass (newarray.typeOf atype)).before args s = true) (hty : newarray.typeOf atype = ty) (hf : s.vm.findClass ("[" ++ ty.toString) = some cA) (hW : rwC D n E H0 H locs) {k : Int32} {N' : Nat} {a0 : vp_A} (ha : ∀ cA : ClassId, vp_cell cA a0 = arrV cA N' (fun _ => defaultValue ty)) (hn : ¬ k < 0) (hN : k.toNatClampNeg = N') (hbytes : N' * componentBytes ty ≤ 536870912) (hcells : cells + 1 ≤ R.cells) (hslots : slots + N' ≤ R.slots) (hdg : decode cc pc = .ok (.newarray atype, 2))
    (kk : ∀ H1 : Heap, rwC D n (E ++ [.inl (cA, a0)]) H0 H1 locs → W p l e R s m args below meth c H1 locs (cells + 1) (slots + N') Q (F0 m (pc + 2) ls (.ref (n + E.length) :: rest))) : W p l e R s m args below meth c H locs cells slots Q (F0 m pc ls (.int k :: rest)) := by
  subst hty
  refine va_newaK hexec hb harr rfl hdg rfl hn hN hbytes hcells hslots hW.1 fun H1 cA' e1 z1 o1 hAr hNm => ?_
  have ec : cA' = cA := Option.some.inj (hNm.symm.trans hf)
  subst ec
  refine kk H1 (rwC_push hW (by rw [z1, hW.1]) (fun q hq => o1 q (by rw [← hW.1]; exact hq)) ?_)
  show H1[n + E.length]? = some (vp_cell _ _)
  rw [ha]; exact e1
theorem cr_putF {own : String} {ci index : Nat} {C : String} {T : u_T} {N j a : Nat} {fs : List Value} {ty : FieldType} {v : Value} (hexec : p.tables.exec = Jvm.exec) (hb : c.code = cc) (hts : ∀ w ∈ bt_gw, w.before args s = true) (hin : ∀ w ∈ u_ws C T N, w ∈ bt_gw) (ty0 : Nat → FieldType) (hty : ∀ k, k < N → parseFieldDescriptor (T k).2.2.1 = some (ty0 k)) (hnm : ∀ a, a < N → ∀ b, b < N → a ≠ b → (T a).2.1 ≠ (T b).2.1) (hown : s.vm.findClass own = some m.cls) (hK : va_K D bt_cl tys s) (hW : rwC D n E H0 H locs) (hj : E[j]? = some (.inr (ci, fs))) (hc : bt_cl[ci]? = some (C, T, N)) (k : Nat) (hk : k < N) (hlink : Cond.fieldLink own index C (T k).2.1 (T k).2.2.1 ∈ bt_gw) (hT : (T k).1 = C) (hfin : (T k).2.2.2 = true) (hin2 : meth.name = "<init>") (hdecl : C = own) (hd : parseFieldDescriptor (T k).2.2.1 = some ty) (hn : narrow ty v = v) (hfit : fits ty v = true) (hl : k < fs.length) (hdg : decode cc pc = .ok (.putfield index, 3)) (hadr : a = n + j)
    (kk : ∀ (H1 : Heap) (locs1 : List Loc), rwC D n (E.set j (.inr (ci, fs.set k v))) H0 H1 locs1 → W p l e R s m args below meth c H1 locs1 cells slots Q (F0 m (pc + 3) ls rest)) : W p l e R s m args below meth c H locs cells slots Q (F0 m pc ls (v :: .ref a :: rest)) := by
  subst hadr
  have hap := va_apart (own := own) hts hin ty0 hty hnm hK hc
  obtain ⟨r, h1, cell, q1, q2, q3, q4⟩ := hW.2.1 j _ hj
  have hr : r = (C, T, N) := Option.some.inj (h1.symm.trans hc)
  subst hr
  obtain ⟨hS, hfc, kC, hkC, hkind⟩ := hK.1 ci _ hc
  obtain ⟨cf, kf, fi, f, hi, hsl⟩ := hS k hk
  have hlay := hts _ (hin _ (u_in_lay hk))
  unfold u_lay at hlay
  rw [if_pos hfin] at hlay
  have hst := (u_facts hfc hkC (u_lays hts hin hk) hi).1
  have hcf : m.cls = cf := by
    obtain ⟨_, _, c', _, _, _, -, -, hf', -, -, -, hown2, -⟩ := Cond.laysFinal_spec hlay
    have e1 : c' = cf := by have := hi.symm.trans hf'; simp at this; exact this.1.symm
    rw [hT, hdecl] at hown2
    rw [← e1]; exact Option.some.inj (hown.symm.trans hown2)
  have h6 := u_fits hfc hkC hkind (Or.inr hlay) hi hd hn hfit
  have hi' := hi
  rw [hT] at hi'
  refine W.putFinK hexec hb hown (hts _ hlink) hi' hst hcf hin2 (by rw [q2]; exact h6) q1 q3 (by rw [hsl]; exact k2_hasslot (q4 k hk)) rfl rfl hdg fun H' e1 e2 e3 => ?_
  rw [hsl] at e1 ⊢
  exact kk H' _ (rwC_set hW hj e2 e3 ⟨_, hc, t_OB.to (V := updV (vp_V fs) k v) ⟨_, e1, q2, q3, t_set q4 hap hk v⟩ (fun j _ => vp_updV_set hl v j)⟩)
theorem cr_put {own : String} {ci index : Nat} {C : String} {T : u_T} {N j a : Nat} {fs : List Value} {ty : FieldType} {v : Value} (hexec : p.tables.exec = Jvm.exec) (hb : c.code = cc) (hts : ∀ w ∈ bt_gw, w.before args s = true) (hin : ∀ w ∈ u_ws C T N, w ∈ bt_gw) (ty0 : Nat → FieldType) (hty : ∀ k, k < N → parseFieldDescriptor (T k).2.2.1 = some (ty0 k)) (hnm : ∀ a, a < N → ∀ b, b < N → a ≠ b → (T a).2.1 ≠ (T b).2.1) (hown : s.vm.findClass own = some m.cls) (hK : va_K D bt_cl tys s) (hW : rwC D n E H0 H locs) (hj : E[j]? = some (.inr (ci, fs))) (hc : bt_cl[ci]? = some (C, T, N)) (k : Nat) (hk : k < N) (hlink : Cond.fieldLink own index C (T k).2.1 (T k).2.2.1 ∈ bt_gw) (hT : (T k).1 = C) (hfin : (T k).2.2.2 = false) (hd : parseFieldDescriptor (T k).2.2.1 = some ty) (hn : narrow ty v = v) (hfit : fits ty v = true) (hl : k < fs.length) (hdg : decode cc pc = .ok (.putfield index, 3)) (hadr : a = n + j)
    (kk : ∀ (H1 : Heap) (locs1 : List Loc), rwC D n (E.set j (.inr (ci, fs.set k v))) H0 H1 locs1 → W p l e R s m args below meth c H1 locs1 cells slots Q (F0 m (pc + 3) ls rest)) : W p l e R s m args below meth c H locs cells slots Q (F0 m pc ls (v :: .ref a :: rest)) := by
  subst hadr
  have hap := va_apart (own := own) hts hin ty0 hty hnm hK hc
  obtain ⟨r, h1, cell, q1, q2, q3, q4⟩ := hW.2.1 j _ hj
  have hr : r = (C, T, N) := Option.some.inj (h1.symm.trans hc)
  subst hr
  obtain ⟨hS, hfc, kC, hkC, hkind⟩ := hK.1 ci _ hc
  obtain ⟨cf, kf, fi, f, hi, hsl⟩ := hS k hk
  have hlay := hts _ (hin _ (u_in_lay hk))
  unfold u_lay at hlay
  rw [if_neg (by rw [hfin]; decide)] at hlay
  have hst := (u_facts hfc hkC (u_lays hts hin hk) hi).1
  have h6 := u_store hfc hkC hkind hlay hi hd hn hfit
  have hi' := hi
  rw [hT] at hi'
  refine W.putK hexec hb (f := f) ⟨hown, hts _ hlink, ⟨_, _, _, hi'⟩, hst⟩ (by rw [q2]; exact h6) q1 q3 (by rw [hsl]; exact k2_hasslot (q4 k hk)) rfl rfl hdg fun H' e1 e2 e3 => ?_
  rw [hsl] at e1 ⊢
  exact kk H' _ (rwC_set hW hj e2 e3 ⟨_, hc, t_OB.to (V := updV (vp_V fs) k v) ⟨_, e1, q2, q3, t_set q4 hap hk v⟩ (fun j _ => vp_updV_set hl v j)⟩)
theorem cr_iast {j a n1 : Nat} {cA : ClassId} {f : Nat → Int32} (hexec : p.tables.exec = Jvm.exec) (hb : c.code = cc) (hAr : ArrOfT s cA .int) (hW : rwC D n E H0 H locs) (hj : E[j]? = some (.inl (cA, n1, .inl f))) {i x : Int32} (hin : vp_in i n1) (hdg : decode cc pc = .ok (.iastore, 1)) (hadr : a = n + j)
    (kk : ∀ (H1 : Heap) (locs1 : List Loc), rwC D n (E.set j (.inl (cA, n1, .inl (upd f i.toNatClampNeg x)))) H0 H1 locs1 → W p l e R s m args below meth c H1 locs1 cells slots Q (F0 m (pc + 1) ls rest)) : W p l e R s m args below meth c H locs cells slots Q (F0 m pc ls (.int x :: .int i :: .ref a :: rest)) := by
  subst hadr
  refine W.iast hexec hb (hW.2.1 j _ hj) (hAr n1 (fun j => .int (f j))) (fun q => by cases q) (by show ¬ (i < 0 ∨ (arrV _ _ _).slots.size ≤ _); rw [arrV_size]; exact hin) rfl rfl hdg fun H1 e z oq => ?_
  refine kk H1 _ (rwC_set hW hj z oq ?_)
  show H1[n + j]? = some (vp_cell _ _)
  rw [e]
  rw [vp_cell_i, vp_cell_i, arrV_store]
  congr 2
  funext q
  by_cases hq : q = i.toNatClampNeg
  · subst hq
    simp [updV, upd]
  · simp [updV, upd, hq]
end MAD
