/-! CELLS MADE IN A ROW, 2: calls of constructors; arrays of references; an array of arrays -/
theorem rwC_app {D : va_G} {n : Nat} {E X : List va_E} {H0 H H' : Heap} {locs : List Loc} (h : rwC D n E H0 H locs) (hz : H'.size = H.size + X.length) (hk : ∀ q : Nat, q < H.size → H'[q]? = H[q]?) (he : ∀ (j : Nat) (e : va_E), X[j]? = some e → va_at D bt_cl (n + E.length + j, e) H') : rwC D n (E ++ X) H0 H' locs := by
  obtain ⟨h1, h2, h3, h4⟩ := h
  refine ⟨by rw [hz, h1, List.length_append, Nat.add_assoc], fun j x hx => ?_, fun q hq => (hk q (by omega)).trans (h3 q hq), h4⟩
  by_cases q : j < E.length
  · rw [List.getElem?_append_left q] at hx
    exact at_kept (h2 j x hx) (hk _ (by show n + j < H.size; omega))
  · rw [List.getElem?_append_right (by omega)] at hx
    have := he _ x hx
    rw [show n + E.length + (j - E.length) = n + j by omega] at this
    exact this
theorem rwC_call {D : va_G} {n : Nat} {E post : List va_E} {e0 : va_E} {H0 H H1 : Heap} {locs L : List Loc} (h : rwC D n (E ++ [e0]) H0 H locs) (hc : rwC D (n + E.length) post H H1 []) (hL : ∀ q ∈ L, n + E.length ≤ q.base) : rwC D n (E ++ post) H0 H1 (locs ++ L) := by
  obtain ⟨h1, h2, h3, h4⟩ := h
  obtain ⟨c1, c2, c3, -⟩ := hc
  refine ⟨by rw [c1, List.length_append, Nat.add_assoc], fun j x hx => ?_, fun q hq => (c3 q (by omega)).trans (h3 q hq), fun l hl => ?_⟩
  · by_cases q : j < E.length
    · rw [List.getElem?_append_left q] at hx
      exact at_kept (h2 j x (by rw [List.getElem?_append_left q]; exact hx)) (c3 _ (by show n + j < n + E.length; omega))
    · rw [List.getElem?_append_right (by omega)] at hx
      have := c2 _ x hx
      rw [show n + E.length + (j - E.length) = n + j by omega] at this
      exact this
  · rcases List.mem_append.mp hl with z | z
    · exact h4 l z
    · exact Nat.le_trans (Nat.le_add_right _ _) (hL l z)
section MAE
variable {p : Program} {l : Launch} {e : Env} {R : Room} {s : State} {m : MethodId} {args : Array Value} {below : List Frame} {meth : Method} {c : Code} {H H0 : Heap} {locs : List Loc} {cells slots : Nat} {Q : State → Prop} {cc : ByteArray} {pc n : Nat} {ls : Array Slot} {rest st0 : List Value} {a : Array Value} {D : va_G} {E : List va_E} {tys : List (ClassId × FieldType)}
theorem cr_callv {P : bt_PT} {mc ms n' : Nat} {post : List va_E} (hr : va_Run p l e R s m args below meth c H locs cells slots mc ms (F0 m pc ls st0) rest (crQ P n' post a) (fun q => n' ≤ q))
    (kk : ∀ (H1 : Heap) (L : List Loc), rwC (bt_D P) n' post H H1 [] → (∀ q ∈ L, n' ≤ q.base) → W p l e R s m args below meth c H1 (locs ++ L) (cells + mc) (slots + ms) Q (F0 m (pc + 3) ls rest)) : W p l e R s m args below meth c H locs cells slots Q (F0 m pc ls st0) := by
  intro T hT X
  obtain ⟨v, st₀, t, T', L, h0, X', hL, e1, e2, ⟨hv, hw⟩, st⟩ := hr T hT X
  cases hv
  rw [h0, ← e1] at hw
  obtain ⟨t2, a1, b1⟩ := kk T'.heap L hw hL T' rfl X'
  exact ⟨t2, st t2 a1, b1⟩
def moE (q : Nat) (N' K' : Nat) (cO cy : ClassId) : List va_E := .inl (cO, N', .inr (.inr (.inr (.inr (fun i => if i < N' then some (q + 1 + i) else none))))) :: List.replicate N' (.inl (cy, K', .inl (fun _ => 0)))
theorem mo_outer (c : ClassId) (N h0 : Nat) : ∀ i : Nat, Jvm.Free.Multi.outerC c N h0 i = arrV c N (fun j => va_rf (if j < i then some (h0 + 1 + j) else none))
  | 0 => by
    show ({ cls := c, slots := Array.replicate N .null, vm := .none } : Cell) = _
    rw [arrV_new]
    refine congrArg (arrV c N) (funext fun j => ?_)
    simp [va_rf]
  | i + 1 => by
    show (Jvm.Free.Multi.outerC c N h0 i).setSlot i (.ref (h0 + 1 + i)) = _
    rw [mo_outer c N h0 i, arrV_store]
    refine congrArg (arrV c N) (funext fun j => ?_)
    by_cases e : j = i
    · subst e
      simp [updV, va_rf]
    · by_cases h : j < i
      · simp [updV, e, h, Nat.lt_succ_of_lt h]
      · simp [updV, e, h, show ¬ j < i + 1 by omega]
theorem cr_mna {own : String} {index : Nat} {cy cO : ClassId} (hexec : p.tables.exec = Jvm.exec) (hb : c.code = cc) (hown : s.vm.findClass own = some m.cls) (hclink : (Cond.classLink own index ("[" ++ (FieldType.array .int).toString)).before args s = true) (hover : (Cond.arrayOver (.array .int)).before args s = true) (harr : (Cond.arrayClass .int).before args s = true) (hfO : s.vm.findClass ("[" ++ (FieldType.array .int).toString) = some cO) (hfy : s.vm.findClass (FieldType.array .int).toString = some cy) (hW : rwC D n E H0 H locs) {nn k : Int32} {N' K' : Nat} (hn : ¬ nn < 0) (hk : ¬ k < 0) (hN : nn.toNatClampNeg = N') (hM : k.toNatClampNeg = K') (hb1 : N' * 4 ≤ 536870912) (hb2 : K' * componentBytes .int ≤ 536870912) (hb3 : K' ≤ 536870912) (hcells : cells + (1 + N') ≤ R.cells) (hslots : slots + (N' + N' * K') ≤ R.slots) (hdg : decode cc pc = .ok (.multianewarray index 2, 4))
    (kk : ∀ H1 : Heap, rwC D n (E ++ moE (n + E.length) N' K' cO cy) H0 H1 locs → W p l e R s m args below meth c H1 locs (cells + 1 + N') (slots + N' + N' * K') Q (F0 m (pc + 4) ls (.ref (n + E.length) :: rest))) : W p l e R s m args below meth c H locs cells slots Q (F0 m pc ls (.int k :: .int nn :: rest)) := by
  subst hN
  subst hM
  intro T hT Xs
  obtain ⟨vm₁, cA, comp, -, fA, fC, -, -, X', step⟩ := Xs.multianewarray2F hexec hown hclink hover harr (g := F0 m pc ls (.int k :: .int nn :: rest)) rfl (by rw [hb]; exact hdg) rfl hn hk hb1 hb2 hb3 rfl rfl hcells hslots
  have eO : cA = cO := Option.some.inj (fA.symm.trans hfO)
  have eY : comp = cy := Option.some.inj (fC.symm.trans hfy)
  subst eO
  subst eY
  generalize hF : Jvm.Free.Multi.fill (T.setVm vm₁) cA comp nn.toNatClampNeg k.toNatClampNeg (defaultValue .int) nn.toNatClampNeg = F at X' step
  have hTh : (T.setVm vm₁).heap = H := hT
  obtain ⟨f1, f2, -, -⟩ := Jvm.Free.Multi.fill_facts (T.setVm vm₁) cA comp nn.toNatClampNeg k.toNatClampNeg (defaultValue .int) nn.toNatClampNeg
  rw [hF, hTh] at f1 f2
  have hold : ∀ x : Nat, x < H.size → F.heap[x]? = H[x]? := fun x hx => by
    have := Jvm.Free.Multi.fill_old (T.setVm vm₁) cA comp nn.toNatClampNeg k.toNatClampNeg (defaultValue .int) (a := x) (by rw [hTh]; exact hx) nn.toNatClampNeg
    rw [hF, hTh] at this
    exact this
  have hrow : ∀ j : Nat, j < nn.toNatClampNeg → F.heap[H.size + 1 + j]? = some (vp_cell comp (k.toNatClampNeg, .inl (fun _ => 0))) := fun j hj => by
    have := Jvm.Free.Multi.fill_inner (T.setVm vm₁) cA comp nn.toNatClampNeg k.toNatClampNeg (defaultValue .int) nn.toNatClampNeg j hj
    rw [hF, hTh] at this
    rw [this, vp_cell_i, ← arrV_new]; rfl
  have hz := hW.1
  have e : T.heap.size = H.size := by rw [hT]
  have hnew : rwC D n (E ++ moE (n + E.length) nn.toNatClampNeg k.toNatClampNeg cA comp) H0 F.heap locs := by
    refine rwC_app hW ?_ hold (fun j x hx => ?_)
    · rw [f1]
      show _ = H.size + ((List.replicate nn.toNatClampNeg _).length + 1)
      rw [List.length_replicate]; omega
    · match j, hx with
      | 0, hx =>
        cases hx
        show F.heap[n + E.length + 0]? = some (vp_cell _ _)
        rw [Nat.add_zero, ← hz, f2, mo_outer, vp_cell_q, hz]
      | j + 1, hx =>
        have hx : (List.replicate nn.toNatClampNeg ((.inl (comp, k.toNatClampNeg, .inl (fun _ => 0))) : va_E))[j]? = some x := hx
        have hj : j < nn.toNatClampNeg := by
          have := (List.getElem?_eq_some_iff.mp hx).1
          rw [List.length_replicate] at this; exact this
        rw [List.getElem?_replicate, if_pos hj] at hx
        cases hx
        show F.heap[n + E.length + (j + 1)]? = some (vp_cell _ _)
        rw [show n + E.length + (j + 1) = H.size + 1 + j by omega]
        exact hrow j hj
  obtain ⟨t, a1, b1⟩ := kk F.heap hnew F rfl X'
  refine ⟨t, step t ?_, b1⟩
  rw [e, hz]
  exact a1
end MAE
/-- what a multianewarray asks of the start: it holds at every state behind -/
def mo_AO (U : State) : Prop := (Cond.arrayOver (.array .int)).before #[] U = true
theorem mo_AO.moved {u U : State} (hvm : u.vm.Alike U.vm) (h : mo_AO u) : mo_AO U := by
  obtain ⟨comp, c, k, h1, h2, h3, h4, h5⟩ := Jvm.Stand.arrayOver_specB h
  obtain ⟨k', hk', he⟩ := hvm.2.2 _ _ h3
  have hi : (U.vm.classes.findIdx? fun (x : Class) => match x.kind with | .array component _ => component == comp | _ => false) = some c := by
    refine Eq.trans (va_idx_bare U.vm comp).symm ?_
    first | rw [hvm.bare_eq] | rw [← hvm.bare_eq]
    exact Eq.trans (va_idx_bare u.vm comp) h2
  have hkind : k'.kind = .array comp (.array .int) := by rw [he]; exact h4
  have f1 : U.vm.findClass (FieldType.array .int).toString = some comp := by rw [hvm.findClass]; exact h1
  have f2 : U.vm.findClass ("[" ++ (FieldType.array .int).toString) = some c := by rw [hvm.findClass]; exact h5
  unfold mo_AO Cond.before Cond.holds
  simp only [Cond.value]
  rw [f1, Option.bind_some]
  refine (congrArg (fun o : Option Nat => (o.bind (fun c => (U.vm.classes[c]?).map fun (k : Class) => match k.kind with | .array _ ty => decide (ty = FieldType.array .int) && decide (U.vm.findClass ("[" ++ (FieldType.array .int).toString) = some c) | _ => false) == some true)) hi).trans ?_
  simp [hk', hkind, f2]
