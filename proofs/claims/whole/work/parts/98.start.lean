/-! THE CLAIM OUT OF ONE WALK OF THE LAW'S BODY. Your part is whole_start (and what it stands on); all else here is the same for every law, but numbers. -/
def R_law : String := "BellTreesLaw"
def lw_P (b : Addr) (xs : List Int32) (args : Array Value) (s : State) : Prop := args = #[.ref b] ∧ s.IntsAt b xs ∧ xs.length ≤ 3072 ∧ (Jvm.Cond.and given_1 narrow_1).before args s = true
def lw_Q (_ : Array Value) (s : State) (o : Outcome) (t : State) : Prop := o = .returned (some (.int 1)) ∧ Framed s o t [] 600000 7302250
def lw_Z (below : List Frame) (a : Array Value) (s : State) : State → Prop := fun t => ∃ o, t.status = .running ∧ Ended t below o ∧ lw_Q a s o t
/-- the law's own end, with 1 on the stack, nothing written that was there before, its room as the claim has it -/
theorem lw_ret {p : Program} {l : Launch} {e : Env} {s : State} {m : MethodId} {below : List Frame} {meth : Method} {c : Code} {b : Nat} (hx : p.tables.exec = Jvm.exec) (hb : c.code = code) (hr : meth.sig.returnType = ret) (hlocks : meth.locks = false) {pc : Nat} {H : Heap} {ls : Array Slot} (hdg : decode code pc = .ok (.ireturn, 1)) : W p l e room_1 s m #[Value.ref b] below meth c H [] 600000 7302250 (lw_Z below #[Value.ref b] s) (F0 m pc ls [.int 1]) := by
  intro T hT X
  obtain ⟨fs, hret, hrun, hended, hW, hframe⟩ := X.leave (v := some (.int 1)) (hlocks := hlocks) (fun h => by rw [hr] at h; cases h)
  have hmeth' : T.vm.method? m = some meth := X.method'
  refine ⟨T.setFrames fs, ?_, .returned (some (.int 1)), hrun, hended, rfl, ⟨_, rfl⟩, hW, hframe⟩
  jvm_step X.here [X.here.top, hx, hb, hdg, hmeth', hr, ret, narrow_b1]
  (try refine ⟨rfl, ?_⟩); (try refine ⟨rfl, ?_⟩)
  first | (intro acts; rw [hret _ acts rfl rfl rfl]) | rw [hret _ _ rfl rfl rfl]
  exact Steps.refl _
/-- what holds at the law's entry: the machine, the code, the tables' words (any of lw_tbl by 'hts w (by decide +kernel)'), the script of L ints xs at the cell b, what the Statement gives of the start (any of its parts by flat_of_before) -/
def lw_At (p : Program) (s : State) (m : MethodId) (meth : Method) (c : Code) (b L : Nat) (xs : Nat → Int32) : Prop :=
  p.tables.exec = Jvm.exec ∧ c.code = code ∧ meth.sig.returnType = ret ∧ c.maxLocals = 4 ∧ s.vm.findClass R_law = some m.cls ∧ (∀ w ∈ lw_tbl, w.before #[Value.ref b] s = true) ∧ va_X b L xs s s.heap ∧ b < s.heap.size ∧ meth.locks = false ∧ (Jvm.Cond.and given_1 narrow_1).before #[Value.ref b] s = true
-- ===== YOUR PART BEGINS =====
/-- from behind the two constructors: the loop, and its end -/
theorem lw_go {p : Program} {e : Env} {s : State} {m : MethodId} {below : List Frame} {meth : Method} {c : Code} {l : Launch} {D : va_G} {dA : Nat → ClassId} {stA : Nat → Nat} {b L : Nat} {xs : Nat → Int32} (hL : L ≤ 3072) (C0 : lw_At p s m meth c b L xs) (hK : va_K D bt_cl (tys6 dA) s) (h3 : stA 3 = b) (hSF : bt_SF (mkP l D dA s.heap.size stA xs L) s s.heap) {H : Heap} {locs : List Loc} {cells slots : Nat} (hcs : cells ≤ 600000 ∧ slots ≤ 7302250) (hW : rwC D s.heap.size (ec_B (mkP l D dA s.heap.size stA xs L) s.heap.size ++ ec_M (mkP l D dA s.heap.size stA xs L) (s.heap.size + 93)) s.heap H locs) {ls : Array Slot} (hl : lv_has ls 4 [(3, .int 0), (2, .ref (s.heap.size + 93)), (1, .ref s.heap.size), (0, .ref b)]) : W p l e room_1 s m #[Value.ref b] below meth c H locs cells slots (lw_Z below #[Value.ref b] s) (F0 m 18 ls []) := by
  obtain ⟨hx, hb, hr, hml, hown, hts, hX, hbl, hlocks, hgv⟩ := id C0
  have hok := mk_ok l D dA s.heap.size stA xs L
  have hP := ini_P l D dA s.heap.size stA xs L hW
  have hgo := lw_loop (P := mkP l D dA s.heap.size stA xs L) (d := 0) (f := fun x _ _ => x = 1) hL (fun _ _ => rfl) (L + 1) 0 I0 L0 (by show L - 0 < L + 1; omega) (by omega) (wq_init _)
  generalize hPe : mkP l D dA s.heap.size stA xs L = P at hok hP hgo hSF
  have eB : bt_B P = s.heap.size := by rw [← hPe]; rfl
  have eD : bt_D P = D := by rw [← hPe]; rfl
  have eT : bt_tys P = tys6 dA := by rw [← hPe]; rfl
  have eL : bt_l P = l := by rw [← hPe]; rfl
  have eA : bt_A P = fun q => s.heap.size ≤ q := by funext q; rw [← hPe]; rfl
  have v0 : bt_va P (vr 103 0) = .ref b := by rw [← hPe, ← h3]; rfl
  have v1 : bt_va P (vr 0 0) = .ref s.heap.size := by rw [← hPe]; rfl
  have v2 : bt_va P (vr 35 0) = .ref (s.heap.size + 93) := by rw [← hPe]; rfl
  have hS : va_S (bt_A P) s.heap H locs := by
    rw [eA]
    exact cr_S hW (fun _ h => h) (Nat.le_add_right _ _)
  rw [← eL]
  refine hgo p e room_1 s m #[Value.ref b] below meth c cells slots (lw_Z below #[Value.ref b] s) ⟨⟨hx, hb, hml, hr, hlocks, hown, fun w hw => hts w (bt_gw_in hw), by rw [eD, eT]; exact hK, hSF, hok, ini_NW hts⟩, Nat.le_of_ble_eq_true rfl, Nat.le_of_ble_eq_true rfl, hcs, ?_⟩ H locs ls ⟨⟨hl.1, hl.2.1, fun i v hi => ?_⟩, fun v hv => by (cases hv), fun i v hi => ?_, hP, hS⟩
  · intro r σ H1 locs1 pc ls1 hk _ _ hS1 hi _
    rcases r with _ | (x | (x | x))
    · exact False.elim hk
    · have hk : x = 1 := hk
      subst hk
      refine va_forget (fun q hq => ?_) ?_
      · have z := hS1.2.2 q hq
        rw [eA] at z
        exact z
      refine W.widen (k := 600000) (n := 7302250) hcs.1 hcs.2 ?_
      exact lw_ret hx hb hr hlocks hi
    · exact False.elim hk
    · exact False.elim hk
  · match i, hi with
    | 0, hi => cases hi; rw [v0]; exact hl.2.2 (0, _) (List.mem_of_getElem? (i := 3) rfl)
    | 1, hi => cases hi; rw [v1]; exact hl.2.2 (1, _) (List.mem_of_getElem? (i := 2) rfl)
    | 2, hi => cases hi; rw [v2]; exact hl.2.2 (2, _) (List.mem_of_getElem? (i := 1) rfl)
    | 3, hi =>
      cases hi
      show ls[3]? = some (.val (.int (nI 0)))
      rw [nI_0]
      exact hl.2.2 (3, _) (List.mem_of_getElem? (i := 0) rfl)
    | i + 4, hi => cases i <;> cases hi
  · match i, hi with
    | 0, hi => cases hi; exact Or.inr ⟨by decide, by decide⟩
    | 1, hi => cases hi; exact Or.inl (by decide)
    | 2, hi => cases hi; exact Or.inl (by decide)
    | 3, hi => cases hi; trivial
    | i + 4, hi => cases i <;> cases hi
set_option maxHeartbeats 4000000 in
set_option maxRecDepth 100000 in
/-- YOUR PART: from the entry, for every script of at most 3072 ints, the law comes to its end with true ('hflags': the launch's flags, for a law that throws: no stack traces) -/
theorem whole_start {p : Program} {e : Env} {s : State} {m : MethodId} {below : List Frame} {meth : Method} {c : Code} (l : Launch) (hflags : l.flags = flags0) {b L : Nat} {xs : Nat → Int32} (hL : L ≤ 3072) (C0 : lw_At p s m meth c b L xs) : W p l e room_1 s m #[Value.ref b] below meth c s.heap [] 0 0 (lw_Z below #[Value.ref b] s) (entryFrame m ([Value.ref b] : List Value).toArray 4) := by
  obtain ⟨hx, hb, hr, hml, hown, hts0, hX, hbl, hlocks, hgv⟩ := id C0
  obtain ⟨D, dA, hK0⟩ := ini_K hts0
  obtain ⟨stA, h3, hSF0⟩ := ini_SF (L := L) (xs := xs) hts0 hgv hX hbl
  have hSF := hSF0 l D dA
  have hNW := ini_NW hts0
  have hCN := ini_CN hts0
  have hAO : mo_AO s := hts0 (.arrayOver (.array .int)) (bt_tin1 (List.mem_of_getElem? (i := 32) (by decide +kernel)))
  have hAS : va_AO "BellTrees$Shelf" s := va_AO.of (hts0 (.arrayOver (.object "BellTrees$Shelf")) (bt_tin1 (List.mem_of_getElem? (i := 221) (by decide +kernel))))
  have hts : ∀ w ∈ bt_gw, w.before #[Value.ref b] s = true := fun w hw => hts0 w (bt_gw_in hw)
  have hgo : ∀ (H : Heap) (locs : List Loc) (ls : Array Slot), rwC (bt_D (mkP l D dA s.heap.size stA xs L)) s.heap.size (ec_B (mkP l D dA s.heap.size stA xs L) s.heap.size ++ ec_M (mkP l D dA s.heap.size stA xs L) (s.heap.size + 93)) s.heap H locs → lv_has ls 4 [(3, .int 0), (2, .ref (s.heap.size + 93)), (1, .ref s.heap.size), (0, .ref b)] → W p (bt_l (mkP l D dA s.heap.size stA xs L)) e room_1 s m #[Value.ref b] below meth c H locs 128 4520 (lw_Z below #[Value.ref b] s) (F0 m 18 ls []) := fun H locs ls hW hl => lw_go hL C0 hK0 h3 hSF ⟨by decide, by decide⟩ hW hl
  have hB : bt_B (mkP l D dA s.heap.size stA xs L) ≤ s.heap.size := Nat.le_refl _
  have hK : va_K (bt_D (mkP l D dA s.heap.size stA xs L)) bt_cl (bt_tys (mkP l D dA s.heap.size stA xs L)) s := hK0
  have hown : s.vm.findClass "BellTreesLaw" = some m.cls := hown
  have hl0 : bt_l (mkP l D dA s.heap.size stA xs L) = l := rfl
  have hD0 : bt_D (mkP l D dA s.heap.size stA xs L) = D := rfl
  generalize mkP l D dA s.heap.size stA xs L = P at hSF hB hK hgo hl0 hD0
  subst hl0
  subst hD0
  have hl := lv_entry ([.ref b] : List Value) (n := 4) (Nat.le_of_ble_eq_true rfl)
  rw [lg_entry_eq]
  generalize (lg_sl ([.ref b] : List Value) ++ List.replicate (4 - (lg_sl ([.ref b] : List Value)).length) Slot.unset).toArray = ls at hl ⊢
  have hl : lv_has ls 4 [(0, .ref b)] := hl
  have hW : rwC (bt_D P) s.heap.size [] s.heap s.heap [] := ⟨rfl, fun j x h => by simp at h, fun _ _ => rfl, fun l h => by cases h⟩
  refine cr_newA (own := "BellTreesLaw") (ci := 0) (k := 0) (C := bt_R0) (T := bt_T0) (N := 9) (fs := [.null, .null, .null, .null, .null, .null, .null, .null, .null]) hx hb hts bt_inG0 bt_ty0 bt_tyok0 hown (bt_gin (bt_tin1 (List.mem_of_getElem? (i := 15) (by decide +kernel))) rfl) (bt_gin bt_inst0 rfl) gw_B_l hK hW rfl bd_B (Nat.le_of_ble_eq_true rfl) (Nat.le_of_ble_eq_true rfl) dk_X_0 rfl (fun H hW => ?_)
  refine lv_dup hx hb dk_X_3 rfl ?_
  refine cr_ctorI (own := "BellTreesLaw") (As := []) (rest := [.ref s.heap.size]) (na := 0) (n' := s.heap.size) hx hb hml hown hts hl.1 hW rfl (cc_B P s.heap.size hB) gw_B_c gw_B_l gw_B_i (bt_gin (bt_tin1 (List.mem_of_getElem? (i := 17) (by decide +kernel))) rfl) rfl ⟨by decide +kernel, by decide +kernel, by decide +kernel⟩ rfl rfl ⟨Nat.le_of_ble_eq_true rfl, Nat.le_of_ble_eq_true rfl⟩ (pr_B hW rfl hK hAO hAS hB hSF hCN) rfl rfl (Nat.le_of_ble_eq_true rfl) dk_X_4 ⟨Nat.le_of_ble_eq_true rfl, Nat.le_of_ble_eq_true rfl⟩ (fun H locs hW => ?_)
  have hW : rwC (bt_D P) s.heap.size (ec_B P s.heap.size) s.heap H locs := hW
  refine lv_astore_n (lv' := [(1, .ref s.heap.size), (0, .ref b)]) hx hb dk_X_7 rfl hl (by decide) rfl (fun ls hl => ?_)
  refine cr_newA (own := "BellTreesLaw") (ci := 9) (k := 93) (C := bt_R9) (T := bt_T9) (N := 53) (fs := [.int 0, .int 0, .null, .null, .null, .null, .null, .null, .int 0, .int 0, .null, .null, .int 0, .int 0, .int 0, .int 0, .null, .null, .null, .null, .null, .null, .int 0, .int 0, .int 0, .int 0, .int 0, .null, .null, .null, .null, .null, .null, .null, .int 0, .null, .null, .null, .int 0, .int 0, .int 0, .null, .null, .null, .null, .int 0, .null, .int 0, .null, .null, .null, .null, .null]) hx hb hts bt_inG9 bt_ty9 bt_tyok9 hown (bt_gin (bt_tin4 (List.mem_of_getElem? (i := 212) (by decide +kernel))) rfl) (bt_gin bt_inst9 rfl) gw_M_l hK hW rfl bd_M (Nat.le_of_ble_eq_true rfl) (Nat.le_of_ble_eq_true rfl) dk_X_8 (len_B P _) (fun H hW => ?_)
  refine lv_dup hx hb dk_X_11 rfl ?_
  refine cr_ctorI (own := "BellTreesLaw") (As := []) (rest := [.ref (s.heap.size + 93)]) (na := 0) (n' := s.heap.size + 93) hx hb hml hown hts hl.1 hW (by rw [len_B]) (cc_M P (s.heap.size + 93)) gw_M_c gw_M_l gw_M_i (bt_gin (bt_tin4 (List.mem_of_getElem? (i := 214) (by decide +kernel))) rfl) rfl ⟨by decide +kernel, by decide +kernel, by decide +kernel⟩ rfl rfl ⟨Nat.le_of_ble_eq_true rfl, Nat.le_of_ble_eq_true rfl⟩ (pr_plain [.ref (s.heap.size + 93)] hW (by rw [len_B]) hK) rfl rfl (Nat.le_of_ble_eq_true rfl) dk_X_12 ⟨Nat.le_of_ble_eq_true rfl, Nat.le_of_ble_eq_true rfl⟩ (fun H locs hW => ?_)
  refine lv_astore_n (lv' := [(2, .ref (s.heap.size + 93)), (1, .ref s.heap.size), (0, .ref b)]) hx hb dk_X_15 rfl hl (by decide) rfl (fun ls hl => ?_)
  refine lv_iconst (v := 0) hx hb dk_X_16 rfl ?_
  refine lv_istore_n (lv' := [(3, .int 0), (2, .ref (s.heap.size + 93)), (1, .ref s.heap.size), (0, .ref b)]) hx hb dk_X_17 rfl hl (by decide) rfl (fun ls hl => ?_)
  exact hgo _ _ _ hW hl
-- ===== YOUR PART ENDS =====
set_option maxHeartbeats 4000000 in
theorem lw_walk (l : Launch) (hflags : l.flags = flags0) (b : Addr) (xs : List Int32) : MetFree l x (headSpec (Jvm.Cond.code x code maxLocals ret :: tables_1) room_1) (lw_P b xs) (fun _ _ _ _ _ => True) lw_Q := by
  refine MetFree.of_bodyS (code := code) (maxLocals := maxLocals) (ret := ret) (by decide) ?_ ?_
  · intro args s m h hn
    obtain ⟨meth, c, h1, h2, h3, h4, h5, h6, -, -⟩ := Cond.code_spec hn (atoms_spec (ws := Jvm.Cond.code x code maxLocals ret :: tables_1) h _ List.mem_cons_self)
    exact ⟨meth, c, h1, h2, h3, h4, h5, h6⟩
  · intro p e s m args below meth c s₁ B hml0 hP _
    obtain ⟨rfl, hx, hbd, hgv⟩ := hP
    obtain ⟨scr, harrAt, hlist, hof, hsmall⟩ := hx
    obtain ⟨hcb, hkn, -, -⟩ := State.arrayAt?_spec harrAt
    have hown : s.vm.findClass R_law = some m.cls := findClass_of_methodNamed B.named
    have hts0 : ∀ c ∈ (Jvm.Cond.code x code maxLocals ret :: tables_1), c.before #[Value.ref b] s = true := atoms_spec (ws := Jvm.Cond.code x code maxLocals ret :: tables_1) B.pre
    have hts : ∀ w ∈ lw_tbl, w.before #[Value.ref b] s = true := k2_hts_sels lw_privs (fun w hw => hts0 w (List.mem_cons_of_mem _ hw)) lw_privs_ok
    have hml : c.maxLocals = 4 := B.maxLocals_eq (hts0 _ List.mem_cons_self)
    have X₀ : Stand p l e room_1 s m #[Value.ref b] below meth c s₁ [] 0 0 := Stand.of_body B
    have hh0 : s₁.heap = s.heap := by rw [B.state]; rfl
    have hsz : scr.slots.size = xs.length := by rw [← Array.length_toList, hlist, List.length_map]
    have hval : ∀ j : Nat, j < xs.length → scr.slots[j]? = some (.int (xs.getD j 0)) := fun j hj => by
      rw [← Array.getElem?_toList, hlist]
      simp [hj]
    have hbl : b < s.heap.size := (Array.getElem?_eq_some_iff.mp hcb).1
    have hX : va_X b xs.length (fun j => xs.getD j 0) s s.heap := ⟨scr, hcb, hof, hkn, hsz, hval⟩
    have K : W p l e room_1 s m #[Value.ref b] below meth c s₁.heap [] 0 0 (lw_Z below #[Value.ref b] s) (entryFrame m ([Value.ref b] : List Value).toArray 4) := by
      rw [hh0]
      exact whole_start l hflags hbd ⟨B.exec, B.bytes, B.returns, hml, hown, hts, hX, hbl, B.notSynchronized, hgv⟩
    obtain ⟨t, a1, o, b1, b2, b3⟩ := K s₁ rfl X₀
    exact ⟨t, o, a1, b1, b2, b3⟩
theorem lw_pre_spec {args : Array Value} {s : State} (h : (Jvm.Cond.and given_1 narrow_1).before args s = true) (hr : rest_1_c.before args s = true) : ∃ (b : Addr) (xs : List Int32), lw_P b xs args s := by
  have hs := flat_of_before _ h
  have hq := flat_of_before _ hr
  have hc : (Cond.count 1).before args s = true := hs _ (by decide +kernel)
  have harr : (Cond.arrayOf (.arg 0) .int).before args s = true := hs _ (by decide +kernel)
  have hle : (Cond.le (.length (.arg 0)) (.int 3072)).before args s = true := hs _ (by decide +kernel)
  have hlen : (Cond.isInt (.length (.arg 0))).before args s = true := hq _ (by decide +kernel)
  have hall : (Cond.all (.arg 0) (.isInt (.elem (.arg 0) (.index 0)))).before args s = true := hq _ (by decide +kernel)
  obtain ⟨b, xs, hb, hx⟩ := State.ints_of_pre rfl harr hlen hall
  have hsm : xs.length < 2 ^ 31 := hx.choose_spec.2.2.2
  have hev : (Term.length (.arg 0)).eval args s none [] s = some (.int xs.length.toInt32) := hx.length_eval hb
  have hv := Cond.le_ints hev (show (Term.int 3072).eval args s none [] s = some (.int 3072) from rfl)
  have hd : xs.length.toInt32 ≤ 3072 := by
    simpa [Cond.before, Cond.holds, hv] using hle
  have hN : xs.length ≤ 3072 := (Int32.ofNat_le_ofNat hsm (by decide)).mp (show Int32.ofNat xs.length ≤ Int32.ofNat 3072 from hd)
  exact ⟨b, xs, Cond.one_arg hc (show args[0]? = some (.ref b) from hb), hx, hN, h⟩
theorem lw_comes (l : Launch) (hflags : l.flags = flags0) : Comes l x (Jvm.Cond.code x code maxLocals ret :: tables_1) room_1 (fun tb e args s => Calls_1 tb e args s ∧ rest_1 tb e args s ∧ Pre_1 tb e args s)
    (fun _ _ args s o t => lw_Q args s o t) := by
  intro p e ha hc hk s m args below hf hfit hheap happ hpre
  obtain ⟨b, xs, hP⟩ := lw_pre_spec hpre.2.2 hpre.2.1
  obtain ⟨k, o, h1, h2, h3, hQ⟩ := lw_walk l hflags b xs p e ha hc hk s m args below hf ((Spec.applies_iff_loose hf).mp happ).1 hP trivial
  exact ⟨k, o, h1, h2, h3, hQ⟩
theorem lw_frame {s t : State} {o : Outcome} {args : Array Value} (h : Framed s o t [] 600000 7302250) :
    Framed s o t (fieldLocs frame_1_writes args s ++ arrayLocs frame_1_arrays args s ++ staticLocs frame_1_statics s) 600000 7302250 := h
theorem lw_limb (L : Cond) (hL : ∀ (args : Array Value) (s t : State), L.after args s (.returned (some (.int 1))) t = true) :
    ArmFor flags0 classFile x code maxLocals ret World_1 tables_1 room_1 Calls_1 rest_1 Pre_1
      (fun tb e a s o t => postC L tb e a s o t ∧ Framed s o t (fieldLocs frame_1_writes a s ++ arrayLocs frame_1_arrays a s ++ staticLocs frame_1_statics s) 600000 7302250) := by
  intro l hflags _ _ p e ha hc hk s m args below hf hfit hheap happ hpre
  obtain ⟨k, o, h1, h2, h3, rfl, hF⟩ := lw_comes l hflags p e ha hc hk s m args below hf hfit hheap happ hpre
  exact ⟨k, _, h1, h2, h3, hL args s _, lw_frame hF⟩
theorem i_vc : Claimed_1_1 ∧ Claimed_1_2 := ⟨lw_limb limb_1_1 (fun args s t => by simp [limb_1_1, Cond.after, Cond.holds, Cond.value]), lw_limb limb_1_2 (fun args s t => Cond.after_iff.mpr (by
  first | (rw [show limb_1_2 = Cond.eq .result (.int 1) from rfl, Cond.eq_ints (x := 1) (y := 1) rfl rfl]; simp; done) | (simp [limb_1_2, Cond.value, Term.eval]; done)))⟩
