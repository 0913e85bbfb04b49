/-! THE ABSTRACT MACHINE IS SOUND, 1: what the tables say, contracts, locals -/
def bt_gw : List Cond := lw_tbl.filter goodWord
theorem bt_gin {w : Cond} (h : w ∈ lw_tbl) (hg : goodWord w = true) : w ∈ bt_gw := List.mem_filter.mpr ⟨h, hg⟩
theorem bt_gw_good : ∀ w ∈ bt_gw, (w.onTables && w.keeps) = true ∨ ∃ ty, w = .arrayClass ty := fun w h => good_of_word (List.mem_filter.mp h).2
/-- the links to a nest mate's private methods: they are carried with the world -/
def bt_nests : List (String × Nat × MethodName × String) := [("BellTrees$Sounds", 67, ⟨"BellTrees", "isMinute", "(I)Z"⟩, "BellTrees"), ("BellTrees$Walks", 58, ⟨"BellTrees", "isMinute", "(I)Z"⟩, "BellTrees"), ("BellTrees$Forest", 90, ⟨"BellTrees", "nextDraw", "(I)I"⟩, "BellTrees")]
def bt_NW (U : State) : Prop := ∀ q ∈ bt_nests, va_Nw (.methodLinkNest q.1 q.2.1 q.2.2.1 q.2.2.2) U
def bt_lkM (mi : bt_MI) (n : Nat) : Prop := Cond.code mi.1 mi.2.1 mi.2.2.1 mi.2.2.2 ∈ bt_gw ∧ Cond.initialized mi.1.cls ∈ bt_gw ∧ (mi.1.cls ≠ "java/lang/invoke/MethodHandle" ∧ mi.1.cls ≠ "java/lang/invoke/VarHandle" ∧ (parseMethodDescriptor mi.1.desc).map (fun d => d.parameters.length) = some n) ∧ mi.2.2.1 ≤ 21
def bt_lkV (own : String) (idx : Nat) (mi : bt_MI) (n c : Nat) : Prop := (∃ (k : Nat) (T : u_T) (N : Nat), n = k + 1 ∧ bt_cl[c]? = some (mi.1.cls, T, N) ∧ bt_lkM mi k) ∧ Cond.methodLink own idx mi.1 ∈ bt_gw ∧ Cond.instanceMethod mi.1 ∈ bt_gw ∧ Cond.selects mi.1.cls mi.1 mi.1 ∈ bt_gw
def bt_lkS (own : String) (idx : Nat) (mi : bt_MI) (n : Nat) : Prop := bt_lkM mi n ∧ (Cond.methodLink own idx mi.1 ∈ bt_gw ∨ ∃ host : String, (own, idx, mi.1, host) ∈ bt_nests) ∧ Cond.static mi.1 ∈ bt_gw
def bt_lkC (own : String) (idx : Nat) : Prop := Cond.methodLink own idx arraycopyName ∈ bt_gw ∧ Cond.native arraycopyName ∈ bt_gw ∧ Cond.static arraycopyName ∈ bt_gw ∧ Cond.initialized "java/lang/System" ∈ bt_gw
def bt_lkx (own : String) (idx : Nat) (n : MethodName) (c : ByteArray) : Prop := Cond.methodLink own idx n ∈ bt_gw ∧ Cond.static n ∈ bt_gw ∧ Cond.initialized "java/lang/Math" ∈ bt_gw ∧ Cond.code n c 2 (some .int) ∈ bt_gw
/-- a field: the class at its place, its table in order, the link -/
def bt_lkF (own : String) (idx : Nat) (c k : Nat) (put : Bool) : Prop := ∃ (C : String) (T : u_T) (N : Nat) (ty : Nat → FieldType), bt_cl[c]? = some (C, T, N) ∧ N = bt_nf c ∧ (∀ w ∈ u_ws C T N, w ∈ bt_gw) ∧ (∀ k, k < N → parseFieldDescriptor (T k).2.2.1 = some (ty k)) ∧ (∀ a, a < N → ∀ b, b < N → a ≠ b → (T a).2.1 ≠ (T b).2.1) ∧ (T k).1 = C ∧ Cond.fieldLink own idx C (T k).2.1 (T k).2.2.1 ∈ bt_gw ∧ (put = true → (T k).2.2.2 = false ∧ ((bt_fk c k = 0 ∧ ty k = .int) ∨ (bt_fk c k = 1 ∧ ty k = .boolean)))
def bt_lkG (own : String) (idx : Nat) (j : Nat) : Prop := j < 3 ∧ Cond.fieldLink own idx (bt_SC j).1 (bt_SC j).2 "[I" ∈ bt_gw
def bt_link (own : String) (en : bt_E) : Prop := match en.1 with
  | .invokevirtual idx => bt_lkV own idx en.2.2.2.2.2 en.2.2.1.1 en.2.2.1.2
  | .invokestatic idx => (en.2.2.1.2 = 100 → bt_lkS own idx en.2.2.2.2.2 en.2.2.1.1) ∧ (en.2.2.1.2 = 101 → bt_lkC own idx) ∧ (en.2.2.1.2 = 102 → bt_lkx own idx Lib.Math.max.name Lib.Math.max.code) ∧ (en.2.2.1.2 = 103 → bt_lkx own idx Lib.Math.min.name Lib.Math.min.code)
  | .getfield idx => bt_lkF own idx en.2.2.1.1 en.2.2.1.2 false
  | .putfield idx => bt_lkF own idx en.2.2.1.1 en.2.2.1.2 true
  | .getstatic idx => bt_lkG own idx en.2.2.1.1
  | .ldc idx => Cond.constant own idx en.2.2.2.1.1 ∈ bt_gw
  | .ldc_w idx => Cond.constant own idx en.2.2.2.1.1 ∈ bt_gw
  | .ldc2_w idx => Cond.constantLong own idx en.2.2.2.1.2 ∈ bt_gw
  | _ => True
/-- what a program checks of an entry, its decoding apart -/
def bt_ck (maxL pc : Nat) (en : bt_E) : Bool := match en.1 with
  | .iconst n => decide (Int32.ofInt n = en.2.2.2.1.1) && decide (en.2.1 = 1)
  | .bipush n => decide ((Int8.ofInt n).toInt32 = en.2.2.2.1.1) && decide (en.2.1 = 2)
  | .sipush n => decide ((Int16.ofInt n).toInt32 = en.2.2.2.1.1) && decide (en.2.1 = 3)
  | .lconst n => decide (Int64.ofNat (n : Nat) = en.2.2.2.1.2) && decide (en.2.1 = 1)
  | .ldc _ => decide (en.2.1 = 2)
  | .iload _ | .lload _ | .aload _ => decide (en.2.1 = 2)
  | .ldc_w _ | .ldc2_w _ | .getfield _ | .putfield _ | .getstatic _ | .invokevirtual _ | .invokestatic _ => decide (en.2.1 = 3)
  | .istore i | .astore i => decide (i < maxL) && decide (en.2.1 = 2)
  | .istore_n i | .astore_n i => decide (i.1 < maxL) && decide (en.2.1 = 1)
  | .lstore i => decide (i + 1 < maxL) && decide (en.2.1 = 2)
  | .lstore_n i => decide (i.1 + 1 < maxL) && decide (en.2.1 = 1)
  | .iinc i n => decide (i < maxL) && decide (Int32.ofInt n = en.2.2.2.1.1) && decide (en.2.1 = 3)
  | .goto off => decide ((pc : Int) + off = (en.2.2.1.1 : Int)) && decide (en.2.1 = 3)
  | .ifCond _ off => decide ((pc : Int) + off = (en.2.2.1.1 : Int)) && decide (en.2.1 = 3)
  | .if_icmp _ off => decide ((pc : Int) + off = (en.2.2.1.1 : Int)) && decide (en.2.1 = 3)
  | .ifnull off => decide ((pc : Int) + off = (en.2.2.1.1 : Int)) && decide (en.2.1 = 3)
  | .ifnonnull off => decide ((pc : Int) + off = (en.2.2.1.1 : Int)) && decide (en.2.1 = 3)
  | .tableswitch d lo hi offs => decide ((pc : Int) + d = (en.2.2.1.1 : Int)) && decide (-2147483648 ≤ lo) && decide (hi < 2147483648) && decide (lo ≤ hi) && en.2.2.2.2.1.all (fun q => decide (lo ≤ q.1.toInt) && decide (q.1.toInt ≤ hi) && decide ((offs[(q.1.toInt - lo).toNat]?).map (fun o => (pc : Int) + o) = some (q.2 : Int))) && (List.range ((hi - lo).toNat + 1)).all (fun j => en.2.2.2.2.1.any (fun q => decide (q.1.toInt = lo + (j : Int))))
  | .lookupswitch d ps => decide ((pc : Int) + d = (en.2.2.1.1 : Int)) && (ps.toList.zip (ps.toList.drop 1)).all (fun (a, next) => a.1 < next.1) && decide (ps.toList.length = en.2.2.2.2.1.length) && (ps.toList.zip en.2.2.2.2.1).all (fun z => decide (z.2.1.toInt = z.1.1) && decide ((pc : Int) + z.1.2 = (z.2.2 : Int)))
  | .new _ | .invokespecial _ | .newarray _ | .anewarray _ | .multianewarray _ _ => true
  | _ => decide (en.2.1 = 1)
def bt_dec (bytes : ByteArray) (maxL : Nat) : Nat → List bt_E → Bool
  | _, [] => true
  | pc, en :: r => decide (decode bytes pc = .ok (en.1, en.2.1)) && bt_ck maxL pc en && bt_dec bytes maxL (pc + en.2.1) r
def bt_links (own : String) : List bt_E → Prop
  | [] => True
  | en :: r => bt_link own en ∧ bt_links own r
def bt_Cx (P : bt_PT) (mi : bt_MI) (p : Program) (s : State) (m : MethodId) (args : Array Value) (meth : Method) (c : Code) : Prop :=
  p.tables.exec = Jvm.exec ∧ c.code = mi.2.1 ∧ c.maxLocals = mi.2.2.1 ∧ meth.sig.returnType = mi.2.2.2 ∧ meth.locks = false ∧ s.vm.findClass mi.1.cls = some m.cls ∧ (∀ w ∈ bt_gw, w.before args s = true) ∧ va_K (bt_D P) bt_cl (bt_tys P) s ∧ bt_SF P s s.heap ∧ bt_okP P ∧ bt_NW s
def bt_lk (P : bt_PT) (L : List (Option av_T)) (ls : Array Slot) (nL : Nat) : Prop := ls.size = nL ∧ lv_wf ls ∧ ∀ i v, bt_nth none L i = some v → ls[i]? = some (.val (bt_va P v))
def bt_Dy (P : bt_PT) (nL : Nat) (s : State) (H : Heap) (locs : List Loc) (ls : Array Slot) (L : List (Option av_T)) (S : List av_T) (σ : st_T) : Prop :=
  bt_lk P L ls nL ∧ (∀ v ∈ S, bt_okv v) ∧ (∀ i v, bt_nth none L i = some v → bt_okv v) ∧ va_P (bt_D P) bt_cl (bt_wl P σ) H ∧ va_S (bt_A P) s.heap H locs
def bt_isret (bytes : ByteArray) (pc : Nat) : Option av_T → Prop
  | none => decode bytes pc = .ok (.return_, 1)
  | some (.inl _) => decode bytes pc = .ok (.ireturn, 1)
  | some (.inr (.inl _)) => decode bytes pc = .ok (.lreturn, 1)
  | some (.inr (.inr _)) => decode bytes pc = .ok (.areturn, 1)
def bt_rty (ret : Option FieldType) : Option av_T → Prop
  | none => ret = none
  | some (.inl x) => ret = some .int ∨ (ret = some .boolean ∧ (x = 0 ∨ x = 1))
  | some (.inr (.inl _)) => ret = some .long
  | some (.inr (.inr _)) => ∃ n, ret = some (.object n)
/-- how the method's end is taken -/
def bt_Rt (P : bt_PT) (mi : bt_MI) (K : Option av_T → st_T → Prop) (p : Program) (e : Env) (R : Room) (s : State) (m : MethodId) (args : Array Value) (below : List Frame) (meth : Method) (c : Code) (cells slots : Nat) (Q : State → Prop) : Prop :=
  ∀ (r : Option av_T) (σ : st_T) (H : Heap) (locs : List Loc) (pc : Nat) (ls : Array Slot), K r σ → (∀ v, r = some v → bt_okv v) → va_P (bt_D P) bt_cl (bt_wl P σ) H → va_S (bt_A P) s.heap H locs → bt_isret mi.2.1 pc r → bt_rty mi.2.2.2 r →
    W p (bt_l P) e R s m args below meth c H locs cells slots Q (F0 m pc ls (r.toList.map (bt_va P)))
def bt_Cs (P : bt_PT) (d : Nat) (mi : bt_MI) (K : Option av_T → st_T → Prop) (p : Program) (e : Env) (R : Room) (s : State) (m : MethodId) (args : Array Value) (below : List Frame) (meth : Method) (c : Code) (cells slots : Nat) (Q : State → Prop) : Prop :=
  bt_Cx P mi p s m args meth c ∧ d + 1 ≤ R.frames ∧ 40 * (d + 1) ≤ R.locals ∧ (cells ≤ R.cells ∧ slots ≤ R.slots) ∧ bt_Rt P mi K p e R s m args below meth c cells slots Q
/-- from here the method comes to its end, with K -/
def bt_Go (P : bt_PT) (d : Nat) (mi : bt_MI) (K : Option av_T → st_T → Prop) : bt_NT := fun pc L S σ =>
  ∀ (p : Program) (e : Env) (R : Room) (s : State) (m : MethodId) (args : Array Value) (below : List Frame) (meth : Method) (c : Code) (cells slots : Nat) (Q : State → Prop), bt_Cs P d mi K p e R s m args below meth c cells slots Q →
  ∀ (H : Heap) (locs : List Loc) (ls : Array Slot), bt_Dy P mi.2.2.1 s H locs ls L S σ → W p (bt_l P) e R s m args below meth c H locs cells slots Q (F0 m pc ls (S.map (bt_va P)))
def bt_rm (d : Nat) : Room := { frames := d, cells := 0, slots := 0, locals := 40 * d }
def bt_Pc (P : bt_PT) (as : List av_T) (σ : st_T) : Array Value → State → Prop := fun v U => v = (as.map (bt_va P)).toArray ∧ (∀ a ∈ as, bt_okv a) ∧ va_P (bt_D P) bt_cl (bt_wl P σ) U.heap ∧ va_K (bt_D P) bt_cl (bt_tys P) U ∧ bt_SF P U U.heap ∧ bt_okP P ∧ bt_NW U
def bt_Qc (P : bt_PT) (K : Option av_T → st_T → Prop) : Array Value → State → Outcome → State → Prop := fun _ st o t => (∃ (r : Option av_T) (σ : st_T), o = .returned (r.map (bt_va P)) ∧ K r σ ∧ (∀ v, r = some v → bt_okv v) ∧ va_P (bt_D P) bt_cl (bt_wl P σ) t.heap) ∧ va_F (bt_A P) st t
/-- a method's contract as a predicate transformer -/
def bt_WP (P : bt_PT) (d : Nat) : bt_WT := fun mi as σ K => Met (bt_l P) mi.1 (Cond.code mi.1 mi.2.1 mi.2.2.1 mi.2.2.2 :: bt_gw) (bt_rm d) (bt_Pc P as σ) (bt_Qc P K) 0 0 (bt_A P)
-- ---------- locals
theorem bt_set_ne : ∀ (L : List (Option av_T)) (i j : Nat) (v : Option av_T), j ≠ i → bt_nth none (bt_set L i v) j = bt_nth none L j
  | [], i, j, v, _ => by cases i <;> rfl
  | a :: r, 0, j, v, h => by
    cases j with
    | zero => exact absurd rfl h
    | succ j => rfl
  | a :: r, i + 1, j, v, h => by
    cases j with
    | zero => rfl
    | succ j => exact bt_set_ne r i j v (fun e => h (by rw [e]))
theorem bt_set_eq : ∀ (L : List (Option av_T)) (i : Nat) (v : Option av_T) (w : av_T), bt_nth none (bt_set L i v) i = some w → v = some w
  | [], i, v, w, h => by cases i <;> cases h
  | a :: r, 0, v, w, h => h
  | a :: r, i + 1, v, w, h => bt_set_eq r i v w h
def bt_enum (P : bt_PT) : Nat → List (Option av_T) → List (Nat × Value)
  | _, [] => []
  | k, none :: r => bt_enum P (k + 1) r
  | k, some v :: r => (k, bt_va P v) :: bt_enum P (k + 1) r
theorem bt_enum_mem (P : bt_PT) : ∀ (L : List (Option av_T)) (k : Nat) (q : Nat × Value), q ∈ bt_enum P k L → ∃ (j : Nat) (v : av_T), q = (k + j, bt_va P v) ∧ bt_nth none L j = some v
  | [], k, q, h => by cases h
  | none :: r, k, q, h => by
    obtain ⟨j, v, h1, h2⟩ := bt_enum_mem P r (k + 1) q h
    exact ⟨j + 1, v, by rw [h1]; congr 1; omega, h2⟩
  | some w :: r, k, q, h => by
    rcases List.mem_cons.mp h with h | h
    · exact ⟨0, w, h, rfl⟩
    · obtain ⟨j, v, h1, h2⟩ := bt_enum_mem P r (k + 1) q h
      exact ⟨j + 1, v, by rw [h1]; congr 1; omega, h2⟩
theorem bt_mem_enum (P : bt_PT) : ∀ (L : List (Option av_T)) (k j : Nat) (v : av_T), bt_nth none L j = some v → (k + j, bt_va P v) ∈ bt_enum P k L
  | [], k, j, v, h => by cases j <;> cases h
  | none :: r, k, j, v, h => by
    cases j with
    | zero => cases h
    | succ j =>
      have h1 := bt_mem_enum P r (k + 1) j v h
      rw [show k + (j + 1) = k + 1 + j by omega]; exact h1
  | some w :: r, k, j, v, h => by
    cases j with
    | zero => cases h; exact List.mem_cons_self
    | succ j =>
      have h1 := bt_mem_enum P r (k + 1) j v h
      rw [show k + (j + 1) = k + 1 + j by omega]; exact List.mem_cons_of_mem _ h1
theorem bt_lk_has {P : bt_PT} {L : List (Option av_T)} {ls : Array Slot} {nL : Nat} (h : bt_lk P L ls nL) : lv_has ls nL (bt_enum P 0 L) := by
  refine ⟨h.1, h.2.1, fun q hq => ?_⟩
  obtain ⟨j, v, rfl, h2⟩ := bt_enum_mem P L 0 q hq
  rw [Nat.zero_add]; exact h.2.2 j v h2
theorem bt_cat_va (P : bt_PT) (v : av_T) : (bt_va P v).category = bt_cat v := by
  rcases v with x | x | (_ | q) <;> rfl
theorem bt_isl_cat {v : av_T} (h : bt_isl (some v) = false) : bt_cat v = 1 := by
  rcases v with x | x | (_ | q)
  · rfl
  · cases h
  · rfl
  · rfl
theorem bt_cat_isl {v : av_T} (h : bt_cat v = 2) : bt_isl (some v) = true := by
  rcases v with x | x | (_ | q)
  · cases h
  · rfl
  · cases h
  · cases h
theorem bt_lk_store1 {P : bt_PT} {L : List (Option av_T)} {ls' : Array Slot} {nL i : Nat} {v : av_T} (hc : bt_cut L i = false)
    (h : lv_has ls' nL ((i, bt_va P v) :: (bt_enum P 0 L).filter (fun q => !(q.1 == i) && !(q.1 + 1 == i && q.2.category == 2)))) : bt_lk P (bt_set L i (some v)) ls' nL := by
  refine ⟨h.1, h.2.1, fun j w hj => ?_⟩
  by_cases e : j = i
  · subst e
    cases bt_set_eq L j (some v) w hj
    exact h.2.2 _ List.mem_cons_self
  · rw [bt_set_ne L i j _ e] at hj
    refine h.2.2 (j, bt_va P w) (List.mem_cons_of_mem _ (List.mem_filter.mpr ⟨by simpa using bt_mem_enum P L 0 j w hj, ?_⟩))
    simp only [Bool.and_eq_true, Bool.not_eq_true', beq_eq_false_iff_ne, ne_eq, Bool.and_eq_false_iff]
    refine ⟨e, ?_⟩
    by_cases e2 : j + 1 = i
    · right
      subst e2
      have hc' : bt_isl (bt_nth none L j) = false := hc
      rw [hj] at hc'
      rw [bt_cat_va, bt_isl_cat hc']
      decide
    · left; exact e2
theorem bt_lk_store2 {P : bt_PT} {L : List (Option av_T)} {ls' : Array Slot} {nL i : Nat} {v : av_T} (hc : bt_cut L i = false)
    (h : lv_has ls' nL ((i, bt_va P v) :: (bt_enum P 0 L).filter (fun q => !(q.1 == i) && (!(q.1 == i + 1) && !(q.1 + 1 == i && q.2.category == 2))))) : bt_lk P (bt_set (bt_set L i (some v)) (i + 1) none) ls' nL := by
  refine ⟨h.1, h.2.1, fun j w hj => ?_⟩
  by_cases e1 : j = i + 1
  · subst e1
    cases bt_set_eq _ (i + 1) none w hj
  · rw [bt_set_ne _ (i + 1) j _ e1] at hj
    by_cases e : j = i
    · subst e
      cases bt_set_eq L j (some v) w hj
      exact h.2.2 _ List.mem_cons_self
    · rw [bt_set_ne L i j _ e] at hj
      refine h.2.2 (j, bt_va P w) (List.mem_cons_of_mem _ (List.mem_filter.mpr ⟨by simpa using bt_mem_enum P L 0 j w hj, ?_⟩))
      simp only [Bool.and_eq_true, Bool.not_eq_true', beq_eq_false_iff_ne, ne_eq, Bool.and_eq_false_iff]
      refine ⟨e, e1, ?_⟩
      by_cases e2 : j + 1 = i
      · right
        subst e2
        have hc' : bt_isl (bt_nth none L j) = false := hc
        rw [hj] at hc'
        rw [bt_cat_va, bt_isl_cat hc']
        decide
      · left; exact e2
theorem bt_okL_set {L : List (Option av_T)} {i : Nat} {v : av_T} (h : ∀ i v, bt_nth none L i = some v → bt_okv v) (hv : bt_okv v) : ∀ j w, bt_nth none (bt_set L i (some v)) j = some w → bt_okv w := by
  intro j w hj
  by_cases e : j = i
  · subst e
    cases bt_set_eq L j (some v) w hj
    exact hv
  · rw [bt_set_ne L i j _ e] at hj
    exact h j w hj
theorem bt_okL_none {L : List (Option av_T)} {i : Nat} (h : ∀ i v, bt_nth none L i = some v → bt_okv v) : ∀ j w, bt_nth none (bt_set L i none) j = some w → bt_okv w := by
  intro j w hj
  by_cases e : j = i
  · subst e
    cases bt_set_eq L j none w hj
  · rw [bt_set_ne L i j _ e] at hj
    exact h j w hj
