/-! printed by wip/whole/gen96.py: WHAT THE TABLES AND THE STATEMENT SAY AT THE START: classes, arrays, static arrays, links -/
theorem ar_of {A : Array Value} {s : State} {ty : FieldType} (h : (Cond.arrayClass ty).before A s = true) : ∃ cA : ClassId, ArrOfT s cA ty ∧ s.vm.findClass ("[" ++ ty.toString) = some cA := by
  obtain ⟨c, k, comp, h1, h2, h3⟩ := Cond.arrayClass_spec h
  exact ⟨c, fun N z => ⟨(fun k h => by cases h), k, h2, comp, h3⟩, h1⟩
theorem ar_ofA {A : Array Value} {s : State} (h : (Cond.arrayOver (.array .int)).before A s = true) : ∃ cA : ClassId, ArrOfT s cA (.array .int) ∧ va_RA s cA (.array .int) := by
  obtain ⟨comp, c, k, h1, h2, h3, h4, h5⟩ := Jvm.Stand.arrayOver_specB h
  exact ⟨c, fun N z => ⟨(fun k h => by cases h), k, h3, comp, h4⟩, h5⟩
theorem ar_ofO {A : Array Value} {s : State} {C : String} (h : (Cond.arrayOver (.object C)).before A s = true) : ∃ cA : ClassId, ArrOfT s cA (.object C) ∧ va_RA s cA (.object C) := by
  obtain ⟨comp, c, k, h1, h2, h3, h4, h5⟩ := Cond.arrayOver_spec h
  exact ⟨c, fun N z => ⟨(fun k h => by cases h), k, h3, comp, h4⟩, ⟨k, comp, h3, h4, h1, h5⟩⟩
def tys6 (dA : Nat → ClassId) : List (ClassId × FieldType) := [(dA 0, .int), (dA 1, .long), (dA 2, .byte), (dA 3, .short), (dA 4, .array .int), (dA 5, .object "BellTrees$Shelf")]
theorem ini_C {A : Array Value} {s : State} (hts : ∀ w ∈ lw_tbl, w.before A s = true) : ∃ D : va_G, ∀ (c : Nat) (q : vw_C), bt_cl[c]? = some q → u_Kn s q.1 q.2.1 q.2.2 (D.1 c) (D.2 c) := by
  obtain ⟨c0, i0, h0⟩ := u_known (C := bt_R0) (T := bt_T0) (N := 9) (n := 9) hts bt_in0 (hts _ bt_inst0)
  obtain ⟨c1, i1, h1⟩ := u_known (C := bt_R1) (T := bt_T1) (N := 7) (n := 7) hts bt_in1 (hts _ bt_inst1)
  obtain ⟨c2, i2, h2⟩ := u_known (C := bt_R2) (T := bt_T2) (N := 15) (n := 15) hts bt_in2 (hts _ bt_inst2)
  obtain ⟨c3, i3, h3⟩ := u_known (C := bt_R3) (T := bt_T3) (N := 4) (n := 4) hts bt_in3 (hts _ bt_inst3)
  obtain ⟨c4, i4, h4⟩ := u_known (C := bt_R4) (T := bt_T4) (N := 2) (n := 2) hts bt_in4 (hts _ bt_inst4)
  obtain ⟨c5, i5, h5⟩ := u_known (C := bt_R5) (T := bt_T5) (N := 6) (n := 6) hts bt_in5 (hts _ bt_inst5)
  obtain ⟨c6, i6, h6⟩ := u_known (C := bt_R6) (T := bt_T6) (N := 7) (n := 7) hts bt_in6 (hts _ bt_inst6)
  obtain ⟨c7, i7, h7⟩ := u_known (C := bt_R7) (T := bt_T7) (N := 5) (n := 5) hts bt_in7 (hts _ bt_inst7)
  obtain ⟨c8, i8, h8⟩ := u_known (C := bt_R8) (T := bt_T8) (N := 4) (n := 4) hts bt_in8 (hts _ bt_inst8)
  obtain ⟨c9, i9, h9⟩ := u_known (C := bt_R9) (T := bt_T9) (N := 53) (n := 53) hts bt_in9 (hts _ bt_inst9)
  refine ⟨(fun k => bt_nth c0 [c0, c1, c2, c3, c4, c5, c6, c7, c8, c9] k, fun k => bt_nth i0 [i0, i1, i2, i3, i4, i5, i6, i7, i8, i9] k), fun c q hq => ?_⟩
  match c, hq with
  | 0, hq => cases hq; exact h0
  | 1, hq => cases hq; exact h1
  | 2, hq => cases hq; exact h2
  | 3, hq => cases hq; exact h3
  | 4, hq => cases hq; exact h4
  | 5, hq => cases hq; exact h5
  | 6, hq => cases hq; exact h6
  | 7, hq => cases hq; exact h7
  | 8, hq => cases hq; exact h8
  | 9, hq => cases hq; exact h9
  | c + 10, hq => simp [bt_cl] at hq
theorem ini_K {A : Array Value} {s : State} (hts : ∀ w ∈ lw_tbl, w.before A s = true) : ∃ (D : va_G) (dA : Nat → ClassId), va_K D bt_cl (tys6 dA) s := by
  obtain ⟨D, hD⟩ := ini_C hts
  obtain ⟨a0, h0, g0⟩ := ar_of (ty := .int) (hts _ (bt_tin1 (List.mem_of_getElem? (i := 58) (by decide +kernel))))
  obtain ⟨a1, h1, g1⟩ := ar_of (ty := .long) (hts _ (bt_tin2 (List.mem_of_getElem? (i := 0) (by decide +kernel))))
  obtain ⟨a2, h2, g2⟩ := ar_of (ty := .byte) (hts _ (bt_tin5 (List.mem_of_getElem? (i := 137) (by decide +kernel))))
  obtain ⟨a3, h3, g3⟩ := ar_of (ty := .short) (hts _ (bt_tin5 (List.mem_of_getElem? (i := 138) (by decide +kernel))))
  obtain ⟨a4, h4, g4⟩ := ar_ofA (hts _ (bt_tin1 (List.mem_of_getElem? (i := 32) (by decide +kernel))))
  obtain ⟨a5, h5, g5⟩ := ar_ofO (C := "BellTrees$Shelf") (hts _ (bt_tin1 (List.mem_of_getElem? (i := 221) (by decide +kernel))))
  refine ⟨D, fun k => bt_nth a0 [a0, a1, a2, a3, a4, a5] k, hD, fun k q hq => ?_⟩
  match k, hq with
  | 0, hq => cases hq; exact ⟨h0, g0⟩
  | 1, hq => cases hq; exact ⟨h1, g1⟩
  | 2, hq => cases hq; exact ⟨h2, g2⟩
  | 3, hq => cases hq; exact ⟨h3, g3⟩
  | 4, hq => cases hq; exact ⟨h4, g4⟩
  | 5, hq => cases hq; exact ⟨h5, g5⟩
  | k + 6, hq => simp [tys6] at hq
theorem ini_NW {A : Array Value} {s : State} (hts : ∀ w ∈ lw_tbl, w.before A s = true) : bt_NW s := by
  intro q hq
  simp only [bt_nests, List.mem_cons, List.not_mem_nil, or_false] at hq
  rcases hq with rfl | rfl | rfl
  · exact va_Nw.of rfl (hts _ (bt_tin3 (List.mem_of_getElem? (i := 23) (by decide +kernel))))
  · exact va_Nw.of rfl (hts _ (bt_tin3 (List.mem_of_getElem? (i := 63) (by decide +kernel))))
  · exact va_Nw.of rfl (hts _ (bt_tin3 (List.mem_of_getElem? (i := 230) (by decide +kernel))))
theorem ini_CN {A : Array Value} {s : State} (hts : ∀ w ∈ lw_tbl, w.before A s = true) : ct_NW s := by
  intro q hq
  simp only [ct_nests, List.mem_cons, List.not_mem_nil, or_false] at hq
  rcases hq with rfl | rfl | rfl | rfl | rfl
  · exact va_Nw.of rfl (hts _ (bt_tin1 (List.mem_of_getElem? (i := 61) (by decide +kernel))))
  · exact va_Nw.of rfl (hts _ (bt_tin1 (List.mem_of_getElem? (i := 147) (by decide +kernel))))
  · exact va_Nw.of rfl (hts _ (bt_tin1 (List.mem_of_getElem? (i := 172) (by decide +kernel))))
  · exact va_Nw.of rfl (hts _ (bt_tin1 (List.mem_of_getElem? (i := 200) (by decide +kernel))))
  · exact va_Nw.of rfl (hts _ (bt_tin1 (List.mem_of_getElem? (i := 223) (by decide +kernel))))
/-- one static array, as the Statement has it -/
theorem ini_st {b : Nat} {s : State} {C n : String} {N : Nat} {f : Nat → Int32} (hgv : (Jvm.Cond.and given_1 narrow_1).before #[Value.ref b] s = true) (hl : (Cond.laysStatic C n "[I").before #[Value.ref b] s = true) (hi : (Cond.initialized C).before #[Value.ref b] s = true) (hN : N < 2 ^ 31)
    (ha : Cond.arrayOf (.static C n "[I") .int ∈ flatC (Jvm.Cond.and given_1 narrow_1)) (hn : Cond.eq (.length (.static C n "[I")) (.int (Int32.ofNat N)) ∈ flatC (Jvm.Cond.and given_1 narrow_1)) (he : ∀ j, j < N → Cond.eq (.elem (.static C n "[I") (.int (Int32.ofNat j))) (.int (f j)) ∈ flatC (Jvm.Cond.and given_1 narrow_1)) :
    ∃ t : Nat, va_Z C n "[I" (.ref t) (fun q => s.heap.size ≤ q) s s.heap ∧ va_T .int t N (fun i => .int (f i)) (fun q => s.heap.size ≤ q) s s.heap := by
  have hs := flat_of_before _ hgv
  have hA : ∀ a : Nat, a < s.heap.size → ¬ (fun q => s.heap.size ≤ q) a := fun a h => Nat.not_le.mpr h
  obtain ⟨t, ht, hT⟩ := va_Tof (f := fun i => .int (f i)) (A := fun q => s.heap.size ≤ q) hN (hs _ ha) (va_eqt (hs _ hn)) (fun j hj => va_eqt (hs _ (he j hj))) hA
  exact ⟨t, va_Zref hl hi ht hA, hT⟩
theorem bt_gw_in {w : Cond} (h : w ∈ bt_gw) : w ∈ lw_tbl := (List.mem_filter.mp h).1
theorem ini_SF {b L : Nat} {xs : Nat → Int32} {s : State} (hts : ∀ w ∈ lw_tbl, w.before #[Value.ref b] s = true) (hgv : (Jvm.Cond.and given_1 narrow_1).before #[Value.ref b] s = true) (hX : va_X b L xs s s.heap) (hbl : b < s.heap.size) : ∃ stA : Nat → Nat, stA 3 = b ∧ ∀ (l : Launch) (D : va_G) (dA : Nat → ClassId), bt_SF (mkP l D dA s.heap.size stA xs L) s s.heap := by
  obtain ⟨t0, z0, y0⟩ := ini_st (N := 8) (f := bt_SV 0) hgv (hts (.laysStatic "BellTrees$Forest" "MOST" "[I") (bt_tin1 (List.mem_of_getElem? (i := 30) (by decide +kernel)))) (hts (.initialized "BellTrees$Forest") (bt_tin1 (List.mem_of_getElem? (i := 2) (by decide +kernel)))) (by decide) (by decide +kernel) (by decide +kernel) (by decide +kernel)
  obtain ⟨t1, z1, y1⟩ := ini_st (N := 8) (f := bt_SV 1) hgv (hts (.laysStatic "BellTrees$Bodies" "ABOVE" "[I") (bt_tin4 (List.mem_of_getElem? (i := 106) (by decide +kernel)))) (hts (.initialized "BellTrees$Bodies") (bt_gw_in gw_Bo_l)) (by decide) (by decide +kernel) (by decide +kernel) (by decide +kernel)
  obtain ⟨t2, z2, y2⟩ := ini_st (N := 32) (f := bt_SV 2) hgv (hts (.laysStatic "BellTrees$Bodies" "OWN" "[I") (bt_tin4 (List.mem_of_getElem? (i := 92) (by decide +kernel)))) (hts (.initialized "BellTrees$Bodies") (bt_gw_in gw_Bo_l)) (by decide) (by decide +kernel) (by decide +kernel) (by decide +kernel)
  refine ⟨fun j => bt_nth b [t0, t1, t2] j, rfl, fun l D dA => ⟨fun j hj => ?_, fun j hj => ?_⟩⟩
  · match j, hj with
    | 0, _ => exact z0
    | 1, _ => exact z1
    | 2, _ => exact z2
    | j + 3, hj => exact absurd hj (by omega)
  · match j, hj with
    | 0, _ => exact y0
    | 1, _ => exact y1
    | 2, _ => exact y2
    | 3, _ =>
      obtain ⟨scr, h1, h2, h3, h4, h5⟩ := hX
      exact ⟨scr, h1, h2, h3, Nat.le_of_eq h4.symm, by rw [h4]; rfl, h5, Nat.not_le.mpr hbl⟩
    | j + 4, hj => exact absurd hj (by omega)
