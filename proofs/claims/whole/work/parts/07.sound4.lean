/-! THE ABSTRACT MACHINE IS SOUND, 4: calls, ends, switches; all instructions; a method's contract -/
theorem bt_SF_moved {P : bt_PT} {u U : State} {H : Heap} (hvm : u.vm.Alike U.vm) (h : bt_SF P u H) : bt_SF P U H := ⟨fun j hj => va_Z.moved hvm (h.1 j hj), fun j hj => va_T.moved hvm (h.2 j hj)⟩
theorem bt_SF_kept {P : bt_PT} {U : State} {H H1 : Heap} (h : bt_SF P U H) (hq : ∀ a : Nat, a < H.size → ¬ bt_A P a → H1[a]? = H[a]?) : bt_SF P U H1 := ⟨fun j hj => (h.1 j hj).kept hq, fun j hj => (h.2 j hj).kept hq⟩
theorem bt_NW_warm {s U : State} (hW : s.WarmedH U.vm) (h : bt_NW s) : bt_NW U := fun q hq => va_Nw.warmM hW (h q hq)
theorem bt_goodM {mi : bt_MI} {n : Nat} (h : bt_lkM mi n) : GoodIn bt_gw (Cond.code mi.1 mi.2.1 mi.2.2.1 mi.2.2.2 :: bt_gw) := fun w hw => by
  rcases List.mem_cons.mp hw with rfl | hw
  · exact ⟨h.1, bt_gw_good _ h.1⟩
  · exact ⟨hw, bt_gw_good _ hw⟩
theorem bt_blind (P : bt_PT) (as : List av_T) (σ : st_T) : FrameBlind (bt_Pc P as σ) := fun a U g mk h => by
  obtain ⟨h1, h2, h3, h4, h5, h6, h7⟩ := h
  exact ⟨h1, h2, h3, va_K.moved (u := U) (U := U.calling g mk a) (Vm.Alike.refl U.vm) h4, bt_SF_moved (u := U) (U := U.calling g mk a) (Vm.Alike.refl U.vm) h5, h6, fun q hq => va_Nw.same rfl (show U.vm = (U.calling g mk a).vm from rfl) (h7 q hq)⟩
section BTC
variable {p : Program} {l : Launch} {e : Env} {R : Room} {s : State} {m : MethodId} {args : Array Value} {below : List Frame} {meth : Method} {c : Code} {H : Heap} {locs : List Loc} {cells slots : Nat} {Q : State → Prop}
theorem bt_cont {P : bt_PT} {K : Option av_T → st_T → Prop} {a : Array Value} {rest st0 : List Value} {pc : Nat} {ls : Array Slot} (hr : va_Run p l e R s m args below meth c H locs cells slots 0 0 (F0 m pc ls st0) rest (bt_Qc P K a) (bt_A P)) (hS : va_S (bt_A P) s.heap H locs)
    (kk : ∀ (r : Option av_T) (σ : st_T) (H1 : Heap) (locs1 : List Loc), K r σ → (∀ v, r = some v → bt_okv v) → va_P (bt_D P) bt_cl (bt_wl P σ) H1 → va_S (bt_A P) s.heap H1 locs1 → W p l e R s m args below meth c H1 locs1 cells slots Q (F0 m (pc + 3) ls (r.toList.map (bt_va P) ++ rest))) : W p l e R s m args below meth c H locs cells slots Q (F0 m pc ls st0) := by
  intro T hT X
  obtain ⟨v, st₀, t, T', L, h0, X', hL, e1, e2, ⟨⟨r, σ, hv, hp, ho, hb⟩, hz, hk⟩, st⟩ := hr T hT X
  cases hv
  rw [h0] at hz hk
  have hb' : va_P (bt_D P) bt_cl (bt_wl P σ) T'.heap := by rw [e1]; exact hb
  obtain ⟨t2, a1, b1⟩ := kk r σ T'.heap (locs ++ L) hp ho hb'
    ⟨Nat.le_trans hS.1 (by rw [e1]; exact hz), fun q h1 h2 => by rw [e1, hk q (Nat.lt_of_lt_of_le h1 hS.1) h2]; exact hS.2.1 q h1 h2, fun q hq => by
      rcases List.mem_append.mp hq with h | h
      · exact hS.2.2 q h
      · exact hL q h⟩ T' rfl X'
  refine ⟨t2, st t2 ?_, b1⟩
  have e3 : (r.map (bt_va P)).toList ++ rest = r.toList.map (bt_va P) ++ rest := by cases r <;> rfl
  rw [e3]
  exact a1
end BTC
theorem bt_kc_inv {ret : Option FieldType} {Nx : List av_T → st_T → Prop} {r : Option av_T} {σ : st_T} (h : bt_kc ret Nx r σ) : Nx r.toList σ := by
  unfold bt_kc at h
  split at h <;> rcases r with _ | (x | x | x) <;> first | exact h.elim | exact h
theorem bt_sumw (P : bt_PT) : ∀ q : List av_T, ((q.map (bt_va P)).map fun v => v.category).sum = bt_words q
  | [] => rfl
  | a :: q => by simp only [List.map_cons, List.sum_cons, bt_words, bt_cat_va, bt_sumw P q]
section BTD
variable {P : bt_PT} {d : Nat} {mi : bt_MI} {K : Option av_T → st_T → Prop} {pc : Nat} {L : List (Option av_T)} {r : List av_T} {σ : st_T}
theorem bt_ok_at {a b r : List av_T} (h : ∀ v ∈ a ++ b ++ r, bt_okv v) : ∀ v ∈ r, bt_okv v := fun v hv => h v (List.mem_append_right _ hv)
theorem bt_Pc_now {p : Program} {s : State} {m : MethodId} {args : Array Value} {meth : Method} {c : Code} {H : Heap} {locs : List Loc} {as : List av_T} (hC : bt_Cx P mi p s m args meth c) (hP : va_P (bt_D P) bt_cl (bt_wl P σ) H) (hS : va_S (bt_A P) s.heap H locs) (ho : ∀ v ∈ as, bt_okv v) {U : State} (hU : U.heap = H) (hW : s.WarmedH U.vm) : bt_Pc P as σ (as.map (bt_va P)).toArray U := by
  obtain ⟨hx, hb, hml, hr, hlo, hown, hts, hK, hSF, hokP, hNW⟩ := hC
  subst hU
  exact ⟨rfl, ho, hP, va_K.moved hW.alike hK, bt_SF_moved hW.alike (bt_SF_kept hSF (fun a h1 h2 => hS.2.1 a h1 h2)), hokP, bt_NW_warm hW hNW⟩
/-- a virtual call: receiver (k, i), arguments as (the last on top) -/
theorem bt_s_callV {idx n c k i : Nat} {cm : bt_MI} {as : List av_T} {Nx : List av_T → st_T → Prop} (hd : decode mi.2.1 pc = .ok (.invokevirtual idx, 3)) (hl : bt_lkV mi.1.cls idx cm n c) (hn : (vr k i :: as).length = n) (hw : bt_words r ≤ 8) (hk : k < 100) (hs : bt_shp k = (0, c))
    (hWP : bt_WP P d cm (vr k i :: as) σ (bt_kc cm.2.2.2 Nx)) (hN : ∀ v σ', Nx v σ' → (∀ w ∈ v, bt_okv w) → bt_Go P d mi K (pc + 3) L (v ++ r) σ') : bt_Go P d mi K pc L ((vr k i :: as).reverse ++ r) σ := by
  intro p e R s m args below meth c0 cells slots Q hC H locs ls hD
  obtain ⟨hx, hb, hml, hr, hlo, hown, hts, hK, hSF, hokP, hNW⟩ := id hC.1
  obtain ⟨⟨n1, T, N, en, hc, hM⟩, l1, l2, l3⟩ := hl
  have hoS := hD.2.1
  have hoR : ∀ v ∈ r, bt_okv v := fun v hv => hoS v (List.mem_append_right _ hv)
  have hoA : ∀ v ∈ vr k i :: as, bt_okv v := fun v hv => hoS v (List.mem_append_left _ (List.mem_reverse.mpr hv))
  have hv := bt_valid (hoA _ List.mem_cons_self) hk
  have he := bt_wl_at P σ hv
  rw [bt_ent0 P σ hs] at he
  have hlen : (as.map (bt_va P)).length = n1 := by
    rw [List.length_map]
    have : as.length + 1 = n := hn
    omega
  have hgood : GoodIn bt_gw (wsV mi.1.cls idx cm.1.cls cm.1 (Cond.code cm.1 cm.2.1 cm.2.2.1 cm.2.2.2 :: bt_gw)) := fun w hw => by
    unfold wsV at hw
    rcases List.mem_append.mp hw with h | h
    · have hin : w ∈ bt_gw := by
        simp only [List.mem_cons, List.not_mem_nil, or_false] at h
        rcases h with rfl | rfl | rfl | rfl
        · exact l1
        · exact l2
        · exact l3
        · exact hM.2.1
      exact ⟨hin, bt_gw_good _ hin⟩
    · exact bt_goodM hM w h
  have hfr := hC.2.1
  have hlc := hC.2.2.1
  have hmx := hM.2.2.2
  have hrun := va_runV (l := bt_l P) (R := R) (s := s) (e := e) (args := args) (below := below) (meth := meth) (c := c0) (H := H) (locs := locs) (cells := cells) (slots := slots) (p := p) (m := m) (b := bt_ad P k i) (As := as.map (bt_va P)) (rest := r.map (bt_va P)) (g := F0 m pc ls (((vr k i :: as).reverse ++ r).map (bt_va P))) (Ts := bt_gw) (own := mi.1.cls) (nL := mi.2.2.1) ⟨hx, hb, hml, hown, hts⟩ hWP
    (cwV n1 hts hgood rfl rfl rfl ⟨rfl, hM.2.2.1⟩ ⟨by show d + 1 ≤ R.frames; exact hfr, by show 8 + (cm.2.2.1 + 11) + 40 * d ≤ R.locals; omega⟩)
    ⟨bt_blind P _ σ, va_recv hK hD.2.2.2.1 hc he, fun U hU hW => by
      have h := bt_Pc_now (σ := σ) hC.1 hD.2.2.2.1 hD.2.2.2.2 hoA hU hW
      have e1 : ((vr k i :: as).map (bt_va P)).toArray = (Value.ref (bt_ad P k i) :: as.map (bt_va P)).toArray := by
        show (Value.ref (bt_adr P (k, i)) :: as.map (bt_va P)).toArray = _
        rw [bt_adr_lt P hk]
      rw [e1] at h
      exact h⟩ rfl hlen hD.1.1
    (by show ((vr k i :: as).reverse ++ r).map (bt_va P) = _
        rw [List.map_append, List.reverse_cons, List.map_append, List.append_assoc, List.map_reverse]
        show _ ++ ([Value.ref (bt_adr P (k, i))] ++ _) = _
        rw [bt_adr_lt P hk]; rfl)
    (lv_room (by rw [bt_sumw]; exact hw)) hd ⟨by rw [Nat.add_zero]; exact hC.2.2.2.1.1, by rw [Nat.add_zero]; exact hC.2.2.2.1.2⟩
  refine bt_cont hrun hD.2.2.2.2 (fun r0 σ' H1 locs1 hK1 ho1 hP1 hS1 => ?_)
  have hNx := bt_kc_inv hK1
  have hov : ∀ w ∈ r0.toList, bt_okv w := fun w hw => ho1 w (by cases r0 with | none => cases hw | some z => rw [List.mem_singleton.mp hw])
  have hgo := hN _ _ hNx hov p e R s m args below meth c0 cells slots Q hC H1 locs1 ls ⟨hD.1, fun v hv => (List.mem_append.mp hv).elim (hov v) (hoR v), hD.2.2.1, hP1, hS1⟩
  rw [List.map_append] at hgo
  exact hgo
/-- a static call -/
theorem bt_s_callS {idx n : Nat} {cm : bt_MI} {as : List av_T} {Nx : List av_T → st_T → Prop} (hd : decode mi.2.1 pc = .ok (.invokestatic idx, 3)) (hl : bt_lkS mi.1.cls idx cm n) (hn : as.length = n) (hw : bt_words r ≤ 8)
    (hWP : bt_WP P d cm as σ (bt_kc cm.2.2.2 Nx)) (hN : ∀ v σ', Nx v σ' → (∀ w ∈ v, bt_okv w) → bt_Go P d mi K (pc + 3) L (v ++ r) σ') : bt_Go P d mi K pc L (as.reverse ++ r) σ := by
  intro p e R s m args below meth c0 cells slots Q hC H locs ls hD
  obtain ⟨hx, hb, hml, hr, hlo, hown, hts, hK, hSF, hokP, hNW⟩ := id hC.1
  obtain ⟨hM, l1, l2⟩ := hl
  have hoS := hD.2.1
  have hoR : ∀ v ∈ r, bt_okv v := fun v hv => hoS v (List.mem_append_right _ hv)
  have hoA : ∀ v ∈ as, bt_okv v := fun v hv => hoS v (List.mem_append_left _ (List.mem_reverse.mpr hv))
  have hlen : (as.map (bt_va P)).length = n := by rw [List.length_map]; exact hn
  have hfr := hC.2.1
  have hlc := hC.2.2.1
  have hmx := hM.2.2.2
  have hRm : (bt_rm d).frames + 1 ≤ R.frames ∧ 8 + (cm.2.2.1 + 11) + (bt_rm d).locals ≤ R.locals := ⟨by show d + 1 ≤ R.frames; exact hfr, by show 8 + (cm.2.2.1 + 11) + 40 * d ≤ R.locals; omega⟩
  have hpre : PreS s H (bt_Pc P as σ) (as.map (bt_va P)) := ⟨bt_blind P _ σ, fun U hU hW => bt_Pc_now (σ := σ) hC.1 hD.2.2.2.1 hD.2.2.2.2 hoA hU hW⟩
  have hst : (as.reverse ++ r).map (bt_va P) = (as.map (bt_va P)).reverse ++ r.map (bt_va P) := by rw [List.map_append, List.map_reverse]
  have hrun : va_Run p (bt_l P) e R s m args below meth c0 H locs cells slots 0 0 (F0 m pc ls ((as.reverse ++ r).map (bt_va P))) (r.map (bt_va P)) (bt_Qc P (bt_kc cm.2.2.2 Nx) (as.map (bt_va P)).toArray) (bt_A P) := by
    rcases l1 with l1 | ⟨host, l1⟩
    · have hgood : GoodIn bt_gw (va_wsS mi.1.cls idx cm.1 (Cond.code cm.1 cm.2.1 cm.2.2.1 cm.2.2.2 :: bt_gw)) := fun w hw => by
        unfold va_wsS at hw
        rcases List.mem_append.mp hw with h | h
        · have hin : w ∈ bt_gw := by
            simp only [List.mem_cons, List.not_mem_nil, or_false] at h
            rcases h with rfl | rfl | rfl
            · exact l1
            · exact l2
            · exact hM.2.1
          exact ⟨hin, bt_gw_good _ hin⟩
        · exact bt_goodM hM w h
      exact va_runS (l := bt_l P) (Ts := bt_gw) (own := mi.1.cls) (nL := mi.2.2.1) ⟨hx, hb, hml, hown, hts⟩ hWP (va_cwS n hts hgood rfl rfl rfl hM.2.2.1 hRm) hpre rfl hlen hD.1.1 hst (lv_room (by rw [bt_sumw]; exact hw)) hd ⟨by rw [Nat.add_zero]; exact hC.2.2.2.1.1, by rw [Nat.add_zero]; exact hC.2.2.2.1.2⟩
    · exact va_runSN (l := bt_l P) (Ts := bt_gw) (own := mi.1.cls) (nL := mi.2.2.1) (host := host) ⟨hx, hb, hml, hown, hts⟩ hWP ⟨va_cnB n hts (bt_goodM hM) rfl rfl rfl (hNW _ l1) (hts _ hM.2.1) hM.2.2.1 hRm, hts _ l2, trivial⟩ hpre rfl hlen hD.1.1 hst (lv_room (by rw [bt_sumw]; exact hw)) hd ⟨by rw [Nat.add_zero]; exact hC.2.2.2.1.1, by rw [Nat.add_zero]; exact hC.2.2.2.1.2⟩
  refine bt_cont hrun hD.2.2.2.2 (fun r0 σ' H1 locs1 hK1 ho1 hP1 hS1 => ?_)
  have hNx := bt_kc_inv hK1
  have hov : ∀ w ∈ r0.toList, bt_okv w := fun w hw => ho1 w (by cases r0 with | none => cases hw | some z => rw [List.mem_singleton.mp hw])
  have hgo := hN _ _ hNx hov p e R s m args below meth c0 cells slots Q hC H1 locs1 ls ⟨hD.1, fun v hv => (List.mem_append.mp hv).elim (hov v) (hoR v), hD.2.2.1, hP1, hS1⟩
  rw [List.map_append] at hgo
  exact hgo
theorem bt_s_max {idx : Nat} {x y : Int32} (hd : decode mi.2.1 pc = .ok (.invokestatic idx, 3)) (hl : bt_lkx mi.1.cls idx Lib.Math.max.name Lib.Math.max.code) (hw : bt_words r ≤ 8) (k : bt_Go P d mi K (pc + 3) L (vi (if x < y then y else x) :: r) σ) : bt_Go P d mi K pc L (vi y :: vi x :: r) σ := by
  intro p e R s m args below meth c0 cells slots Q hC H locs ls hD
  obtain ⟨hx, hb, hml, hr, hlo, hown, hts, hK, hSF, hokP, hNW⟩ := id hC.1
  obtain ⟨l1, l2, l3, l4⟩ := hl
  have h6 := hC.2.2.1
  exact va_mmax hx hb (hml.trans hD.1.1.symm) hown (hts _ l1) (hts _ l2) (hts _ l3) (hts _ l4) (Nat.le_trans (Nat.succ_le_succ (Nat.zero_le d)) hC.2.1) (by rw [bt_sumw]; omega) hC.2.2.2.1.1 hC.2.2.2.1.2 hd (k p e R s m args below meth c0 cells slots Q hC H locs ls (bt_Dy_s hD (bt_ok1 (bt_oki _) (fun v hv => hD.2.1 v (List.mem_cons_of_mem _ (List.mem_cons_of_mem _ hv))))))
theorem bt_s_min {idx : Nat} {x y : Int32} (hd : decode mi.2.1 pc = .ok (.invokestatic idx, 3)) (hl : bt_lkx mi.1.cls idx Lib.Math.min.name Lib.Math.min.code) (hw : bt_words r ≤ 8) (k : bt_Go P d mi K (pc + 3) L (vi (if y < x then y else x) :: r) σ) : bt_Go P d mi K pc L (vi y :: vi x :: r) σ := by
  intro p e R s m args below meth c0 cells slots Q hC H locs ls hD
  obtain ⟨hx, hb, hml, hr, hlo, hown, hts, hK, hSF, hokP, hNW⟩ := id hC.1
  obtain ⟨l1, l2, l3, l4⟩ := hl
  have h6 := hC.2.2.1
  exact va_mmin hx hb (hml.trans hD.1.1.symm) hown (hts _ l1) (hts _ l2) (hts _ l3) (hts _ l4) (Nat.le_trans (Nat.succ_le_succ (Nat.zero_le d)) hC.2.1) (by rw [bt_sumw]; omega) hC.2.2.2.1.1 hC.2.2.2.1.2 hd (k p e R s m args below meth c0 cells slots Q hC H locs ls (bt_Dy_s hD (bt_ok1 (bt_oki _) (fun v hv => hD.2.1 v (List.mem_cons_of_mem _ (List.mem_cons_of_mem _ hv))))))
/-- the method's end -/
theorem bt_s_ret {v : Option av_T} (hd : bt_isret mi.2.1 pc v) (ht : bt_rty mi.2.2.2 v) (hK : K v σ) : bt_Go P d mi K pc L v.toList σ := by
  intro p e R s m args below meth c0 cells slots Q hC H locs ls hD
  exact hC.2.2.2.2 v σ H locs pc ls hK (fun w hw => hD.2.1 w (by rw [hw]; exact List.mem_cons_self)) hD.2.2.2.1 hD.2.2.2.2 hd ht
theorem bt_s_table {dflt lo hi : Int} {offs : Array Int} {len t : Nat} {sw : List (Int32 × Nat)} {x : Int32} {Nx : Nat → Prop} (hd : decode mi.2.1 pc = .ok (.tableswitch dflt lo hi offs, len)) (hck : bt_ck mi.2.2.1 pc (.tableswitch dflt lo hi offs, len, (t, 0), (0, 0), sw, mi) = true) (hN : ∀ t, Nx t → bt_Go P d mi K t L r σ) (h : bt_sw x Nx t sw) : bt_Go P d mi K pc L (vi x :: r) σ := by
  intro p e R s m args below meth c0 cells slots Q hC H locs ls hD
  obtain ⟨hx, hb, hml, hr, hlo, hown, hts, hK, hSF, hokP, hNW⟩ := id hC.1
  have hD2 := bt_Dy_s hD (bt_dr1 hD.2.1)
  simp only [bt_ck, Bool.and_eq_true, decide_eq_true_eq] at hck
  obtain ⟨⟨⟨⟨⟨h1, h2⟩, h3⟩, h4⟩, h5⟩, h6⟩ := hck
  rcases bt_sw_inv x Nx t sw h with ⟨q, hq, hqx, -, hNx, -⟩ | ⟨hno, hNx⟩
  · have h7 := List.all_eq_true.mp h5 q hq
    simp only [Bool.and_eq_true, decide_eq_true_eq] at h7
    obtain ⟨⟨h8, h9⟩, h10⟩ := h7
    rw [hqx] at h8 h9 h10
    cases ho : offs[(x.toInt - lo).toNat]? with
    | none => rw [ho] at h10; cases h10
    | some o =>
      rw [ho] at h10
      exact lv_tableIn hx hb hd (by omega) (by omega) ho (Option.some.inj h10) (hN _ hNx p e R s m args below meth c0 cells slots Q hC H locs ls hD2)
  · refine lv_tableOut hx hb hd ?_ h1 (hN _ hNx p e R s m args below meth c0 cells slots Q hC H locs ls hD2)
    rcases Int.lt_or_le x.toInt lo with q1 | q1
    · exact Or.inl q1
    rcases Int.lt_or_le hi x.toInt with q2 | q2
    · exact Or.inr q2
    exfalso
    have h7 := List.all_eq_true.mp h6 (x.toInt - lo).toNat (List.mem_range.mpr (by omega))
    obtain ⟨q, hq, hqe⟩ := List.any_eq_true.mp h7
    have hqe := of_decide_eq_true hqe
    exact hno q hq (Int32.toInt_inj.mp (by omega))
theorem bt_s_look {dflt : Int} {ps : Array (Int × Int)} {len t : Nat} {sw : List (Int32 × Nat)} {x : Int32} {Nx : Nat → Prop} (hd : decode mi.2.1 pc = .ok (.lookupswitch dflt ps, len)) (hck : bt_ck mi.2.2.1 pc (.lookupswitch dflt ps, len, (t, 0), (0, 0), sw, mi) = true) (hN : ∀ t, Nx t → bt_Go P d mi K t L r σ) (h : bt_sw x Nx t sw) : bt_Go P d mi K pc L (vi x :: r) σ := by
  intro p e R s m args below meth c0 cells slots Q hC H locs ls hD
  obtain ⟨hx, hb, hml, hr, hlo, hown, hts, hK, hSF, hokP, hNW⟩ := id hC.1
  have hD2 := bt_Dy_s hD (bt_dr1 hD.2.1)
  simp only [bt_ck, Bool.and_eq_true, decide_eq_true_eq] at hck
  obtain ⟨⟨⟨h1, h2⟩, h3⟩, h4⟩ := hck
  have key : ∀ (a : List (Int × Int)) (w : List (Int32 × Nat)), a.length = w.length → ((a.zip w).all (fun z => decide (z.2.1.toInt = z.1.1) && decide ((pc : Int) + z.1.2 = (z.2.2 : Int)))) = true → bt_sw x Nx t w → ∃ tgt : Nat, Nx tgt ∧ (pc : Int) + Op.lookupswitch.offset a dflt x.toInt = (tgt : Int) := by
    intro a
    induction a with
    | nil =>
      intro w hlen _ hsw
      cases w with
      | nil => exact ⟨t, hsw, by rw [← h1]; rfl⟩
      | cons q w => cases hlen
    | cons z a ih =>
      intro w hlen hall hsw
      cases w with
      | nil => cases hlen
      | cons q w =>
        rw [List.zip_cons_cons, List.all_cons] at hall
        simp only [Bool.and_eq_true, decide_eq_true_eq] at hall
        obtain ⟨⟨g1, g2⟩, g3⟩ := hall
        by_cases ex : x = q.1
        · refine ⟨q.2, hsw.1 ex, ?_⟩
          rw [← g2]
          congr 1
          subst ex
          obtain ⟨za, zo⟩ := z
          simp only [Op.lookupswitch.offset]
          dsimp only at g1
          rw [if_pos (by rw [g1] <;> simp)]
        · obtain ⟨tgt, f1, f2⟩ := ih w (by simpa using hlen) (by simpa using g3) (hsw.2 ex)
          refine ⟨tgt, f1, ?_⟩
          rw [← f2]
          obtain ⟨za, zo⟩ := z
          rw [lv_osw (k := q.1) ex g1]
  obtain ⟨tgt, f1, f2⟩ := key ps.toList sw h3 h4 h
  exact lv_lookup hx hb hd h2 rfl f2 (hN _ f1 p e R s m args below meth c0 cells slots Q hC H locs ls hD2)
end BTD
