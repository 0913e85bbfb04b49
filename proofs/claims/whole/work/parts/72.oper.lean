/-! THE LAW: an operand, both sides -/
section OPR
variable {P : bt_PT} {fd p op : Nat} {tp : Nat → Nat}
theorem cC_un {u : Nat} (hu : u = 10006 ∨ u = 10007) : cC u = if u = 10006 then -33 else -126 := by
  rcases hu with rfl | rfl <;> rfl
theorem cC_name {c : Nat} (h : nmO c < 9) : cC (10000 + nmO c) = -nI c := by
  obtain ⟨e1, e2⟩ := nmO_e h
  unfold cC
  rw [if_neg (by omega), if_pos (by omega), show 10000 + nmO c - 10000 = nmO c by omega, e1]
theorem cC_num {v : Nat} (h : v < 10000) : cC v = nI v := by unfold cC; rw [if_pos h]
theorem op_digit (hfd : fd ≤ 120) (hop : op ≤ 6) (hd : dgP (chB fd tp p)) : pO P fd tp 6 op p := by
  obtain ⟨n, -, n2, n3, n4⟩ := nv_ex fd p tp 4 0 rfl (fun i hi => by omega)
  have hn1 : 0 < n := by
    rcases n4 with q | q
    · omega
    · refine Nat.pos_of_ne_zero (fun z => q ?_)
      rw [z, Nat.add_zero]; exact hd
  have hv := nv_4 n2 n3
  have hpn : p + n ≤ fd := by
    have := dg_lt (n3 (n - 1) (by omega))
    omega
  have hcl : ∀ (d : Nat) (f : Int32 → m_I → m_L → Prop) (I : m_I) (L : m_L) (cs : List Int32), tcS I fd tp p cs → cs.length ≤ p → (∀ I', tcS I' fd tp (p + n) (cs ++ [nvN fd tp p n].map cC) → tcF I I' → f 1 I' L) → bt_WP P (d + Dc 6 op) (cM 6) (cG 6 op) (I, L) (kI f) := fun d f I L cs h hc g => by
    show bt_WP P (d + Dc 6 op) mi_La_readOperand [vr 7 0, vi (nI op)] (I, L) (kI f)
    rw [show d + Dc 6 op = (d + 7 * (6 - op) + 1 + 2) + 1 by unfold Dc; omega]
    obtain ⟨z1, z2⟩ := (cB_dg h.1.2.2.2.1).mpr hd
    refine ru_La_readOperand (sp_next h.1 ⟨fun z => absurd z z1, fun _ => ⟨fun z => absurd z z2, fun _ => sp_readNumber (by omega) n2 n3 n4 h (fun I' a1 a2 => ⟨o01, g I' ?_ a2⟩)⟩⟩)
    show tcS I' fd tp (p + n) (cs ++ [cC (nvN fd tp p n)])
    rw [cC_num hv]; exact a1
  have hop6 : ∀ (d : Nat) (f : m_I → m_L → Prop) (I : m_I) (L : m_L) (ss : List Nat), rfS I fd tp p op ss → bt_WP P (d + 6 * (6 - op) + 4) mi_M_figure [vr 35 0] (I, L) (kV f) → bt_WP P (d + Dm 6 op) (mM 6) [vr 35 0] (I, L) (kV f) := fun d f I L ss h g => by
    show bt_WP P (d + Dm 6 op) mi_M_operand [vr 35 0] (I, L) (kV f)
    rw [show d + Dm 6 op = (d + 6 * (6 - op) + 3 + 1) + 1 by unfold Dm; omega]
    have ht := h.1.2.2.2.1
    have e33 : mBy fd tp p = 33 ↔ chB fd tp p = 33 := mB_eq (c := 33) ht (by omega)
    have e45 : mBy fd tp p = 45 ↔ chB fd tp p = 45 := mB_eq (c := 45) ht (by omega)
    have e40 : mBy fd tp p = 40 ↔ chB fd tp p = 40 := mB_eq (c := 40) ht (by omega)
    have hnm := nmO_c (chB fd tp p)
    have hd1 := hd.1
    have hd2 := hd.2
    refine ru_M_operand (sm_look h.1 (sm_nameOf ht (fun n9 => ⟨fun _ => ?_, fun z => absurd (by decide) z⟩) (fun n9 => by omega)))
    rw [e33, e45, e40]
    refine ⟨fun z => by omega, fun _ => ⟨fun _ => ⟨fun _ => ?_, fun z => by omega⟩, fun z => by omega⟩⟩
    refine bt_WP_imp g (fun r σ y => ?_)
    match r, y with
    | none, y => exact y
  by_cases q : dgP (chB fd tp (p + n))
  · right; right
    refine ⟨p + n, by omega, hpn, q, fun d f I L cs h hc g => hcl d f I L cs h hc (fun I' a1 a2 => g I' (tcS_B a1 ?_) a2), fun d f I L ss h hc g => hop6 d f I L ss h ?_⟩
    · rw [List.length_append]; show cs.length + 1 ≤ 128; have := h.1.2.2.2.2.2; omega
    · have hpf := h.1.2.2.2.2.2
      exact sm_figure (by omega) n2 n3 n4 h (fun _ z => absurd q z) (fun _ I' a1 a2 => g I' _ a1 (by omega) a2)
  · left
    refine ⟨p + n, [nvN fd tp p n], by omega, hpn, wf_num hv, ?_, hcl, fun d f I L ss h hc g => hop6 d f I L ss h ?_⟩
    · show 1 ≤ p + n - p; omega
    · have hpf := h.1.2.2.2.2.2
      exact sm_figure (by omega) n2 n3 n4 h (fun _ _ I' a1 a2 => g I' a1 a2) (fun z => absurd z (fun z => z.elim (by omega) q))
theorem op_name (hfd : fd ≤ 120) (hop : op ≤ 6) (hn : nmO (chB fd tp p) < 9) : pO P fd tp 6 op p := by
  have hnm := nmO_c (chB fd tp p)
  have hp : p < fd := ch_lt (tp := tp) rfl (by omega)
  obtain ⟨e1, e2⟩ := nmO_e hn
  have hnd : ¬ dgP (chB fd tp p) := fun z => by have z1 := z.1; have z2 := z.2; omega
  left
  refine ⟨p + 1, [10000 + nmO (chB fd tp p)], by omega, by omega, wf_name e2, by show 1 ≤ p + 1 - p; omega, fun d f I L cs h hc g => ?_, fun d f I L ss h hc g => ?_⟩
  · show bt_WP P (d + Dc 6 op) mi_La_readOperand [vr 7 0, vi (nI op)] (I, L) (kI f)
    rw [show d + Dc 6 op = (d + 7 * (6 - op) + 2 + 1) + 1 by unfold Dc; omega]
    obtain ⟨a1, a2⟩ := tcS_at h hp
    refine sp_op h.1 hnd hop (fun _ => sp_note a1 (by omega) (fun I' b1 b2 => g I' ?_ (tcF_tr a2 b2))) (fun z _ => by omega) (fun z _ => by omega) (fun z _ => absurd hn z) (by omega)
    show tcS I' fd tp (p + 1) (cs ++ [cC (10000 + nmO (chB fd tp p))])
    rw [cC_name hn, show nI (chB fd tp p) = cBy fd tp p from ((cB_eq h.1.2.2.2.1 (by omega)).mpr rfl).symm]; exact b1
  · show bt_WP P (d + Dm 6 op) mi_M_operand [vr 35 0] (I, L) (kV f)
    rw [show d + Dm 6 op = (d + 6 * (6 - op) + 1) + 4 by unfold Dm; omega]
    exact sm_op h hop hnd (by omega) (fun _ _ I' a1 a2 => g I' a1 a2) (fun z _ => by omega) (fun z _ => by omega) (fun z _ => absurd hn z)
theorem op_bad (hfd : fd ≤ 120) (hp : p ≤ fd) (hop : op ≤ 6) (hd : ¬ dgP (chB fd tp p)) (hn : ¬ nmO (chB fd tp p) < 9) (hb : op = 6 ∨ (¬ chB fd tp p = 40 ∧ ¬ chB fd tp p = 33 ∧ ¬ chB fd tp p = 45)) : pO P fd tp 6 op p := by
  right; left
  refine ⟨p, Nat.le_refl _, hp, fun d f I L cs h hc g => ?_, fun d f I L ss h hc g => ?_⟩
  · show bt_WP P (d + Dc 6 op) mi_La_readOperand [vr 7 0, vi (nI op)] (I, L) (kI f)
    rw [show d + Dc 6 op = (d + 7 * (6 - op) + 2 + 1) + 1 by unfold Dc; omega]
    exact sp_op h.1 hd hop (fun z => absurd z hn) (fun z z6 => by omega) (fun z z6 => by omega) (fun _ _ => g I (tcS_B h (by omega)) tcF_rf) (by omega)
  · show bt_WP P (d + Dm 6 op) mi_M_operand [vr 35 0] (I, L) (kV f)
    rw [show d + Dm 6 op = (d + 6 * (6 - op) + 1) + 4 by unfold Dm; omega]
    exact sm_op h hop hd (by omega) (fun z => absurd z hn) (fun z z6 => by omega) (fun z z6 => by omega) (fun _ _ I' ln hln a1 a2 => g I' ln a1 (by omega) a2)
theorem op_un (hfd : fd ≤ 120) (hop : op < 6) (hc : chB fd tp p = 33 ∨ chB fd tp p = 45) (IH : pO P fd tp 6 (op + 1) (p + 1)) : pO P fd tp 6 op p := by
  have hnm := nmO_c (chB fd tp p)
  have hn : ¬ nmO (chB fd tp p) < 9 := by omega
  have hd : ¬ dgP (chB fd tp p) := fun z => by have z1 := z.1; omega
  have hp : p < fd := ch_lt (tp := tp) rfl (by omega)
  have hu : (if chB fd tp p = 33 then 10006 else 10007) = 10006 ∨ (if chB fd tp p = 33 then 10006 else 10007) = 10007 := by split; exact Or.inl rfl; exact Or.inr rfl
  have ecu : (if chB fd tp p = 33 then (-33 : Int32) else -126) = cC (if chB fd tp p = 33 then 10006 else 10007) := by split <;> rfl
  generalize hue : (if chB fd tp p = 33 then 10006 else 10007) = u at *
  have hoku : okT u := Or.inl (by omega)
  have hwu : wC u = 0 := by rcases hu with rfl | rfl <;> rfl
  have hcl : ∀ (d : Nat) (f : Int32 → m_I → m_L → Prop) (I : m_I) (L : m_L), tcP I fd tp p → bt_WP P ((d + 6) + Dc 6 (op + 1)) mi_La_readOperand [vr 7 0, vi (nI (op + 1))] (ui I 7 0 5 (nI p + 1), L) (kI fun x19 I17 N18 => (¬ x19 = 0 → (bt_WP P (d + 7 * (6 - op) + 2 + 1) mi_La_note [vr 7 0, vi (cC u)] (I17, N18) (kV fun I20 N21 => f 1 I20 N21))) ∧ (x19 = 0 → f 0 I17 N18)) → bt_WP P (d + Dc 6 op) (cM 6) (cG 6 op) (I, L) (kI f) := fun d f I L h g => by
    show bt_WP P (d + Dc 6 op) mi_La_readOperand [vr 7 0, vi (nI op)] (I, L) (kI f)
    rw [show d + Dc 6 op = (d + 7 * (6 - op) + 2 + 1) + 1 by unfold Dc; omega]
    refine sp_op h hd (by omega) (fun z => absurd z hn) (fun z _ => by omega) (fun _ _ => ?_) (fun _ z => by omega) (by omega)
    rw [ecu]
    rw [show (d + 6) + Dc 6 (op + 1) = d + 7 * (6 - op) + 2 + 1 by unfold Dc; omega] at g
    exact g
  have hml : ∀ (d : Nat) (f : m_I → m_L → Prop) (I : m_I) (L : m_L) (ss : List Nat), rfS I fd tp p op ss → ss.length ≤ p → (∀ I', rfS I' fd tp (p + 1) (op + 1) ss → rfF I I' → bt_WP P ((d + 5) + Dm 6 (op + 1)) mi_M_operand [vr 35 0] (I', L) (kV fun I10 N11 => bt_WP P (d + 6 * (6 - op) + 1 + 3) mi_M_addStep [vr 35 0, vi (aC u), vi 0] (ui I10 35 0 25 ((I10 35 0 25) - 1), N11) (kV fun I12 N13 => f I12 N13))) → bt_WP P (d + Dm 6 op) (mM 6) [vr 35 0] (I, L) (kV f) := fun d f I L ss h hc g => by
    show bt_WP P (d + Dm 6 op) mi_M_operand [vr 35 0] (I, L) (kV f)
    rw [show d + Dm 6 op = (d + 6 * (6 - op) + 1) + 4 by unfold Dm; omega]
    have hpf := h.1.2.2.2.2.2
    refine sm_op h (by omega) hd (by omega) (fun z => absurd z hn) (fun z _ => by omega) (fun _ _ I' a1 a2 => ?_) (fun _ z => by omega)
    rw [hue]
    have g' := g I' a1 a2
    rw [show (d + 5) + Dm 6 (op + 1) = d + 6 * (6 - op) + 1 + 3 by unfold Dm; omega] at g'
    exact g'
  rcases IH with ⟨p', k, h1, h2, h3, h4, h5, h6⟩ | ⟨p', h1, h2, h5, h6⟩ | ⟨p', h1, h2, h3, h5, h6⟩
  · left
    refine ⟨p', k ++ [u], by omega, h2, wf_un h3 hu, by rw [List.length_append]; show k.length + 1 ≤ p' - p; omega, fun d f I L cs h hc g => hcl d f I L h.1 ?_, fun d f I L ss h hc g => hml d f I L ss h hc (fun I' a1 a2 => ?_)⟩
    · obtain ⟨a1, a2⟩ := tcS_at h hp
      refine h5 (d + 6) _ _ L cs a1 (by omega) (fun I' b1 b2 => ⟨fun _ => sp_note b1 ?_ (fun I'' c1 c2 => g I'' ?_ (tcF_tr (tcF_tr a2 b2) c2)), (fun z => absurd z (by decide))⟩)
      · rw [List.length_append, List.length_map]; omega
      · rw [map_1]; exact c1
    · refine h6 (d + 5) _ _ L ss a1 (by omega) (fun I'' b1 b2 => sm_addS (t := u) (rfS_cl b1) hoku ?_ rfl hwu.symm (fun I3 c1 c2 => g I3 ?_ (rfF_tr (rfF_tr a2 b2) (rfF_tr (rfF_35 (by omega)) c2))))
      · rw [List.length_append]; omega
      · rw [← List.append_assoc]; exact c1
  · right; left
    refine ⟨p', by omega, h2, fun d f I L cs h hc g => hcl d f I L h.1 ?_, fun d f I L ss h hc g => hml d f I L ss h hc (fun I' a1 a2 => ?_)⟩
    · obtain ⟨a1, a2⟩ := tcS_at h hp
      exact h5 (d + 6) _ _ L cs a1 (by omega) (fun I' b1 b2 => ⟨(fun z => absurd rfl z), fun _ => g I' b1 (tcF_tr a2 b2)⟩)
    · exact h6 (d + 5) _ _ L ss a1 (by omega) (fun I'' ln b1 bl b2 => sm_addStepB (rfB_25 b1) (by omega) (fun I3 c1 c2 => g I3 _ c1 (by omega) (rfF_tr (rfF_tr a2 b2) (rfF_tr (rfF_35 (by omega)) c2))))
  · right; right
    refine ⟨p', by omega, h2, h3, fun d f I L cs h hc g => hcl d f I L h.1 ?_, fun d f I L ss h hc g => hml d f I L ss h hc (fun I' a1 a2 => ?_)⟩
    · obtain ⟨a1, a2⟩ := tcS_at h hp
      exact h5 (d + 6) _ _ L cs a1 (by omega) (fun I' b1 b2 => ⟨fun _ => sp_noteB b1 (fun I'' c1 c2 => g I'' c1 (tcF_tr (tcF_tr a2 b2) c2)), (fun z => absurd z (by decide))⟩)
    · exact h6 (d + 5) _ _ L ss a1 (by omega) (fun I'' ln b1 bl b2 => sm_addStepB (rfB_25 b1) (by omega) (fun I3 c1 c2 => g I3 _ c1 (by omega) (rfF_tr (rfF_tr a2 b2) (rfF_tr (rfF_35 (by omega)) c2))))
theorem op_par (hfd : fd ≤ 120) (hop : op < 6) (hc : chB fd tp p = 40) (IH : pO P fd tp 0 (op + 1) (p + 1)) : pO P fd tp 6 op p := by
  have hnm := nmO_c (chB fd tp p)
  have hn : ¬ nmO (chB fd tp p) < 9 := by omega
  have hd : ¬ dgP (chB fd tp p) := fun z => by have z1 := z.1; omega
  have hp : p < fd := ch_lt (tp := tp) rfl (by omega)
  have hcl : ∀ (d : Nat) (f : Int32 → m_I → m_L → Prop) (I : m_I) (L : m_L), tcP I fd tp p → bt_WP P (d + Dc 0 (op + 1)) mi_La_readLevel [vr 7 0, vi 0, vi (nI (op + 1))] (ui I 7 0 5 (nI p + 1), L) (kI fun x13 I11 N12 => (x13 = 0 → f 0 I11 N12) ∧ (¬ x13 = 0 → (bt_WP P (d + 7 * (6 - op) + 1 + 2) mi_La_readClosing [vr 7 0] (I11, N12) (kI fun x16 I14 N15 => (x16 = 0 → f 0 I14 N15) ∧ (¬ x16 = 0 → f 1 I14 N15))))) → bt_WP P (d + Dc 6 op) (cM 6) (cG 6 op) (I, L) (kI f) := fun d f I L h g => by
    show bt_WP P (d + Dc 6 op) mi_La_readOperand [vr 7 0, vi (nI op)] (I, L) (kI f)
    rw [show d + Dc 6 op = (d + 7 * (6 - op) + 1 + 2) + 1 by unfold Dc; omega]
    refine sp_op h hd (by omega) (fun z => absurd z hn) (fun _ _ => ?_) (fun z _ => by omega) (fun _ z => by omega) (by omega)
    rw [show d + Dc 0 (op + 1) = d + 7 * (6 - op) + 1 + 2 by unfold Dc; omega] at g
    exact g
  have hml : ∀ (d : Nat) (f : m_I → m_L → Prop) (I : m_I) (L : m_L) (ss : List Nat), rfS I fd tp p op ss → ss.length ≤ p → (∀ I', rfS I' fd tp (p + 1) (op + 1) ss → rfF I I' → bt_WP P (d + Dm 0 (op + 1)) mi_M_either [vr 35 0] (I', L) (kV fun I21 N22 => ((I21 35 0 24) < 0 → (bt_WP P (d + 6 * (6 - op) + 1 + 3) mi_M_look [vr 35 0] (I21, N22) (kI fun x25 I23 N24 => (x25 = 41 → (f (ui (ui I23 35 0 23 ((I23 35 0 23) + 1)) 35 0 25 (((ui I23 35 0 23 ((I23 35 0 23) + 1)) 35 0 25) - 1)) N24)) ∧ (¬ x25 = 41 → (bt_WP P (d + 6 * (6 - op) + 1 + 3) mi_M_faulty [vr 35 0] (I23, N24) (kV fun I26 N27 => f I26 N27)))))) ∧ (¬ (I21 35 0 24) < 0 → (f I21 N22)))) → bt_WP P (d + Dm 6 op) (mM 6) [vr 35 0] (I, L) (kV f) := fun d f I L ss h hc g => by
    show bt_WP P (d + Dm 6 op) mi_M_operand [vr 35 0] (I, L) (kV f)
    rw [show d + Dm 6 op = (d + 6 * (6 - op) + 1) + 4 by unfold Dm; omega]
    have hpf := h.1.2.2.2.2.2
    refine sm_op h (by omega) hd (by omega) (fun z => absurd z hn) (fun _ _ I' a1 a2 => ?_) (fun z _ => by omega) (fun _ z => by omega)
    have g' := g I' a1 a2
    rw [show d + Dm 0 (op + 1) = d + 6 * (6 - op) + 1 + 3 by unfold Dm; omega] at g'
    exact g'
  rcases IH with ⟨p', k, h1, h2, h3, h4, h5, h6⟩ | ⟨p', h1, h2, h5, h6⟩ | ⟨p', h1, h2, h3, h5, h6⟩
  · by_cases q : chB fd tp p' = 41
    · have hp' : p' < fd := ch_lt q (by omega)
      left
      refine ⟨p' + 1, k, by omega, by omega, h3, by omega, fun d f I L cs h hc g => hcl d f I L h.1 ?_, fun d f I L ss h hc g => hml d f I L ss h hc (fun I' a1 a2 => ?_)⟩
      · obtain ⟨a1, a2⟩ := tcS_at h hp
        refine h5 d _ _ L cs a1 (by omega) (fun I' b1 b2 => ⟨(fun z => absurd z (by decide)), fun _ => sp_closing b1.1 (fun _ => ⟨(fun z => absurd z (by decide)), fun _ => ?_⟩) (fun z => absurd q z)⟩)
        obtain ⟨c1, c2⟩ := tcS_at b1 hp'
        exact g _ c1 (tcF_tr (tcF_tr a2 b2) c2)
      · refine h6 d _ _ L ss a1 (by omega) (fun I'' b1 b2 => ⟨fun _ => sm_look b1.1 ⟨fun _ => ?_, fun z => absurd ((mB_eq (c := 41) b1.1.2.2.2.1 (by omega)).mpr q) z⟩, fun z => absurd (by rw [b1.2.1]; decide) z⟩)
        rw [b1.1.2.2.2.2.1]
        exact g _ (rfS_cl (rfS_at b1 hp')) (rfF_tr (rfF_tr a2 b2) (rfF_tr (rfF_35 (by omega)) (rfF_35 (by omega))))
    · right; left
      refine ⟨p', by omega, h2, fun d f I L cs h hc g => hcl d f I L h.1 ?_, fun d f I L ss h hc g => hml d f I L ss h hc (fun I' a1 a2 => ?_)⟩
      · obtain ⟨a1, a2⟩ := tcS_at h hp
        refine h5 d _ _ L cs a1 (by omega) (fun I' b1 b2 => ⟨(fun z => absurd z (by decide)), fun _ => sp_closing b1.1 (fun z => absurd z q) (fun _ => ⟨fun _ => g I' (tcS_B b1 ?_) (tcF_tr a2 b2), (fun z => absurd rfl z)⟩)⟩)
        rw [List.length_append, List.length_map]; omega
      · refine h6 d _ _ L ss a1 (by omega) (fun I'' b1 b2 => ⟨fun _ => sm_look b1.1 ⟨fun z => absurd ((mB_eq (c := 41) b1.1.2.2.2.1 (by omega)).mp z) q, fun _ => sm_faulty b1 (fun I3 c1 c2 => g I3 _ c1 ?_ (rfF_tr (rfF_tr a2 b2) c2))⟩, fun z => absurd (by rw [b1.2.1]; decide) z⟩)
        rw [List.length_append]; omega
  · right; left
    refine ⟨p', by omega, h2, fun d f I L cs h hc g => hcl d f I L h.1 ?_, fun d f I L ss h hc g => hml d f I L ss h hc (fun I' a1 a2 => ?_)⟩
    · obtain ⟨a1, a2⟩ := tcS_at h hp
      exact h5 d _ _ L cs a1 (by omega) (fun I' b1 b2 => ⟨fun _ => g I' b1 (tcF_tr a2 b2), (fun z => absurd rfl z)⟩)
    · exact h6 d _ _ L ss a1 (by omega) (fun I'' ln b1 bl b2 => ⟨fun z => absurd z (by rw [b1.2.1]; exact n_neg (by omega)), fun _ => g I'' ln b1 (by omega) (rfF_tr a2 b2)⟩)
  · right; left
    have hnc : ¬ chB fd tp p' = 41 := fun z => by have z1 := h3.1; omega
    refine ⟨p', by omega, h2, fun d f I L cs h hc g => hcl d f I L h.1 ?_, fun d f I L ss h hc g => hml d f I L ss h hc (fun I' a1 a2 => ?_)⟩
    · obtain ⟨a1, a2⟩ := tcS_at h hp
      exact h5 d _ _ L cs a1 (by omega) (fun I' b1 b2 => ⟨(fun z => absurd z (by decide)), fun _ => sp_closing b1.1 (fun z => absurd z hnc) (fun _ => ⟨fun _ => g I' b1 (tcF_tr a2 b2), (fun z => absurd rfl z)⟩)⟩)
    · exact h6 d _ _ L ss a1 (by omega) (fun I'' ln b1 bl b2 => ⟨fun z => absurd z (by rw [b1.2.1]; exact n_neg (by omega)), fun _ => g I'' ln b1 (by omega) (rfF_tr a2 b2)⟩)
theorem pO_op (hfd : fd ≤ 120) (hp : p ≤ fd) (hop : op ≤ 6) (IH : p < fd → ∀ l op, op ≤ 6 → l ≤ 6 → pO P fd tp l op (p + 1)) : pO P fd tp 6 op p := by
  by_cases hd : dgP (chB fd tp p)
  · exact op_digit hfd hop hd
  by_cases hn : nmO (chB fd tp p) < 9
  · exact op_name hfd hop hn
  by_cases ho : op < 6
  · by_cases h40 : chB fd tp p = 40
    · exact op_par hfd ho h40 (IH (ch_lt h40 (by omega)) 0 (op + 1) (by omega) (by omega))
    by_cases hu : chB fd tp p = 33 ∨ chB fd tp p = 45
    · exact op_un hfd ho hu (IH (ch_lt (tp := tp) rfl (by omega)) 6 (op + 1) (by omega) (by omega))
    exact op_bad hfd hp hop hd hn (Or.inr (by omega))
  · exact op_bad hfd hp hop hd hn (Or.inl (by omega))
end OPR
