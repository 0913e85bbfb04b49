/-! taken, body, trace, count: joint -/
theorem jn_taken {P : bt_PT} {d : Nat} {G : m_I → m_L → Prop} {I : m_I} {L : m_L} {bn rn : Nat} {s k : Int32} (hS : gS I L bn) (hB : gB I bn rn) (h : G I L) :
    bt_WP P (d + 6) mi_B_taken [vr 0 0, vi s, vi k] (I, L) (kI fun x I1 L1 => bt_WP P (d + 6) mi_M_taken [vr 35 0, vi s, vi k] (I1, L1) (kI fun y I2 L2 => x = y ∧ G I2 L2)) := by
  have hb := hB.1
  rcases ix s 6 (by omega) with hs | ⟨s, hs, rfl⟩
  · refine ru_B_taken (sp_sAo hs (ru_B_taken_5 ⟨fun _ => ?_, (fun z => absurd rfl z)⟩))
    exact ru_M_taken (sm_isShelf (bP_br (fun _ => ⟨rfl, h⟩) (fun z => absurd hs z)))
  · obtain ⟨x, z, hx⟩ := hS s hs
    refine ru_B_taken (sp_sA hs (ru_B_taken_5_b ⟨(fun z => by cases z), fun _ => sp_isKind ?_⟩))
    have hm : ∀ (Q : Int32 → m_I → m_L → Prop), (oob k 8 → Q (-1) I L) → (¬ oob k 8 → (hoI x = -1 → Q (-11) I L) ∧ (¬ hoI x = -1 → hoI x < 0 → Q (-12) I L) ∧ (¬ hoI x = -1 → ¬ hoI x < 0 → (vp_in (hoI x) 50 ∧ bt_WP P (d + 5) mi_M_isUnder [vi (I 64 0 (tn (hoI x))), vi k] (I, L) (kI fun x9 I7 N8 => (x9 = 0 → Q (-12) I7 N8) ∧ (¬ x9 = 0 → (vp_in (nI s) 6 ∧ (vp_in (I7 66 0 s) 50 ∧ Q (I7 64 0 (tn (I7 66 0 s))) I7 N8))))))) → bt_WP P (d + 6) mi_M_taken [vr 35 0, vi (nI s), vi k] (I, L) (kI Q) := fun Q q1 q2 => by
      refine ru_M_taken (sm_isShelf ?_)
      rw [bP_t (n_oob hs (by omega))]
      refine ⟨(fun z => absurd z (by decide)), fun _ => sm_in ?_⟩
      rw [show (7 : Int32) = nI (8 - 1) from rfl, bP_c (in_oob (by omega) (by omega))]
      refine bP_br' (fun q => ⟨ti_in hs (by omega), ?_⟩) (fun q => q1 (Classical.byContradiction q))
      have e := hx.2.2.2.2.1
      have es : tn (nI s) = s := ti_tn (by omega)
      refine ⟨fun a1 => ⟨ti_in hs (by omega), fun a2 => ?_, fun a2 => ⟨ti_in hs (by omega), ?_⟩⟩, fun a1 => ?_⟩
      · rw [es, e] at a1 a2; exact (q2 q).2.1 a1 a2
      · rw [es, e] at a1 a2 ⊢; exact (q2 q).2.2 a1 a2
      · rw [es, e] at a1; exact (q2 q).1 a1
    refine bP_br' (fun hk => ?_) (fun hk => hm _ (fun _ => ⟨rfl, h⟩) (fun z => absurd z hk))
    obtain ⟨k, hk8, rfl⟩ := in_of (x := k) (n := 8) (by omega) (fun z => hk (oobL z)) (fun z => hk (oobR z))
    refine sp_isEmpty hx hb (bP_br (fun q1 => ?_) (fun q1 => ?_))
    · refine sp_isRow hx (bP_br (fun q2 => ?_) (fun q2 => ?_))
      · rcases x with _ | b | c
        · exact absurd rfl q1
        · have hbn := hx.2.2.2.2.2.2 b rfl
          refine ru_Sh_bodyHeld ?_
          rw [hx.2.1]
          refine ru_Bo_kindOf ⟨fun z => absurd z (n_neg (by omega)), fun _ => ?_⟩
          rw [hB.2.1]
          obtain ⟨e64, kb, hkb, e30⟩ := hB.2.2.2.1 b hbn
          refine ⟨fun z => absurd ((nle (a := bn) (b := b) (by omega) (by omega)).mp z) (by omega), fun _ => ⟨ti_in (n := b) (by omega) (by omega), ?_⟩⟩
          have et : tn (hbI (some (.inl b))) = b := ti_tn (n := b) (by omega)
          rw [et, e30]
          refine sp_und hkb hk8 ?_
          have hmm : (undB kb k = false → bt_WP P (d + 6) mi_M_taken [vr 35 0, vi (nI s), vi (nI k)] (I, L) (kI fun y I2 L2 => (-12) = y ∧ G I2 L2)) ∧ (undB kb k = true → bt_WP P (d + 6) mi_M_taken [vr 35 0, vi (nI s), vi (nI k)] (I, L) (kI fun y I2 L2 => nI kb = y ∧ G I2 L2)) := by
            have ho : hoI (some (.inl b)) = nI b := rfl
            have es : tn (nI s) = s := ti_tn (by omega)
            have eb : tn (nI b) = b := ti_tn (by omega)
            constructor
            · intro e
              refine hm _ (fun z => absurd z hk) (fun _ => ⟨fun z => absurd ((gS1_ho hx hb).mp z) q1, fun _ z => absurd ((gS1_hr hx hb q1).mp z) q2, fun _ _ => ?_⟩)
              rw [ho, eb, e64, e30]
              refine ⟨ti_in (by omega) (by omega), sm_und hkb hk8 ?_⟩
              rw [e]; exact ⟨fun _ => ⟨rfl, h⟩, fun z => absurd rfl z⟩
            · intro e
              refine hm _ (fun z => absurd z hk) (fun _ => ⟨fun z => absurd ((gS1_ho hx hb).mp z) q1, fun _ z => absurd ((gS1_hr hx hb q1).mp z) q2, fun _ _ => ?_⟩)
              rw [ho, eb, e64, e30]
              refine ⟨ti_in (by omega) (by omega), sm_und hkb hk8 ?_⟩
              rw [e]
              refine ⟨fun z => absurd z (by decide), fun _ => ⟨ti_in hs (by omega), ?_⟩⟩
              rw [hx.2.2.2.2.1, ho, eb, e64, e30]
              exact ⟨ti_in (by omega) (by omega), rfl, h⟩
          cases e : undB kb k with
          | false => exact ⟨fun _ => hmm.1 e, fun z => absurd rfl z⟩
          | true => exact ⟨fun z => absurd z (by decide), fun _ => hmm.2 e⟩
        · exact absurd ⟨c, rfl⟩ q2
      · refine ru_Bo_isUnder (sp_und_m (u := 0) (by omega) ⟨fun _ => ?_, fun z => absurd rfl z⟩)
        exact hm _ (fun z => absurd z hk) (fun _ => ⟨fun z => absurd ((gS1_ho hx hb).mp z) q1, fun _ _ => ⟨rfl, h⟩, fun _ z => absurd ((gS1_hr hx hb q1).mpr q2) z⟩)
    · exact hm _ (fun z => absurd z hk) (fun _ => ⟨fun _ => ⟨rfl, h⟩, fun z => absurd ((gS1_ho hx hb).mpr q1) z, fun z => absurd ((gS1_ho hx hb).mpr q1) z⟩)
theorem jn_trace {P : bt_PT} {d : Nat} {G : m_I → m_L → Prop} {I : m_I} {L : m_L} {bn rn : Nat} {i : Int32} (hB : gB I bn rn) (h : G I L) :
    bt_WP P (d + 6) mi_B_trace [vr 0 0, vi i] (I, L) (kI fun x I1 L1 => bt_WP P (d + 6) mi_M_trace [vr 35 0, vi i] (I1, L1) (kI fun y I2 L2 => x = y ∧ G I2 L2)) := by
  obtain ⟨h1, h2, h3, h4, h5, h6, h7, h8⟩ := hB
  have hm : ∀ (Q : Int32 → m_I → m_L → Prop), (i < 0 → Q (-1) I L) ∧ (¬ i < 0 → (nI rn ≤ i → Q (-1) I L) ∧ (¬ nI rn ≤ i → (24 ≤ i → Q (-1) I L) ∧ (¬ 24 ≤ i → vp_in i 24 ∧ Q (I 65 0 (tn i)) I L))) → bt_WP P (d + 6) mi_M_trace [vr 35 0, vi i] (I, L) (kI Q) := fun Q q => ru_M_trace (by rw [h7]; exact q)
  refine ru_B_trace (ru_Bo_traced ?_)
  rw [h6]
  refine ⟨fun a1 => hm _ ⟨fun _ => ⟨rfl, h⟩, fun z => absurd a1 z⟩, fun a1 => ⟨fun a2 => hm _ ⟨fun z => absurd z a1, fun _ => ⟨fun _ => ⟨rfl, h⟩, fun z => absurd a2 z⟩⟩, fun a2 => ⟨fun a3 => hm _ ⟨fun z => absurd z a1, fun _ => ⟨fun z => absurd z a2, fun _ => ⟨fun _ => ⟨rfl, h⟩, fun z => absurd a3 z⟩⟩⟩, fun a3 => ?_⟩⟩⟩
  obtain ⟨n, hn, rfl⟩ := in_of (by omega) a1 a2
  have hn24 : n < 24 := by
    rcases Nat.lt_or_ge n 24 with q | q
    · exact q
    · exact absurd ((nle (a := 24) (by omega) (by omega)).mpr q) a3
  have hv : vp_in (nI n) 24 := ti_in hn24 (by omega)
  refine ⟨hv, hm _ ⟨fun z => absurd z a1, fun _ => ⟨fun z => absurd z a2, fun _ => ⟨fun z => absurd z a3, fun _ => ⟨hv, ?_, h⟩⟩⟩⟩⟩
  rw [ti_tn (by omega)]; exact (h8 n hn hn24).symm
theorem jn_body {P : bt_PT} {d : Nat} {G : m_I → m_L → Prop} {I : m_I} {L : m_L} {bn rn : Nat} {k : Int32} (hB : gB I bn rn) (h0 : G I L) (h : bn < 50 → ∀ I', gB I' (bn + 1) rn → (∀ g, g ≠ 4 → Qg g I I') → G I' L) :
    bt_WP P (d + 6) mi_B_body [vr 0 0, vi k] (I, L) (kI fun x I1 L1 => bt_WP P (d + 6) mi_M_body [vr 35 0, vi k] (I1, L1) (kI fun y I2 L2 => x = y ∧ G I2 L2)) := by
  obtain ⟨h1, h2, h3, h4, h5, h6, h7, h8⟩ := hB
  refine ru_B_body (ru_Bo_add (sp_isKind (bP_br' (fun q => ?_) (fun q => ?_))))
  · obtain ⟨k, hk8, rfl⟩ := in_of (x := k) (n := 8) (by omega) (fun z => q (oobL z)) (fun z => q (oobR z))
    have hm : ∀ (I1 : m_I) (Q : Int32 → m_I → m_L → Prop), ((¬ I1 35 0 45 = 50 → (vp_in (I1 35 0 45) 50 ∧ Q ((ui (ui I1 64 0 (tn (I1 35 0 45)) (nI k)) 35 0 45 ((ui I1 64 0 (tn (I1 35 0 45)) (nI k)) 35 0 45 + 1)) 35 0 45 - 1) (ui (ui I1 64 0 (tn (I1 35 0 45)) (nI k)) 35 0 45 ((ui I1 64 0 (tn (I1 35 0 45)) (nI k)) 35 0 45 + 1)) L)) ∧ (I1 35 0 45 = 50 → Q (-3) I1 L)) → bt_WP P (d + 6) mi_M_body [vr 35 0, vi (nI k)] (I1, L) (kI Q) := fun I1 Q qq => by
      refine ru_M_body (sm_in ?_)
      rw [show (7 : Int32) = nI (8 - 1) from rfl, bP_c (in_oob (by omega) (by omega)), bP_t (n_oob hk8 (by omega))]
      exact ⟨fun _ => qq, (fun z => absurd z (by decide))⟩
    rw [h2]
    have e50 : nI bn = 50 ↔ bn = 50 := neq (b := 50) (by omega) (by omega)
    have l50 : nI bn < 50 ↔ bn < 50 := nlt (b := 50) (by omega) (by omega)
    refine ⟨fun a => ?_, fun a => hm _ _ (by rw [h3]; exact ⟨fun z => absurd (l50.mpr (by have h50 : ¬ bn = 50 := (fun q => z (e50.mpr q)); omega)) a, fun _ => ⟨rfl, h0⟩⟩)⟩
    · have hb : bn < 50 := l50.mp a
      rw [ti_tn (by omega)]
      simp (disch := decide) only [ui_k, ui_same, h2, nI_s, nI_pred]
      refine ⟨ti_in (by omega) (by omega), hm _ _ ?_⟩
      simp (disch := decide) only [ui_k, ui_same, h3, nI_s, nI_pred]
      rw [ti_tn (by omega)]
      refine ⟨fun _ => ⟨ti_in (by omega) (by omega), trivial, ?_⟩, fun z => absurd (e50.mp z) (by omega)⟩
      refine h hb _ ⟨by omega, ?_, ?_, fun b hb' => ?_, h5, ?_, ?_, fun i hi h24 => ?_⟩ (fun g hg => Qg_ui (Qg_ui (Qg_ui (Qg_ui Qg_rf (Ne.symm hg)) (Ne.symm hg)) (Ne.symm hg)) (Ne.symm hg))
      · simp (disch := first | decide | assumption) only [ui_k, ui_i, ui_j, ui_same, ul_k, ul_i, ul_j, ul_same]
      · simp (disch := first | decide | assumption) only [ui_k, ui_i, ui_j, ui_same, ul_k, ul_i, ul_j, ul_same]
      · by_cases e : b = bn
        · subst e; simp (disch := first | decide | assumption) only [ui_k, ui_i, ui_j, ui_same, ul_k, ul_i, ul_j, ul_same]; exact ⟨trivial, k, hk8, rfl⟩
        · simp (disch := first | decide | assumption) only [ui_k, ui_i, ui_j, ui_same, ul_k, ul_i, ul_j, ul_same]; exact h4 b (by omega)
      · simp (disch := first | decide | assumption) only [ui_k, ui_i, ui_j, ui_same, ul_k, ul_i, ul_j, ul_same]; exact h6
      · simp (disch := first | decide | assumption) only [ui_k, ui_i, ui_j, ui_same, ul_k, ul_i, ul_j, ul_same]; exact h7
      · simp (disch := first | decide | assumption) only [ui_k, ui_i, ui_j, ui_same, ul_k, ul_i, ul_j, ul_same]; exact h8 i hi h24
  · refine ru_M_body (sm_in ?_)
    rw [show (7 : Int32) = nI (8 - 1) from rfl, bP_c (in_oob (by omega) (by omega)), bP_f q]
    exact ⟨(fun z => absurd rfl z), fun _ => ⟨rfl, h0⟩⟩
theorem jn_count {P : bt_PT} {d : Nat} {G : m_I → m_L → Prop} {I : m_I} {L : m_L} {k : Int32} (e0 : I 1 0 4 = I 35 0 1) (e1 : I 1 0 5 = I 35 0 8) (e2 : I 7 0 4 = I 35 0 22) (e3 : I 19 0 4 = I 35 0 14) (e4 : I 29 0 2 = I 35 0 45) (e5 : I 29 0 3 = I 35 0 47) (h : G I L) :
    bt_WP P (d + 6) mi_B_count [vr 0 0, vi k] (I, L) (kI fun x I1 L1 => bt_WP P (d + 6) mi_M_count [vr 35 0, vi k] (I1, L1) (kI fun y I2 L2 => x = y ∧ G I2 L2)) := by
  refine ru_B_count ⟨fun c0 => ru_Fo_size ?_, fun c0 => ⟨fun c1 => ru_Fo_joined ?_, fun c1 => ⟨fun c2 => ru_La_bytes ?_, fun c2 => ⟨fun c3 => ru_Ch_revertible ?_, fun c3 => ⟨fun c4 => ru_Bo_size ?_, fun c4 => ⟨fun c5 => ru_Bo_latestRuns ?_, fun c5 => ?_⟩⟩⟩⟩⟩⟩
  · exact ru_M_count ⟨fun _ => ⟨e0, h⟩, fun z => absurd c0 z⟩
  · exact ru_M_count ⟨fun z => absurd z c0, fun _ => ⟨fun _ => ⟨e1, h⟩, fun z => absurd c1 z⟩⟩
  · exact ru_M_count ⟨fun z => absurd z c0, fun _ => ⟨fun z => absurd z c1, fun _ => ⟨fun _ => ⟨e2, h⟩, fun z => absurd c2 z⟩⟩⟩
  · exact ru_M_count ⟨fun z => absurd z c0, fun _ => ⟨fun z => absurd z c1, fun _ => ⟨fun z => absurd z c2, fun _ => ⟨fun _ => ⟨e3, h⟩, fun z => absurd c3 z⟩⟩⟩⟩
  · exact ru_M_count ⟨fun z => absurd z c0, fun _ => ⟨fun z => absurd z c1, fun _ => ⟨fun z => absurd z c2, fun _ => ⟨fun z => absurd z c3, fun _ => ⟨fun _ => ⟨e4, h⟩, fun z => absurd c4 z⟩⟩⟩⟩⟩
  · exact ru_M_count ⟨fun z => absurd z c0, fun _ => ⟨fun z => absurd z c1, fun _ => ⟨fun z => absurd z c2, fun _ => ⟨fun z => absurd z c3, fun _ => ⟨fun z => absurd z c4, fun _ => ⟨fun _ => ⟨e5, h⟩, fun z => absurd c5 z⟩⟩⟩⟩⟩⟩
  · exact ru_M_count ⟨fun z => absurd z c0, fun _ => ⟨fun z => absurd z c1, fun _ => ⟨fun z => absurd z c2, fun _ => ⟨fun z => absurd z c3, fun _ => ⟨fun z => absurd z c4, fun _ => ⟨fun z => absurd z c5, fun _ => ⟨rfl, h⟩⟩⟩⟩⟩⟩⟩
