/-! of, path: joint -/
theorem hut_of {I : m_I} {T : Nat} {nb : Nat → Nat} (hF : gF I T nb) : ∃ hu, hu < 8 ∧ I 3 7 0 = nI hu ∧ I 35 0 13 = nI hu := by
  obtain ⟨e, m, h1, h2⟩ := hF.2.2.2.1 7 0 (by omega) (by show 0 < 1; omega)
  exact ⟨m, h1, h2, e.trans h2⟩
theorem jn_of {P : bt_PT} {d : Nat} {G : m_I → m_L → Prop} {I : m_I} {L : m_L} {T : Nat} {nb : Nat → Nat} {n w : Int32} (hF : gF I T nb) (h : ∀ I', Scr I L I' L → G I' L) :
    bt_WP P (d + 7) mi_B_of [vr 0 0, vi n, vi w] (I, L) (kI fun x I1 L1 => bt_WP P (d + 7) mi_M_of [vr 35 0, vi n, vi w] (I1, L1) (kI fun y I2 L2 => x = y ∧ G I2 L2)) := by
  have hr : G I L := h I Scr_rf
  have hT8 := hF.1.2.1
  have hcT := hF.1.1
  have hmT := hF.2.1.1
  obtain ⟨hu, hu8, ec, em⟩ := hut_of hF
  have i10 : (10 : Int32).toInt = 10 := rfl
  have i11 : (11 : Int32).toInt = 11 := rfl
  have i12 : (12 : Int32).toInt = 12 := rfl
  have o8 : oob w 8 ↔ w.toInt < 0 ∨ 8 ≤ w.toInt := by unfold oob; rw [ti_lt, ti_le, i_0, ti_nI (by omega)]; rfl
  have hin7 : ((0 : Int32) ≤ w ∧ w ≤ 7) ↔ ¬ oob w 8 := in_oob (n := 8) (by omega) (by omega)
  have hin10 : ((10 : Int32) ≤ w ∧ w ≤ 11) ↔ (w.toInt = 10 ∨ w.toInt = 11) := by rw [ti_le, ti_le, i10, i11]; omega
  have hh : w.toInt = 10 ∨ w.toInt = 11 ∨ w.toInt = 12 ∨ (w.toInt ≠ 10 ∧ w.toInt ≠ 11 ∧ w.toInt ≠ 12) := by omega
  rcases hh with q | q | q | ⟨q1, q2, q3⟩
  · have ew : w = 10 := by rw [ti_eq, i10]; exact q
    subst ew
    have hm0 : ∀ (I1 : m_I) (Q : Int32 → m_I → m_L → Prop), I1 35 0 1 = nI T → (oob n T → Q (-1) I1 L) → (¬ oob n T → bt_WP P (d + 6) mi_M_findFar [vr 35 0] (I1, L) (kV fun I10 N11 => vp_in n 8 ∧ Q (I10 48 0 (tn n)) I10 N11)) → bt_WP P (d + 7) mi_M_of [vr 35 0, vi n, vi 10] (I1, L) (kI Q) := fun I1 Q e1 c1 c2 => by
      refine ru_M_of (sm_in ?_)
      rw [bP_f (fun z => hin7.mp z (o8.mpr (Or.inr (by omega))))]
      refine ⟨fun _ => ⟨fun _ => sm_in ?_, fun z => absurd z (by decide)⟩, (fun z => absurd rfl z)⟩
      rw [bP_t (hin10.mpr (Or.inl q))]
      refine ⟨(fun z => absurd z (by decide)), fun _ => sm_isTree e1 hT8 (bP_br' (fun z => ?_) (fun z => c1 (Classical.byContradiction z)))⟩
      refine bt_WP_imp (c2 z) (fun r σ hk => ?_)
      match r, hk with
      | none, hk => exact ⟨fun z => absurd rfl z, fun _ => hk⟩
    refine ru_B_of ⟨(fun z => absurd rfl z), fun _ => sp_has hcT (bP_br (fun z => hm0 _ _ hmT (fun _ => ⟨rfl, hr⟩) (fun q => absurd q z)) (fun z => ?_))⟩
    obtain ⟨t, ht, rfl⟩ := in_of (x := n) (n := T) (by omega) (fun q => z (oobL q)) (fun q => z (oobR q))
    refine ru_Fo_farOf (sp_measureFar hF.1 ec hu8 (fun I1 h1 h2 => sp_farMeasured (by rw [h1 1 0 4 (by decide)]; exact hcT) hT8 ht ?_))
    refine hm0 _ _ (by rw [h1 35 0 1 (by decide)]; exact hmT) (fun q => absurd q z) (fun _ => ?_)
    have q1 : Qg 1 I I1 := Qg_scr (off5_Scr (L := L) h1) (by decide)
    refine sm_findFar (jF_Q hF.2.1 q1) (by rw [h1 35 0 13 (by decide)]; exact em) hu8 (fun I2 h3 h4 => ⟨ti_in (by omega) (by omega), ?_, h _ (Scr_tr (off5_Scr h1) (off48_Scr h3))⟩)
    rw [ti_tn (by omega), h4 t ht, h2 t ht]; rfl
  · have ew : w = 11 := by rw [ti_eq, i11]; exact q
    subst ew
    have hm0 : ∀ (Q : Int32 → m_I → m_L → Prop), (oob n T → Q (-1) I L) → (¬ oob n T → bt_WP P (d + 6) mi_M_findFar [vr 35 0] (I, L) (kV fun I10 N11 => vp_in n 8 ∧ Q (I10 41 0 (tn n)) I10 N11)) → bt_WP P (d + 7) mi_M_of [vr 35 0, vi n, vi 11] (I, L) (kI Q) := fun Q c1 c2 => by
      refine ru_M_of (sm_in ?_)
      rw [bP_f (fun z => hin7.mp z (o8.mpr (Or.inr (by omega))))]
      refine ⟨fun _ => ⟨fun _ => sm_in ?_, fun z => absurd z (by decide)⟩, (fun z => absurd rfl z)⟩
      rw [bP_t (hin10.mpr (Or.inr q))]
      refine ⟨(fun z => absurd z (by decide)), fun _ => sm_isTree hmT hT8 (bP_br' (fun z => ?_) (fun z => c1 (Classical.byContradiction z)))⟩
      refine bt_WP_imp (c2 z) (fun r σ hk => ?_)
      match r, hk with
      | none, hk => exact ⟨fun _ => hk, fun z => absurd z (by decide)⟩
    refine ru_B_of ⟨fun _ => ⟨(fun z => absurd rfl z), fun _ => sp_has hcT (bP_br (fun z => hm0 _ (fun _ => ⟨rfl, hr⟩) (fun q => absurd q z)) (fun z => ?_))⟩, (fun z => absurd z (by decide))⟩
    obtain ⟨t, ht, rfl⟩ := in_of (x := n) (n := T) (by omega) (fun q => z (oobL q)) (fun q => z (oobR q))
    refine sp_heardOf hcT hT8 ht (hm0 _ (fun q => absurd q z) (fun _ => ?_))
    refine sm_findFar hF.2.1 em hu8 (fun I2 h3 h4 => ⟨ti_in (by omega) (by omega), ?_, h _ (off48_Scr h3)⟩)
    rw [ti_tn (by omega), h3 41 0 t (by decide)]; exact (hF.2.2.2.2.1 t ht).symm
  · have ew : w = 12 := by rw [ti_eq, i12]; exact q
    subst ew
    have hm0 : ∀ (Q : Int32 → m_I → m_L → Prop), (¬ n = 0 → Q (-1) I L) → (n = 0 → Q (I 35 0 9) I L) → bt_WP P (d + 7) mi_M_of [vr 35 0, vi n, vi 12] (I, L) (kI Q) := fun Q c1 c2 => by
      refine ru_M_of (sm_in ?_)
      rw [bP_f (fun z => hin7.mp z (o8.mpr (Or.inr (by omega))))]
      exact ⟨fun _ => ⟨(fun z => absurd rfl z), fun _ => ⟨c1, c2⟩⟩, (fun z => absurd rfl z)⟩
    refine ru_B_of ⟨fun _ => ⟨fun _ => ⟨(fun z => absurd rfl z), fun _ => ⟨fun z => hm0 _ (fun _ => ⟨rfl, hr⟩) (fun q => absurd q z), fun z => ru_Fo_walked (hm0 _ (fun q => absurd z q) (fun _ => ⟨hF.2.2.2.2.2.2.2.2.symm, hr⟩))⟩⟩, (fun z => absurd z (by decide))⟩, (fun z => absurd z (by decide))⟩
  · have n10 : ¬ w = 10 := fun z => q1 (by rw [z]; rfl)
    have n11 : ¬ w = 11 := fun z => q2 (by rw [z]; rfl)
    have n12 : ¬ w = 12 := fun z => q3 (by rw [z]; rfl)
    refine ru_B_of ⟨fun _ => ⟨fun _ => ⟨fun _ => ?_, fun z => absurd z n12⟩, fun z => absurd z n11⟩, fun z => absurd z n10⟩
    rcases ix w 8 (by omega) with hw | ⟨w, hw, rfl⟩
    · refine sp_isSlot_out hw ⟨fun _ => ?_, (fun z => absurd rfl z)⟩
      refine ru_M_of (sm_in ?_)
      rw [bP_f (fun z => hin7.mp z hw)]
      refine ⟨fun _ => ⟨fun _ => sm_in ?_, fun z => absurd z n12⟩, (fun z => absurd rfl z)⟩
      rw [bP_f (fun z => by rcases hin10.mp z with q | q <;> omega)]
      exact ⟨fun _ => ⟨rfl, hr⟩, (fun z => absurd rfl z)⟩
    · have hm0 : ∀ (Q : Int32 → m_I → m_L → Prop), (oob n (slN T w) → Q (-1) I L) → (∀ t, t < slN T w → n = nI t → Q (mv I w t) I L) → bt_WP P (d + 7) mi_M_of [vr 35 0, vi n, vi (nI w)] (I, L) (kI Q) := fun Q c1 c2 => by
        refine ru_M_of (sm_in ?_)
        rw [bP_t (hin7.mpr (n_oob hw (by omega)))]
        refine ⟨(fun z => absurd z (by decide)), fun _ => sm_isThing hmT hT8 hw (bP_br (fun z => c1 (Classical.byContradiction z)) (fun z => ?_))⟩
        have h24 := slN_le (w := w) hT8
        obtain ⟨t, ht, rfl⟩ := in_of (x := n) (n := slN T w) (by omega) (fun q => z (oobL q)) (fun q => z (oobR q))
        exact sm_valueAt hT8 hw ht (c2 t ht rfl)
      refine sp_isSlot hcT hw (bP_br (fun z => hm0 _ (fun _ => ⟨rfl, hr⟩) (fun t ht e => absurd (e ▸ n_oob ht (by have := slN_le (w := w) hT8; omega)) z)) (fun z => ?_))
      have h24 := slN_le (w := w) hT8
      obtain ⟨t, ht, rfl⟩ := in_of (x := n) (n := slN T w) (by omega) (fun q => z (oobL q)) (fun q => z (oobR q))
      refine sp_get hcT hT8 hw ht (hm0 _ (fun q => absurd q z) (fun t' ht' e => ?_))
      have e' : t = t' := (neq (by omega) (by omega)).mp e
      subst e'
      exact ⟨(hF.2.2.2.1 w t hw ht).1.symm, hr⟩
