/-! undo, redo: joint -/
theorem gC_upd {I I' : m_I} {T dn kp dn' : Nat} (h : gC I T dn kp) (h1 : dn' ≤ kp) (e1 : I' 19 0 4 = nI dn') (e2 : I' 19 0 5 = I 19 0 5) (e3 : I' 35 0 14 = nI dn') (e4 : I' 35 0 15 = nI (kp - dn')) (e5 : ∀ a c, (20 ≤ a ∧ a ≤ 23) ∨ (44 ≤ a ∧ a ≤ 47) → I' a 0 c = I a 0 c) : gC I' T dn' kp := by
  obtain ⟨c1, c2, c3, c4, c5, c6, c7⟩ := h
  refine ⟨h1, c2, e1, by rw [e2]; exact c4, e3, e4, fun k hk => ?_⟩
  have := c7 k hk
  unfold gE at this ⊢
  rw [e5 20 k (by omega), e5 21 k (by omega), e5 22 k (by omega), e5 23 k (by omega), e5 44 k (by omega), e5 45 k (by omega), e5 46 k (by omega), e5 47 k (by omega)]
  exact this
theorem uj_ne {I : m_I} {k i j a b c : Nat} {v : Int32} (h : ¬ (a = k ∧ b = i ∧ c = j)) : ui I k i j v a b c = I a b c := by
  unfold ui
  by_cases z1 : a = k
  · by_cases z2 : b = i
    · by_cases z3 : c = j
      · exact absurd ⟨z1, z2, z3⟩ h
      · rw [if_pos z1, if_pos z2, if_neg z3]
    · rw [if_pos z1, if_neg z2]
  · rw [if_neg z1]
theorem mk_gp {w t g : Nat} (hw : w < 8) (hg : g ≠ 1) {a b c : Nat} (e : gp a c = g) : ¬ (a = mk w ∧ b = 0 ∧ c = mj w t) := fun z =>
  absurd (((mk_ne (t := t) hw).2.2.2.2.2.2.2).symm.trans ((by rw [z.1, z.2.2] : gp (mk w) (mj w t) = gp a c).trans e)) (Ne.symm hg)
theorem jn_undo {P : bt_PT} {d : Nat} {G : m_I → m_L → Prop} {I : m_I} {L : m_L} {T dn kp : Nat} {nb : Nat → Nat} (hF : gF I T nb) (hC : gC I T dn kp) (h : ∀ I' dn' kp', gF I' T nb → gC I' T dn' kp' → (∀ g, g ≠ 1 → g ≠ 2 → Qg g I I') → G I' L) :
    bt_WP P (d + 6) mi_B_undo [vr 0 0] (I, L) (kI fun x I1 L1 => bt_WP P (d + 6) mi_M_undo [vr 35 0] (I1, L1) (kI fun y I2 L2 => x = y ∧ G I2 L2)) := by
  have hr : G I L := h I dn kp hF hC (fun _ _ _ => Qg_rf)
  have hC' := hC
  obtain ⟨c1, c2, c3, c4, c5, c6, c7⟩ := hC'
  have hT8 := hF.1.2.1
  refine ru_B_undo (ru_Ch_revert ?_)
  rw [c3]
  rcases Nat.eq_zero_or_pos dn with q | q
  · subst q
    refine ⟨fun z => absurd z (by decide), fun _ => ru_M_undo ?_⟩
    rw [c5]
    exact ⟨fun z => absurd rfl z, fun _ => ⟨rfl, hr⟩⟩
  · obtain ⟨m, rfl⟩ : ∃ m, dn = m + 1 := ⟨dn - 1, by omega⟩
    obtain ⟨e0, e1, e2, e3, a, b, ea, eb, ha, hb, hl1, hl2⟩ := c7 m (by omega)
    have h24 := slN_le (w := a) hT8
    have k35 := mk_lt ha
    refine ⟨fun _ => ?_, fun z => absurd (show (0 : Int32) < nI (m + 1) from by rw [ti_lt, i_0, ti_nI (by omega)]; omega) z⟩
    rw [nI_pred]
    simp (disch := first | decide | omega) only [ui_k, ui_j, ui_same, ti_tn, ea, eb]
    have hv : vp_in (nI m) 40 := ti_in (by omega) (by omega)
    refine ⟨hv, hv, hv, sp_set (by rw [ui_k (by decide)]; exact hF.1.1) hT8 ha hb ?_⟩
    rw [ui_k (by decide), ui_same]
    refine ru_M_undo ?_
    simp (disch := first | decide | omega) only [ui_k, ui_j, ui_same, c5, nI_pred, c6, ti_tn, e0, e1, e2, ea, eb]
    refine ⟨fun _ => ⟨hv, hv, hv, sm_lays hT8 ha hb ?_⟩, fun z => absurd ((neq (b := 0) (by omega) (by omega)).mp z) (by omega)⟩
    have h35 : ∀ (J : m_I) c v, c ≠ 12 → c ≠ 13 → ui J (mk a) 0 (mj a b) v 35 0 c = J 35 0 c := fun J c v q1 q2 => uj_ne (fun z => by
      rcases (mk_ne (t := b) ha).2.2.2.2.2.2.1 z.1.symm with q | q <;> omega)
    rw [h35 _ 14 _ (by decide) (by decide), ui_j (by decide), ui_same]
    refine ⟨rfl, h _ m kp ?_ ?_ (fun g hg1 hg2 => fun x y c e => ?_)⟩
    · refine gF_upd hF ha hb hl1 ?_ (ui_same _ _ _ _ _) (fun x y c hg n1 n2 => ?_)
      · rw [ui_k (by omega), ui_k (by decide), ui_k (by decide), ui_same]
      · obtain ⟨p1, p2, p3, p4⟩ := gp2_no (a := x) (c := c) (by rw [hg]; decide)
        rw [uj_ne n2, uj_ne (fun z => p4 ⟨z.1, Or.inr z.2.2⟩), uj_ne (fun z => p4 ⟨z.1, Or.inl z.2.2⟩), uj_ne n1, ui_k p1]
    · refine gC_upd hC (by omega) ?_ ?_ ?_ ?_ (fun x c hx => ?_)
      · rw [ui_k (by omega), ui_k (by decide), ui_k (by decide), ui_k (by decide), ui_same]
      · rw [ui_k (by omega), ui_k (by decide), ui_k (by decide), ui_k (by decide), ui_j (by decide)]
      · rw [h35 _ 14 _ (by decide) (by decide), ui_j (by decide), ui_same]
      · rw [h35 _ 15 _ (by decide) (by decide), ui_same, nI_s]
        congr 1; omega
      · rw [ui_k (by omega), ui_k (by omega), ui_k (by omega), ui_k (by omega), ui_k (by omega)]
    · obtain ⟨p1, p2, p3, p4⟩ := gp2_no (a := x) (c := c) (by rw [e]; exact hg2)
      have p5 : x ≠ 3 := fun z => by subst z; exact hg1 e.symm
      rw [uj_ne (mk_gp ha hg1 e), uj_ne (fun z => p4 ⟨z.1, Or.inr z.2.2⟩), uj_ne (fun z => p4 ⟨z.1, Or.inl z.2.2⟩), ui_k p5, ui_k p1]
theorem jn_redo {P : bt_PT} {d : Nat} {G : m_I → m_L → Prop} {I : m_I} {L : m_L} {T dn kp : Nat} {nb : Nat → Nat} (hF : gF I T nb) (hC : gC I T dn kp) (h : ∀ I' dn' kp', gF I' T nb → gC I' T dn' kp' → (∀ g, g ≠ 1 → g ≠ 2 → Qg g I I') → G I' L) :
    bt_WP P (d + 6) mi_B_redo [vr 0 0] (I, L) (kI fun x I1 L1 => bt_WP P (d + 6) mi_M_redo [vr 35 0] (I1, L1) (kI fun y I2 L2 => x = y ∧ G I2 L2)) := by
  have hr : G I L := h I dn kp hF hC (fun _ _ _ => Qg_rf)
  have hC' := hC
  obtain ⟨c1, c2, c3, c4, c5, c6, c7⟩ := hC'
  have hT8 := hF.1.2.1
  refine ru_B_redo (ru_Ch_repeat ?_)
  rw [c3, c4]
  rcases Nat.lt_or_ge dn kp with q | q
  · obtain ⟨e0, e1, e2, e3, a, b, ea, eb, ha, hb, hl1, hl2⟩ := c7 dn q
    have h24 := slN_le (w := a) hT8
    have k35 := mk_lt ha
    have hv : vp_in (nI dn) 40 := ti_in (by omega) (by omega)
    have l40 : nI dn < 40 ↔ dn < 40 := nlt (b := 40) (by omega) (by omega)
    refine ⟨fun z => absurd ((nle (by omega) (by omega)).mp z) (by omega), fun _ => ⟨fun _ => ⟨hv, hv, hv, ?_⟩, fun z => absurd (l40.mpr (by omega)) z⟩⟩
    rw [ti_tn (by omega), ea, eb]
    refine sp_set hF.1.1 hT8 ha hb ?_
    simp (disch := first | decide | omega) only [ui_k, ui_j, ui_same, c3, c4, nI_s]
    refine ru_M_redo ?_
    simp (disch := first | decide | omega) only [ui_k, ui_j, ui_same, c5, c6, ti_tn, e0, e1, e3, ea, eb]
    refine ⟨fun _ => ⟨hv, hv, hv, sm_lays hT8 ha hb ?_⟩, fun z => absurd ((neq (b := 0) (by omega) (by omega)).mp z) (by omega)⟩
    have h35 : ∀ (J : m_I) c v, c ≠ 12 → c ≠ 13 → ui J (mk a) 0 (mj a b) v 35 0 c = J 35 0 c := fun J c v q1 q2 => uj_ne (fun z => by
      rcases (mk_ne (t := b) ha).2.2.2.2.2.2.1 z.1.symm with q | q <;> omega)
    have u14 : ∀ v, (ui (ui (ui I 3 a b (I 23 0 dn)) 19 0 4 (nI (dn + 1))) (mk a) 0 (mj a b) v) 35 0 14 = nI dn := fun v => by
      rw [h35 _ 14 _ (by decide) (by decide), ui_k (by decide), ui_k (by decide)]; exact c5
    have u15 : ∀ v, (ui (ui (ui I 3 a b (I 23 0 dn)) 19 0 4 (nI (dn + 1))) (mk a) 0 (mj a b) v) 35 0 15 = nI (kp - dn) := fun v => by
      rw [h35 _ 15 _ (by decide) (by decide), ui_k (by decide), ui_k (by decide)]; exact c6
    rw [u14, u15, nI_s]
    have esub : nI (kp - dn) - 1 = nI (kp - (dn + 1)) := by
      rw [show kp - dn = (kp - (dn + 1)) + 1 from by omega, nI_pred]
    have esub2 : nI kp - nI (dn + 1) = nI (kp - (dn + 1)) := pk_sub (by omega)
    rw [esub, esub2]
    refine ⟨rfl, h _ (dn + 1) kp ?_ ?_ (fun g hg1 hg2 => fun x y c e => ?_)⟩
    · refine gF_upd hF ha hb hl2 ?_ ?_ (fun x y c hg n1 n2 => ?_)
      · rw [ui_k (by decide), ui_k (by decide), ui_k (by omega), ui_k (by decide), ui_same]
      · rw [uj_ne (fun z => ?_), uj_ne (fun z => ?_), ui_same]
        · rcases (mk_ne (t := b) ha).2.2.2.2.2.2.1 z.1 with q | q <;> omega
        · rcases (mk_ne (t := b) ha).2.2.2.2.2.2.1 z.1 with q | q <;> omega
      · obtain ⟨p1, p2, p3, p4⟩ := gp2_no (a := x) (c := c) (by rw [hg]; decide)
        rw [uj_ne (fun z => p4 ⟨z.1, Or.inr z.2.2⟩), uj_ne (fun z => p4 ⟨z.1, Or.inl z.2.2⟩), uj_ne n2, ui_k p1, uj_ne n1]
    · refine gC_upd hC (by omega) ?_ ?_ ?_ ?_ (fun x c hx => ?_)
      · rw [ui_k (by decide), ui_k (by decide), ui_k (by omega), ui_same]
      · rw [ui_k (by decide), ui_k (by decide), ui_k (by omega), ui_j (by decide), ui_k (by decide)]
      · rw [ui_j (by decide), ui_same]
      · rw [ui_same]
      · rw [ui_k (by omega), ui_k (by omega), ui_k (by omega), ui_k (by omega), ui_k (by omega)]
    · obtain ⟨p1, p2, p3, p4⟩ := gp2_no (a := x) (c := c) (by rw [e]; exact hg2)
      have p5 : x ≠ 3 := fun z => by subst z; exact hg1 e.symm
      rw [uj_ne (fun z => p4 ⟨z.1, Or.inr z.2.2⟩), uj_ne (fun z => p4 ⟨z.1, Or.inl z.2.2⟩), uj_ne (mk_gp ha hg1 e), ui_k p1, ui_k p5]
  · refine ⟨fun _ => ru_M_redo ?_, fun z => absurd ((nle (by omega) (by omega)).mpr q) z⟩
    rw [c6, show kp - dn = 0 from by omega]
    exact ⟨fun z => absurd rfl z, fun _ => ⟨rfl, hr⟩⟩
