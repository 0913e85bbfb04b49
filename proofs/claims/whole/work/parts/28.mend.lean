/-! mend, undo, redo: joint -/
theorem mk_lt {k : Nat} (hk : k < 8) : 35 ≤ mk k ∧ mk k < 44 := by
  rcases k_8 hk with rfl | rfl | rfl | rfl | rfl | rfl | rfl | rfl <;> decide
theorem gp2_no {a c : Nat} (h : gp a c ≠ 2) : a ≠ 19 ∧ ¬ (20 ≤ a ∧ a ≤ 23) ∧ ¬ (44 ≤ a ∧ a ≤ 47) ∧ ¬ (a = 35 ∧ (c = 14 ∨ c = 15)) := by
  refine ⟨fun e => ?_, fun e => ?_, fun e => ?_, fun e => ?_⟩
  · subst e; exact h rfl
  · have : a = 20 ∨ a = 21 ∨ a = 22 ∨ a = 23 := by omega
    rcases this with rfl | rfl | rfl | rfl <;> exact h rfl
  · have : a = 44 ∨ a = 45 ∨ a = 46 ∨ a = 47 := by omega
    rcases this with rfl | rfl | rfl | rfl <;> exact h rfl
  · obtain ⟨rfl, rfl | rfl⟩ := e <;> exact h rfl
theorem jn_mend {P : bt_PT} {d : Nat} {G : m_I → m_L → Prop} {I : m_I} {L : m_L} {T dn kp : Nat} {nb : Nat → Nat} {n w v : Int32} (hF : gF I T nb) (hC : gC I T dn kp) (h : ∀ I' dn' kp', gF I' T nb → gC I' T dn' kp' → (∀ g, g ≠ 1 → g ≠ 2 → Qg g I I') → G I' L) :
    bt_WP P (d + 6) mi_B_mend [vr 0 0, vi n, vi w, vi v] (I, L) (kI fun x I1 L1 => bt_WP P (d + 6) mi_M_mend [vr 35 0, vi n, vi w, vi v] (I1, L1) (kI fun y I2 L2 => x = y ∧ G I2 L2)) := by
  have hr : G I L := h I dn kp hF hC (fun _ _ _ => Qg_rf)
  have hcT := hF.1.1
  have hmT := hF.2.1.1
  have hT8 := hF.1.2.1
  rcases ix w 8 (by omega) with hw | ⟨w, hw, rfl⟩
  · refine ru_B_mend (sp_isSlot_out hw ⟨fun _ => ?_, (fun z => absurd rfl z)⟩)
    exact ru_M_mend (sm_isThing_out hmT hT8 hw ⟨fun _ => ⟨rfl, hr⟩, (fun z => absurd rfl z)⟩)
  · refine ru_B_mend (sp_isSlot hcT hw (bP_br (fun q => ?_) (fun q1 => sp_mayBe hw ?_)))
    · refine ru_M_mend (sm_isThing hmT hT8 hw ?_)
      rw [bP_f q]; exact ⟨fun _ => ⟨rfl, hr⟩, (fun z => absurd rfl z)⟩
    · have h24 := slN_le (w := w) hT8
      obtain ⟨t, ht, rfl⟩ := in_of (x := n) (n := slN T w) (by omega) (fun z => q1 (oobL z)) (fun z => q1 (oobR z))
      have hm : ∀ (I1 : m_I) (Q : Int32 → m_I → m_L → Prop), I1 35 0 1 = nI T → (oob v (mxN w) → Q (-1) I1 L) → (¬ oob v (mxN w) → bt_WP P (d + 5) mi_M_changes [vr 35 0, vi (nI w), vi (nI t), vi v] (I1, L) (kI Q)) → bt_WP P (d + 6) mi_M_mend [vr 35 0, vi (nI t), vi (nI w), vi v] (I1, L) (kI Q) := fun I1 Q e1 q0 q2 => by
        refine ru_M_mend (sm_isThing e1 hT8 hw ?_)
        rw [bP_t q1]
        refine ⟨(fun z => absurd z (by decide)), fun _ => ?_⟩
        have e3 : nI w = 3 ↔ w = 3 := neq (b := 3) (by omega) (by omega)
        have e7 : nI w = 7 ↔ w = 7 := neq (b := 7) (by omega) (by omega)
        have fin : ∀ mx : Nat, mxN w = mx → 0 < mx → mx < 100 → bt_WP P (d + 5) mi_M_in [vi v, vi 0, vi (nI (mx - 1))] (I1, L) (kI fun x6 I4 N5 => (x6 = 0 → Q (-1) I4 N5) ∧ (¬ x6 = 0 → bt_WP P (d + 5) mi_M_changes [vr 35 0, vi (nI w), vi (nI t), vi v] (I4, N5) (kI fun x9 I7 N8 => Q x9 I7 N8))) := fun mx e hp hl => by
          refine sm_in ?_
          rw [bP_c (in_oob (by omega) hp)]
          refine bP_br (fun z => q0 (by rw [e]; exact Classical.byContradiction z)) (fun z => q2 (by rw [e]; exact z))
        by_cases c3 : w = 3
        · exact ⟨fun z => absurd (e3.mpr c3) z, fun _ => fin 2 (by subst c3; rfl) (by omega) (by omega)⟩
        · refine ⟨fun _ => ?_, fun z => absurd (e3.mp z) c3⟩
          by_cases c7 : w = 7
          · exact ⟨fun z => absurd (e7.mpr c7) z, fun _ => fin 8 (by subst c7; rfl) (by omega) (by omega)⟩
          · exact ⟨fun _ => fin 10 (by unfold mxN; rw [if_neg c3, if_neg c7]) (by omega) (by omega), fun z => absurd (e7.mp z) c7⟩
      refine bP_br' (fun q2 => ?_) (fun q => hm _ _ hmT (fun _ => ⟨rfl, hr⟩) (fun z => absurd z q))
      have hmx : mxN w < 100 := by unfold mxN; split <;> (try split) <;> omega
      have hv : lt' v (mxN w) := by
        obtain ⟨m, hm1, hm2⟩ := in_of (x := v) (n := mxN w) (by omega) (fun z => q2 (oobL z)) (fun z => q2 (oobR z))
        exact ⟨m, hm1, hm2⟩
      obtain ⟨hmv, hlt⟩ := hF.2.2.2.1 w t hw ht
      obtain ⟨c1, c2, c3, c4, c5, c6, c7⟩ := hC
      refine sp_get hcT hT8 hw ht ⟨fun q => ?_, fun q => ?_⟩
      · exact hm _ _ hmT (fun z => absurd z q2) (fun _ => sm_changes hT8 hw ht c5 (by omega) (fun z => ⟨by rw [q], hr⟩) (fun z => absurd (hmv.trans q) z))
      · refine sp_set hcT hT8 hw ht (sp_add (dn := dn) (by rw [ui_k (by decide)]; exact c3) (by omega) (fun I2 e s he hes hs1 hs2 g1 g2 g3 g4 => ?_))
        have k35 := (mk_lt hw).1
        have k44 := (mk_lt hw).2
        have u2 : ∀ a b c, a ≠ 3 → a ≠ 19 → ¬ (20 ≤ a ∧ a ≤ 23) → I2 a b c = I a b c := fun a b c n3 n1 n2 => by rw [g4 a b c n1 n2, ui_k n3]
        have hmv2 : mv I2 w t = I 3 w t := by
          rw [mv_mk _ hw, u2 _ _ _ (by omega) (by omega) (by omega), ← mv_mk I hw]; exact hmv
        refine hm _ _ (by rw [u2 _ _ _ (by decide) (by decide) (by decide)]; exact hmT) (fun z => absurd z q2) (fun _ => sm_changes hT8 hw ht (dn := dn) (by rw [u2 _ _ _ (by decide) (by decide) (by decide)]; exact c5) (by omega) (fun z => absurd (hmv2.symm.trans z) q) (fun _ I3 e' s' he' hes' hs1' hs2' m1 m2 m3 m4 => ?_))
        have ee : e' = e := by omega
        have es : s' = s := by omega
        subst ee; subst es
        rw [hmv2] at m1 ⊢
        refine ⟨rfl, h _ (e' + 1) (e' + 1) ?_ ?_ (fun g hg1 hg2 => ?_)⟩
        · refine gF_upd hF hw ht hv ?_ (ui_same _ _ _ _ _) (fun a b c hg n1 n2 => ?_)
          · rw [ui_k (by omega), m4 3 w t (by omega) (by omega), g4 3 w t (by omega) (by omega), ui_same]
          · obtain ⟨p1, p2, p3, p4⟩ := gp2_no (a := a) (c := c) (by rw [hg]; decide)
            have hne : ui I3 (mk w) 0 (mj w t) v a b c = I3 a b c := by
              unfold ui
              by_cases z1 : a = mk w
              · by_cases z2 : b = 0
                · by_cases z3 : c = mj w t
                  · exact absurd ⟨z1, z2, z3⟩ n2
                  · rw [if_pos z1, if_pos z2, if_neg z3]
                · rw [if_pos z1, if_neg z2]
              · rw [if_neg z1]
            rw [hne, m4 a b c p4 p3, g4 a b c p1 p2]
            unfold ui
            by_cases z1 : a = 3
            · by_cases z2 : b = w
              · by_cases z3 : c = t
                · exact absurd ⟨z1, z2, z3⟩ n1
                · rw [if_pos z1, if_pos z2, if_neg z3]
              · rw [if_pos z1, if_neg z2]
            · rw [if_neg z1]
        · have lo : ∀ a b c, a < 30 → ui I3 (mk w) 0 (mj w t) v a b c = I2 a b c := fun a b c ha => by rw [ui_k (by omega), m4 a b c (by omega) (by omega)]
          have hi : ∀ a b c, 44 ≤ a → ui I3 (mk w) 0 (mj w t) v a b c = I3 a b c := fun a b c ha => by rw [ui_k (by omega)]
          have h35 : ∀ c, (c = 14 ∨ c = 15) → ui I3 (mk w) 0 (mj w t) v 35 0 c = I3 35 0 c := fun c hc => by
            by_cases z : 35 = mk w
            · rw [ui_j (by rcases (mk_ne (t := t) hw).2.2.2.2.2.2.1 z.symm with q | q <;> omega)]
            · rw [ui_k z]
          refine ⟨Nat.le_refl _, by omega, ?_, ?_, ?_, ?_, fun k hk => ?_⟩
          · rw [lo _ _ _ (by decide)]; exact g2
          · rw [lo _ _ _ (by decide)]; exact g3
          · rw [h35 14 (Or.inl rfl)]; exact m2
          · rw [h35 15 (Or.inr rfl), m3, Nat.sub_self]; rfl
          · unfold gE
            rw [lo 20 _ _ (by decide), lo 21 _ _ (by decide), lo 22 _ _ (by decide), lo 23 _ _ (by decide), hi 44 _ _ (by decide), hi 45 _ _ (by decide), hi 46 _ _ (by decide), hi 47 _ _ (by decide)]
            by_cases ek : k = e'
            · subst ek
              obtain ⟨-, a1, a2, a3, a4⟩ := g1
              obtain ⟨-, b1, b2, b3, b4⟩ := m1
              rw [a1, a2, a3, a4, b1, b2, b3, b4]
              exact ⟨rfl, rfl, rfl, rfl, w, t, rfl, rfl, hw, ht, hlt, hv⟩
            · obtain ⟨a1, a2, a3, a4⟩ := g1.1 k (by omega)
              obtain ⟨b1, b2, b3, b4⟩ := m1.1 k (by omega)
              rw [a1, a2, a3, a4, b1, b2, b3, b4]
              have hh := c7 (k + s') (by omega)
              unfold gE at hh
              rw [ui_k (by decide), ui_k (by decide), ui_k (by decide), ui_k (by decide), u2 44 _ _ (by decide) (by decide) (by decide), u2 45 _ _ (by decide) (by decide) (by decide), u2 46 _ _ (by decide) (by decide) (by decide), u2 47 _ _ (by decide) (by decide) (by decide)]
              exact hh
        · intro a b c e
          obtain ⟨p1, p2, p3, p4⟩ := gp2_no (a := a) (c := c) (by rw [e]; exact hg2)
          have p5 : a ≠ 3 := fun z => by subst z; exact hg1 e.symm
          have p6 : ui I3 (mk w) 0 (mj w t) v a b c = I3 a b c := by
            unfold ui
            by_cases z1 : a = mk w
            · by_cases z2 : b = 0
              · by_cases z3 : c = mj w t
                · exact absurd (((mk_ne (t := t) hw).2.2.2.2.2.2.2).symm.trans ((by rw [z1, z3] : gp (mk w) (mj w t) = gp a c).trans e)) (Ne.symm hg1)
                · rw [if_pos z1, if_pos z2, if_neg z3]
              · rw [if_pos z1, if_neg z2]
            · rw [if_neg z1]
          rw [p6, m4 a b c p4 p3, g4 a b c p1 p2, ui_k p5]
