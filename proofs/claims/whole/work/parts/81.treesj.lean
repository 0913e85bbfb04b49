/-! trees: joint, both at one depth -/
theorem jn_treesE {P : bt_PT} {d : Nat} {G : m_I → m_L → Prop} {I : m_I} {L : m_L} {T bn : Nat} {nb : Nat → Nat} {s i n : Int32} (hF : gF I T nb) (hS : gS I L bn) (hb : bn ≤ 50) (h0 : G I L) (h : ∀ c I', T + c ≤ 8 → gF I' (T + c) nb → (∀ g, g ≠ 1 → Qg g I I') → G I' L) :
    bt_WP P (d + 7) mi_B_trees [vr 0 0, vi s, vi i, vi n] (I, L) (kI fun x I1 L1 => bt_WP P (d + 7) mi_M_trees [vr 35 0, vi s, vi i, vi n] (I1, L1) (kI fun y I2 L2 => x = y ∧ G I2 L2)) := by
  have hT8 := hF.1.2.1
  have hcT := hF.1.1
  have hmT := hF.2.1.1
  rcases ix s 6 (by omega) with hs | ⟨s, hs, rfl⟩
  · have hm : bt_WP P (d + 7) mi_M_trees [vr 35 0, vi s, vi i, vi n] (I, L) (kI fun y I2 L2 => (-1) = y ∧ G I2 L2) := ru_M_trees (sm_isShelf (by rw [bP_f (fun z => z hs)]; exact ⟨fun _ => ⟨rfl, h0⟩, (fun z => absurd rfl z)⟩))
    exact ru_B_trees (sp_sAo hs (ru_B_trees_5 ⟨fun _ => hm, (fun z => absurd rfl z)⟩))
  · obtain ⟨x, z, hx⟩ := hS s hs
    have hm : ∀ (Q : Int32 → m_I → m_L → Prop) (I1 : m_I), I1 66 0 s = hoI x → (¬ (1 ≤ n ∧ n ≤ 8) → Q (-1) I1 L) → ((1 ≤ n ∧ n ≤ 8) → (hoI x = -1 → Q 0 I1 L) ∧ (¬ hoI x = -1 → ¬ hoI x = -2 → Q (-12) I1 L) ∧ (hoI x = -2 → bt_Go P (d + 6) mi_M_trees (kI Q) 58 [some (vr 35 0), some (vi (nI s)), some (vi i), some (vi n), some (vi 0), none, none, none] [] (I1, L))) → bt_WP P (d + 7) mi_M_trees [vr 35 0, vi (nI s), vi i, vi n] (I1, L) (kI Q) := fun Q I1 e66 c1 c2 => by
      have ts : tn (nI s) = s := ti_tn (by omega)
      have vs : vp_in (nI s) 6 := ti_in hs (by omega)
      refine ru_M_trees (sm_isShelf ?_)
      rw [bP_t (n_oob hs (by omega))]
      refine ⟨(fun z => absurd z (by decide)), fun _ => sm_in (bP_br' (fun q => ⟨vs, ?_⟩) (fun q => c1 q))⟩
      rw [ts, e66]
      obtain ⟨a1, a2, a3⟩ := c2 q
      refine ⟨fun e => ⟨vs, fun w => absurd e w, fun _ => a1 e⟩, fun e => ⟨vs, fun e2 => ⟨vs, fun _ => a3 e2, fun w => absurd w e⟩, fun e2 => a2 e e2⟩⟩
    have i1 : (1 : Int32).toInt = 1 := rfl
    have i8 : (8 : Int32).toInt = 8 := rfl
    refine ru_B_trees (sp_sA hs (ru_B_trees_5_b ⟨(fun z => by cases z), fun _ => ⟨fun q1 => ?_, fun q1 => ⟨fun q2 => ?_, fun q2 => ?_⟩⟩⟩))
    · exact hm _ _ hx.2.2.2.2.1 (fun _ => ⟨rfl, h0⟩) (fun w => absurd w.1 (Int32.not_le.mpr q1))
    · obtain ⟨n, hn1, hn8, rfl⟩ : ∃ m : Nat, 1 ≤ m ∧ m ≤ 8 ∧ n = nI m := by
        rw [ti_lt, i1] at q1
        rw [ti_le, i8] at q2
        refine ⟨n.toInt.toNat, by omega, by omega, ?_⟩
        rw [ti_eq, ti_nI (by omega)]; omega
      have hin : (1 : Int32) ≤ nI n ∧ nI n ≤ 8 := ⟨Int32.not_lt.mp q1, q2⟩
      refine sp_isEmpty hx hb (bP_br (fun q3 => sp_isBytes hx (bP_br' (fun q4 => ?_) (fun q4 => ?_))) (fun q3 => ?_))
      · subst q4
        obtain ⟨-, mz, me, by1⟩ := hx.2.2.2.2.2.1 0 rfl
        have h60 := hx.1
        have hgo : ∀ (Q : Int32 → m_I → m_L → Prop) (I1 : m_I), I1 66 0 s = I 66 0 s → bt_Go P (d + 6) mi_M_trees (kI Q) 58 [some (vr 35 0), some (vi (nI s)), some (vi i), some (vi (nI n)), some (vi 0), none, none, none] [] (I1, L) → bt_WP P (d + 7) mi_M_trees [vr 35 0, vi (nI s), vi i, vi (nI n)] (I1, L) (kI Q) := fun Q I1 e hg => hm Q I1 (e.trans hx.2.2.2.2.1) (fun w => absurd hin w) (fun _ => ⟨fun w => absurd w (by decide), fun _ w => absurd rfl w, fun _ => hg⟩)
        have n8 : ¬ nI n ≤ 0 := fun w => by have := (nle (b := 0) (by omega) (by omega)).mp w; omega
        -- a place below 0, or so high that the sum may wrap
        have hbad : (i < 0 ∨ nI 2147480000 ≤ i) → bt_Go P (d + 6) mi_B_trees (kI fun x I1 L1 => bt_WP P (d + 7) mi_M_trees [vr 35 0, vi (nI s), vi i, vi (nI n)] (I1, L1) (kI fun y I2 L2 => x = y ∧ G I2 L2)) 49 [some (vr 0 0), none, some (vi i), some (vi (nI n)), some (vr 33 s), some (vi 0)] [] (I, L) := fun hi => by
          have t3 : (3 : Int32).toInt = 3 := rfl
          have hp : ¬ plN z i 3 := fun w => by
            obtain ⟨w1, w2, w3⟩ := w
            rcases hi with q | q
            · rw [ti_lt, i_0] at q; omega
            · rw [ti_le, ti_nI (by omega)] at q; omega
          refine ru_B_trees_49 ⟨fun w => absurd w n8, fun _ => ru_B_plantFrom (sp_hasPlaces hx.2.2.2.1 h60 (bP_br' (fun w => absurd w hp) (fun _ => ⟨z01, fun _ => ?_, (fun z => absurd rfl z)⟩)))⟩
          refine hgo _ _ rfl (ru_M_trees_58 ⟨fun w => absurd w n8, fun _ => ?_⟩)
          have e0 : i.toInt64 + (3 * (0 : Int32)).toInt64 = i.toInt64 := by
            rw [show (3 * (0 : Int32)).toInt64 = 0 from by decide, Int64.add_zero]
          rw [e0]
          have ei := Int32.toInt_toInt64 i
          rcases hi with q | q
          · have hneg : lg_cmp i.toInt64 0 < 0 := by
              rw [ti_lt, i_0] at q
              have l1 : ¬ i.toInt64 > 0 := fun w => by
                have := Int64.lt_iff_toInt_lt.mp w
                rw [ei, show (0 : Int64).toInt = 0 from rfl] at this; omega
              have l2 : ¬ i.toInt64 = 0 := fun w => by rw [w] at ei; rw [show (0 : Int64).toInt = 0 from rfl] at ei; omega
              unfold lg_cmp; rw [if_neg l1, if_neg l2]; decide
            exact ⟨fun _ => ⟨rfl, h0⟩, fun w => absurd hneg w⟩
          · obtain ⟨m, hm1, rfl⟩ := nI_of (x := i) (fun w => by rw [ti_le, ti_nI (by omega)] at q; rw [ti_lt, i_0] at w; omega)
            have hm2 : 2147480000 ≤ m := (nle (by omega) hm1).mp q
            rw [nI_l hm1, ti_tn (by omega), mz, nI_l (by omega : z < 2147483648)]
            refine ⟨fun w => absurd ((lg_n (b := 0) hm1 (by omega)).2.mp w) (by omega), fun _ => ⟨ti_in hs (by omega), fun _ => ⟨rfl, h0⟩, fun w => absurd ?_ w⟩⟩
            have e2 : (lN m + 2).toInt = (m : Int) + 2 := by
              rw [show lN m + 2 = lN (m + 2) from lN_add _ 2]; exact lg_ofNat_toInt (by omega)
            have gt : lN m + 2 > lN z := by
              apply Int64.lt_iff_toInt_lt.mpr
              rw [e2, lN_toInt (by omega)]; omega
            unfold lg_cmp; rw [if_pos gt]; decide
        by_cases hi : i < 0 ∨ nI 2147480000 ≤ i
        · exact hbad hi
        · obtain ⟨i, hi1, rfl⟩ := nI_of (x := i) (fun w => hi (Or.inl w))
          have hi2 : i < 2147480000 := by
            rcases Nat.lt_or_ge i 2147480000 with q | q
            · exact q
            · exact absurd (Or.inr ((nle (by omega) hi1).mpr q)) hi
          refine sp_treesL (val := fun r j => (L 34 s (i + 3 * j + r)).toInt32) hx.2.2.2.1 h60 hi1 hT8 hn8 (fun _ _ _ _ => rfl) (fun c I1 hc g1 g2 p1 => ?_) n 0 I (by omega) (fun j hj => by omega) (plC_0 hcT)
          refine hgo _ _ (p1.2.2 66 0 s (by omega) (by omega)) ?_
          have hm1 : I1 35 0 1 = nI T := by rw [p1.2.2 35 0 1 (by omega) (by omega)]; exact hmT
          refine sm_treesL (I0 := I1) (z := z) (T := T) (n := n) (val := fun r j => (L 34 s (i + 3 * j + r)).toInt32) hs (by rw [p1.2.2 67 0 s (by omega) (by omega)]; exact mz) h60 (by omega) hT8 hn8 (fun r j hr hj => by rw [me _ hj]) (fun c' I2 hc' g1' g2' p2 => ?_) n 0 I1 (by omega) (fun j hj => by omega) (plM_0 hm1)
          have ec : c' = c := by
            rcases Nat.lt_trichotomy c' c with q | q | q
            · exact absurd (g1 c' q) g2'
            · exact q
            · exact absurd (g1' c q) g2
          subst ec
          have hTc : T + c' ≤ 8 := by
            rcases Nat.eq_zero_or_pos c' with q | q
            · omega
            · have := (g1 (c' - 1) (by omega)).2.2.1; omega
          exact ⟨rfl, h c' I2 hTc (gF_plant hF p1 p2 hTc (fun j hj => ⟨(g1 j hj).2.2.2.1, (g1 j hj).2.2.2.2.1, (g1 j hj).2.2.2.2.2⟩)) (Qg_plant p1 p2)⟩
      · refine hm _ _ hx.2.2.2.2.1 (fun w => absurd hin w) (fun _ => ⟨fun e => absurd ((gS1_ho hx hb).mp e) q3, fun _ _ => ⟨rfl, h0⟩, fun e => absurd ?_ q4⟩)
        rcases x with _ | b | k
        · exact absurd e (by decide)
        · have := hx.2.2.2.2.2.2 b rfl
          have e' : nI b = -2 := e
          exact absurd (show nI b < 0 from by rw [e']; decide) (n_neg (by omega))
        · have hk := (hx.2.2.2.2.2.1 k rfl).1
          have := (ho_in k 0 hk (by omega)).mp (e.trans (by decide))
          rw [this]
      · exact hm _ _ hx.2.2.2.2.1 (fun w => absurd hin w) (fun _ => ⟨fun _ => ⟨rfl, h0⟩, fun e => absurd ((gS1_ho hx hb).mpr q3) e, fun e => absurd (((gS1_ho hx hb).mpr q3).symm.trans e) (by decide)⟩)
    · exact hm _ _ hx.2.2.2.2.1 (fun _ => ⟨rfl, h0⟩) (fun w => absurd w.2 q2)

