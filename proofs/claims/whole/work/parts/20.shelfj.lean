/-! SHELVES, joint: keep, row, put, element, shift, taken -/
theorem gS1_eq {I I' : m_I} {L L' : m_L} {bn s z : Nat} {x : sH} (h : gS1 I L bn s x z) (e1 : ∀ j, I' 33 s j = I 33 s j) (e2 : I' 66 0 s = I 66 0 s) (e3 : I' 67 0 s = I 67 0 s) (e4 : ∀ j, j < 60 → L' 34 s j = L 34 s j) (e5 : ∀ j, j < 60 → L' 68 0 (60 * s + j) = L 68 0 (60 * s + j)) : gS1 I' L' bn s x z := by
  obtain ⟨h1, h2, h3, h4, h5, h6, h7⟩ := h
  refine ⟨h1, by rw [e1]; exact h2, by rw [e1]; exact h3, by rw [e1]; exact h4, by rw [e2]; exact h5, fun k hk => ?_, h7⟩
  obtain ⟨g1, g2, g3, g4⟩ := h6 k hk
  exact ⟨g1, by rw [e3]; exact g2, fun j hj => by rw [e4 j hj, e5 j hj]; exact g3 j hj, fun e j hj => by rw [e4 j hj]; exact g4 e j hj⟩
theorem gS1_ho {I : m_I} {L : m_L} {bn s z : Nat} {x : sH} (h : gS1 I L bn s x z) (hb : bn ≤ 50) : hoI x = -1 ↔ x = none := ho_e hb (fun k e => (h.2.2.2.2.2.1 k e).1) h.2.2.2.2.2.2
theorem gS1_hr {I : m_I} {L : m_L} {bn s z : Nat} {x : sH} (h : gS1 I L bn s x z) (hb : bn ≤ 50) (hx : ¬ x = none) : hoI x < 0 ↔ rowH x := ho_r hb (fun k e => (h.2.2.2.2.2.1 k e).1) h.2.2.2.2.2.2 hx
theorem bcase (b : Int32) {bn : Nat} (h : bn ≤ 50) : b < -1 ∨ b = -1 ∨ (∃ j, j < bn ∧ b = nI j) ∨ nI bn ≤ b := by
  rcases ix b bn (by omega) with (q | q) | q
  · by_cases e : b = -1
    · exact Or.inr (Or.inl e)
    · left; rw [ti_eq, i_m1] at e; rw [ti_lt, i_0] at q; rw [ti_lt, i_m1]; omega
  · exact Or.inr (Or.inr (Or.inr q))
  · exact Or.inr (Or.inr (Or.inl q))
theorem sm_isBody {P : bt_PT} {d : Nat} {f : Int32 → m_I → m_L → Prop} {I : m_I} {L : m_L} {bn : Nat} {b : Int32} (hb : I 35 0 45 = nI bn) (h50 : bn ≤ 50) (h : f (bP (¬ oob b bn)) I L) : bt_WP P (d + 2) mi_M_isBody [vr 35 0, vi b] (I, L) (kI f) := by
  refine ru_M_isBody (sm_in ⟨bP_01 _, ?_⟩)
  rw [hb, bP_c (in_oobT (by omega))]
  exact h
theorem jn_keep {P : bt_PT} {d : Nat} {G : m_I → m_L → Prop} {I : m_I} {L : m_L} {bn rn : Nat} {s b : Int32} (hS : gS I L bn) (hB : gB I bn rn) (h : ∀ I' L', gS I' L' bn → (∀ g, g ≠ 5 → Qg g I I') → G I' L') :
    bt_WP P (d + 6) mi_B_keep [vr 0 0, vi s, vi b] (I, L) (kI fun x I1 L1 => bt_WP P (d + 6) mi_M_keep [vr 35 0, vi s, vi b] (I1, L1) (kI fun y I2 L2 => x = y ∧ G I2 L2)) := by
  have hr : G I L := h I L hS (fun _ _ => Qg_rf)
  have h50 := hB.1
  rcases ix s 6 (by omega) with hs | ⟨j, hj, rfl⟩
  · refine ru_B_keep (sp_sAo hs (ru_B_keep_5 ⟨fun _ => ?_, (fun z => absurd rfl z)⟩))
    exact ru_M_keep (sm_isShelf (bP_br (fun _ => ⟨rfl, hr⟩) (fun z => absurd hs z)))
  · have hmb : ∀ (A : Prop) (Q : Int32 → m_I → m_L → Prop) (I1 : m_I) (L1 : m_L), I1 35 0 45 = nI bn → (¬ oob b bn → Q 1 I1 L1) → (oob b bn → Q 0 I1 L1) → bt_WP P (d + 5) mi_M_isBody [vr 35 0, vi b] (I1, L1) (kI Q) := fun _ Q I1 L1 e q1 q0 => sm_isBody e h50 (by
      by_cases q : oob b bn
      · rw [bP_f (fun z => z q)]; exact q0 q
      · rw [bP_t q]; exact q1 q)
    have hbad : oob b bn → ¬ b = -1 → bt_WP P (d + 6) mi_M_keep [vr 35 0, vi (nI j), vi b] (I, L) (kI fun y I2 L2 => (-1) = y ∧ G I2 L2) := fun q1 q2 => by
      refine ru_M_keep (sm_isShelf ?_)
      rw [bP_t (n_oob hj (by omega))]
      refine ⟨(fun z => absurd z (by decide)), fun _ => ⟨fun e => absurd e q2, fun _ => hmb True _ _ _ hB.2.2.1 (fun z => absurd q1 z) (fun _ => ⟨fun e => absurd rfl e, fun _ => ⟨rfl, hr⟩⟩)⟩⟩
    have hok : ∀ x : sH, hbI x = b → rsI x = -1 → hoI x = b → (∀ k, ¬ x = some (.inr k)) → (∀ n, x = some (.inl n) → n < bn) → G (ui (ui (ui (ui I 33 j 1 b) 33 j 2 (-1)) 33 j 3 0) 66 0 j b) L := fun x e1 e2 e3 e4 e5 => by
      refine h _ _ (fun s' hs' => ?_) (fun g hg => Qg_ui (Qg_ui (Qg_ui (Qg_ui Qg_rf (Ne.symm hg)) (Ne.symm hg)) (Ne.symm hg)) (Ne.symm hg))
      by_cases es : s' = j
      · subst es
        refine ⟨x, 0, by omega, ?_, ?_, ?_, ?_, fun k hk => absurd hk (e4 k), e5⟩
        · rw [ui_k (by decide), ui_j (by decide), ui_j (by decide), ui_same, e1]
        · rw [ui_k (by decide), ui_j (by decide), ui_same, e2]
        · rw [ui_k (by decide), ui_same]; rfl
        · rw [ui_same, e3]
      · obtain ⟨x', z', h'⟩ := hS s' hs'
        refine ⟨x', z', gS1_eq h' (fun i => ?_) ?_ ?_ (fun _ _ => rfl) (fun _ _ => rfl)⟩
        · rw [ui_k (by decide), ui_i es, ui_i es, ui_i es]
        · rw [ui_j es, ui_k (by decide), ui_k (by decide), ui_k (by decide)]
        · rw [ui_k (by decide), ui_k (by decide), ui_k (by decide), ui_k (by decide)]
    have h45 : ∀ (v1 v2 v3 : Int32), (ui (ui (ui I 33 j 1 v1) 33 j 2 v2) 33 j 3 v3) 35 0 45 = nI bn := fun v1 v2 v3 => by
      rw [ui_k (by decide), ui_k (by decide), ui_k (by decide)]; exact hB.2.2.1
    refine ru_B_keep (sp_sA hj (ru_B_keep_5_b ⟨(fun z => by cases z), fun _ => ?_⟩))
    rcases bcase b h50 with q | q | ⟨n, hn, rfl⟩ | q
    · refine ⟨fun _ => hbad (Or.inl ?_) ?_, fun z => absurd q z⟩
      · rw [ti_lt, i_m1] at q; rw [ti_lt, i_0]; omega
      · intro e; subst e; exact absurd q (by decide)
    · subst q
      refine ⟨fun z => absurd z (by decide), fun _ => ru_Bo_size ?_⟩
      rw [hB.2.1]
      refine ⟨fun _ => ru_Sh_holdBody ?_, fun z => absurd (show (-1 : Int32) < nI bn from by rw [ti_lt, i_m1, ti_nI (by omega)]; omega) z⟩
      refine ru_M_keep (sm_isShelf ?_)
      rw [bP_t (n_oob hj (by omega))]
      refine ⟨(fun z => absurd z (by decide)), fun _ => ⟨fun _ => ⟨ti_in hj (by omega), rfl, ?_⟩, fun e => absurd rfl e⟩⟩
      rw [ti_tn (by omega)]
      exact hok none rfl rfl rfl (fun k e => by cases e) (fun n e => by cases e)
    · refine ⟨fun z => absurd z (by rw [ti_lt, i_m1, ti_nI (by omega)]; omega), fun _ => ru_Bo_size ?_⟩
      rw [hB.2.1]
      refine ⟨fun _ => ru_Sh_holdBody ?_, fun z => absurd ((nlt (by omega) (by omega)).mpr hn) z⟩
      refine ru_M_keep (sm_isShelf ?_)
      rw [bP_t (n_oob hj (by omega))]
      refine ⟨(fun z => absurd z (by decide)), fun _ => ⟨fun e => absurd e (i_ne1 (by omega)), fun _ => hmb True _ _ _ (h45 _ _ _) (fun _ => ⟨fun _ => ⟨ti_in hj (by omega), rfl, ?_⟩, (fun z => absurd z (by decide))⟩) (fun z => absurd z (n_oob hn (by omega)))⟩⟩
      rw [ti_tn (by omega)]
      exact hok (some (.inl n)) rfl rfl rfl (fun k e => by cases e) (fun m e => by cases e; exact hn)
    · have hq : (bn : Int) ≤ b.toInt := by rw [ti_le, ti_nI (by omega)] at q; exact q
      refine ⟨fun z => absurd z (by rw [ti_lt, i_m1]; omega), fun _ => ru_Bo_size ?_⟩
      rw [hB.2.1]
      refine ⟨fun z => absurd z (Int32.not_lt.mpr q), fun _ => hbad (Or.inr q) ?_⟩
      intro e; subst e; rw [i_m1] at hq; omega
