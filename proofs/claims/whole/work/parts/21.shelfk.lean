/-! SHELVES, joint: row, put, element -/
theorem sp_fillL {P : bt_PT} {d : Nat} {f : m_I → m_L → Prop} {I : m_I} {L : m_L} {j : Nat} (hj : j < 6) : ∀ (n i : Nat) (L1 : m_L), i + n = 60 → (∀ L', (∀ a b c, ¬ (a = 34 ∧ b = j) → L' a b c = L a b c) → (∀ c, c < 60 → L' 34 j c = 0) → f I L') → (∀ a b c, ¬ (a = 34 ∧ b = j) → L1 a b c = L a b c) → (∀ c, c < i → L1 34 j c = 0) → bt_Go P d mi_JA_fillL (kV f) 6 [some (vr 34 j), some (vl 0), none, some (vi (nI i)), some (vi 60)] [] (I, L1)
  | 0, i, L1, e, h, h1, h2 => by
    have e : i = 60 := by omega
    subst e
    exact ru_JA_fillL_6 ⟨fun _ => h L1 h1 h2, fun z => absurd ((nle (a := 60) (b := 60) (by omega) (by omega)).mpr (Nat.le_refl _)) z⟩
  | n + 1, i, L1, e, h, h1, h2 => by
    refine ru_JA_fillL_6 ⟨fun z => absurd ((nle (a := 60) (b := i) (by omega) (by omega)).mp z) (by omega), fun _ => ⟨ti_in (by omega) (by omega), ?_⟩⟩
    rw [ti_tn (by omega), nI_s]
    refine sp_fillL hj n (i + 1) _ (by omega) h (fun a b c hab => ?_) (fun c hc => ?_)
    · rw [show ul L1 34 j i 0 a b c = L1 a b c from by
        unfold ul; by_cases q1 : a = 34
        · by_cases q2 : b = j
          · exact absurd ⟨q1, q2⟩ hab
          · rw [if_pos q1, if_neg q2]
        · rw [if_neg q1]]
      exact h1 a b c hab
    · by_cases q : c = i
      · subst q; exact ul_same _ _ _ _ _
      · rw [show ul L1 34 j i 0 34 j c = L1 34 j c from by unfold ul; rw [if_pos rfl, if_pos rfl, if_neg q]]
        exact h2 c (by omega)
theorem ul_i {L : m_L} {k i j a b c : Nat} {v : Int64} (h : b ≠ i) : ul L k i j v a b c = L a b c := by
  unfold ul; by_cases h1 : a = k
  · rw [if_pos h1, if_neg h]
  · rw [if_neg h1]
theorem ul_j {L : m_L} {k i j a b c : Nat} {v : Int64} (h : c ≠ j) : ul L k i j v a b c = L a b c := by
  unfold ul; by_cases h1 : a = k
  · by_cases h2 : b = i
    · rw [if_pos h1, if_pos h2, if_neg h]
    · rw [if_pos h1, if_neg h2]
  · rw [if_neg h1]
theorem nI_mul60 {j : Nat} (hj : j < 6) : 60 * nI j = nI (60 * j) := by
  have : ∀ j, j < 6 → 60 * nI j = nI (60 * j) := by decide +kernel
  exact this j hj
/-- the reference's row laid with zeros -/
theorem sm_row {P : bt_PT} {d : Nat} {f : Int32 → m_I → m_L → Prop} {I : m_I} {L : m_L} {j : Nat} (hj : j < 6) : ∀ (n i : Nat) (L1 : m_L), i + n = 60 → (∀ L', (∀ a b c, ¬ (a = 68 ∧ b = 0 ∧ 60 * j ≤ c ∧ c < 60 * j + 60) → L' a b c = L a b c) → (∀ c, c < 60 → L' 68 0 (60 * j + c) = 0) → f 1 I L') → (∀ a b c, ¬ (a = 68 ∧ b = 0 ∧ 60 * j ≤ c ∧ c < 60 * j + 60) → L1 a b c = L a b c) → (∀ c, c < i → L1 68 0 (60 * j + c) = 0) → bt_Go P d mi_M_row (kI f) 54 [some (vr 35 0), some (vi (nI j)), none, none, some (vi (nI (60 * j + i)))] [] (I, L1)
  | 0, i, L1, e, h, h1, h2 => by
    have e : i = 60 := by omega
    subst e
    refine ru_M_row_54 ⟨fun _ => h L1 h1 h2, fun z => absurd ?_ z⟩
    rw [nI_mul60 hj, show (60 : Int32) = nI 60 from rfl, nI_add]; exact Int32.le_refl _
  | n + 1, i, L1, e, h, h1, h2 => by
    refine ru_M_row_54 ⟨fun z => ?_, fun _ => ⟨ti_in (by omega) (by omega), ?_⟩⟩
    · rw [nI_mul60 hj, show (60 : Int32) = nI 60 from rfl, nI_add, nle (by omega) (by omega)] at z; omega
    rw [ti_tn (by omega), nI_s, Nat.add_assoc]
    refine sm_row hj n (i + 1) _ (by omega) h (fun a b c hab => ?_) (fun c hc => ?_)
    · by_cases q : c = 60 * j + i
      · by_cases qb : b = 0
        · by_cases qa : a = 68
          · exact absurd ⟨qa, qb, by omega, by omega⟩ hab
          · rw [ul_k qa]; exact h1 a b c hab
        · rw [ul_i qb]; exact h1 a b c hab
      · rw [ul_j q]; exact h1 a b c hab
    · by_cases q : c = i
      · subst q; exact ul_same _ _ _ _ _
      · rw [ul_j (by omega)]; exact h2 c (by omega)
theorem jn_row {P : bt_PT} {d : Nat} {G : m_I → m_L → Prop} {I : m_I} {L : m_L} {bn : Nat} {s b n : Int32} (hS : gS I L bn) (h : ∀ I' L', gS I' L' bn → (∀ g, g ≠ 5 → Qg g I I') → G I' L') :
    bt_WP P (d + 6) mi_B_row [vr 0 0, vi s, vi b, vi n] (I, L) (kI fun x I1 L1 => bt_WP P (d + 6) mi_M_row [vr 35 0, vi s, vi b, vi n] (I1, L1) (kI fun y I2 L2 => x = y ∧ G I2 L2)) := by
  have hr : G I L := h I L hS (fun _ _ => Qg_rf)
  rcases ix s 6 (by omega) with hs | ⟨j, hj, rfl⟩
  · refine ru_B_row (sp_sAo hs (ru_B_row_5 ⟨fun _ => ?_, (fun z => absurd rfl z)⟩))
    exact ru_M_row (sm_isShelf (bP_br (fun _ => ⟨rfl, hr⟩) (fun z => absurd hs z)))
  · refine ru_B_row (sp_sA hj (ru_B_row_5_b ⟨(fun z => by cases z), fun _ => ?_⟩))
    have hb1 : oob b 5 → bt_WP P (d + 6) mi_M_row [vr 35 0, vi (nI j), vi b, vi n] (I, L) (kI fun y I2 L2 => (-1) = y ∧ G I2 L2) := fun q => by
      refine ru_M_row (sm_isShelf ?_)
      rw [bP_t (n_oob hj (by omega))]
      refine ⟨(fun z => absurd z (by decide)), fun _ => sm_in ?_⟩
      rw [show (4 : Int32) = nI (5 - 1) from rfl, bP_c (in_oob (by omega) (by omega)), bP_f (fun z => z q)]
      exact ⟨fun _ => ⟨rfl, hr⟩, (fun z => absurd rfl z)⟩
    rcases ix b 5 (by omega) with (q | q) | ⟨k, hk, rfl⟩
    · exact ⟨fun _ => hb1 (Or.inl q), fun z => absurd q z⟩
    · refine ⟨fun z => hb1 (Or.inl z), fun _ => ⟨fun _ => hb1 (Or.inr q), fun z => absurd q z⟩⟩
    · refine ⟨fun z => absurd z (n_neg (by omega)), fun _ => ⟨fun z => absurd ((nle (a := 5) (by omega) (by omega)).mp z) (by omega), fun _ => ?_⟩⟩
      have hm : ∀ (I1 : m_I) (L1 : m_L) (Q : Int32 → m_I → m_L → Prop), ((n ≤ 60 → ((0 ≤ n → (vp_in (nI j) 6 ∧ (vp_in (nI j) 6 ∧ bt_Go P (d + 5) mi_M_row (kI Q) 54 [some (vr 35 0), some (vi (nI j)), none, none, some (vi (60 * nI j))] [] (ui (ui I1 66 0 (tn (nI j)) ((-2) - nI k)) 67 0 (tn (nI j)) n, L1)))) ∧ (¬ 0 ≤ n → Q (-14) I1 L1))) ∧ (¬ n ≤ 60 → Q (-1) I1 L1)) → bt_WP P (d + 6) mi_M_row [vr 35 0, vi (nI j), vi (nI k), vi n] (I1, L1) (kI Q) := fun I1 L1 Q hh => by
        refine ru_M_row (sm_isShelf ?_)
        rw [bP_t (n_oob hj (by omega))]
        refine ⟨(fun z => absurd z (by decide)), fun _ => sm_in ?_⟩
        rw [show (4 : Int32) = nI (5 - 1) from rfl, bP_c (in_oob (by omega) (by omega)), bP_t (n_oob hk (by omega))]
        exact ⟨(fun z => absurd z (by decide)), fun _ => hh⟩
      refine ⟨fun h60 => ⟨fun h0 => ?_, fun h0 => hm _ _ _ ⟨fun _ => ⟨fun z => absurd z h0, fun _ => ⟨rfl, hr⟩⟩, fun z => absurd h60 z⟩⟩, fun h60 => hm _ _ _ ⟨fun z => absurd z h60, fun _ => ⟨rfl, hr⟩⟩⟩
      obtain ⟨z, hz, rfl⟩ : ∃ z, z ≤ 60 ∧ n = nI z := by
        obtain ⟨z, hz, e⟩ := in_of (x := n) (n := 61) (by omega) (Int32.not_lt.mpr h0) (fun q => by
          have h60' : n.toInt ≤ 60 := by rw [ti_le] at h60; exact h60
          rw [ti_le, ti_nI (by omega)] at q; omega)
        exact ⟨z, by omega, e⟩
      have ez : (if (0 : Int32) < (if (60 : Int32) < nI z then 60 else nI z) then (if (60 : Int32) < nI z then 60 else nI z) else 0) = nI z := by
        have h6 : ∀ z, z ≤ 60 → (if (0 : Int32) < (if (60 : Int32) < nI z then 60 else nI z) then (if (60 : Int32) < nI z then 60 else nI z) else 0) = nI z := by decide +kernel
        exact h6 z hz
      refine ru_Sh_holdRow ?_
      rw [ez]
      refine ru_JA_fillL (sp_fillL hj 60 0 _ (by omega) (fun L' f1 f2 => ?_) (fun _ _ _ _ => rfl) (fun c hc => by omega))
      refine hm _ _ _ ⟨fun _ => ⟨fun _ => ⟨ti_in hj (by omega), ti_in hj (by omega), ?_⟩, fun z => absurd h0 z⟩, fun z => absurd h60 z⟩
      rw [nI_mul60 hj, ti_tn (by omega)]
      refine sm_row hj 60 0 _ (by omega) (fun L'' g1 g2 => ⟨rfl, ?_⟩) (fun _ _ _ _ => rfl) (fun c hc => by omega)
      refine h _ _ (fun s' hs' => ?_) (fun g hg => Qg_ui (Qg_ui (Qg_ui (Qg_ui (Qg_ui Qg_rf (Ne.symm hg)) (Ne.symm hg)) (Ne.symm hg)) (Ne.symm hg)) (Ne.symm hg))
      by_cases es : s' = j
      · subst es
        have l34 : ∀ i, i < 60 → L'' 34 s' i = 0 := fun i hi => by rw [g1 34 s' i (by omega), f2 i hi]
        refine ⟨some (.inr k), z, hz, ?_, ?_, ?_, ?_, fun k' hk' => ?_, fun b e => by cases e⟩
        · rw [ui_k (by decide), ui_k (by decide), ui_j (by decide), ui_j (by decide), ui_same]; rfl
        · rw [ui_k (by decide), ui_k (by decide), ui_j (by decide), ui_same]; rfl
        · rw [ui_k (by decide), ui_k (by decide), ui_same]
        · rw [ui_k (by decide), ui_same]; rfl
        · cases hk'
          refine ⟨hk, by rw [ui_same], fun i hi => by rw [g2 i hi, l34 i hi], fun _ i hi => by rw [l34 i hi]; unfold byL; decide⟩
      · obtain ⟨x', z', h'⟩ := hS s' hs'
        refine ⟨x', z', gS1_eq h' (fun i => ?_) ?_ ?_ (fun i hi => ?_) (fun i hi => ?_)⟩
        · rw [ui_k (by decide), ui_k (by decide), ui_i es, ui_i es, ui_i es]
        · rw [ui_k (by decide), ui_j es, ui_k (by decide), ui_k (by decide), ui_k (by decide)]
        · rw [ui_j es, ui_k (by decide), ui_k (by decide), ui_k (by decide), ui_k (by decide)]
        · rw [g1 34 s' i (by omega), f1 34 s' i (by omega)]
        · rw [g1 68 0 _ (by omega), f1 68 0 _ (by omega)]
