/-! SHELVES, joint: put, element -/
noncomputable def plR (x : sH) (z : Nat) (i : Int32) : Int32 := match x with
  | none => -11
  | some (.inl _) => -12
  | some (.inr _) => @ite Int32 (oob i z) (Classical.propDecidable _) (-13) 0
theorem sp_plR {P : bt_PT} {d : Nat} {f : Int32 → m_I → m_L → Prop} {I : m_I} {L : m_L} {bn j z : Nat} {x : sH} {i : Int32} (hS : gS1 I L bn j x z) (hb : bn ≤ 50) (h : f (plR x z i) I L) : bt_WP P (d + 2) mi_B_placeRefusal [vr 0 0, vr 33 j, vi i] (I, L) (kI f) := by
  refine ru_B_placeRefusal ⟨fun _ => sp_isEmpty hS hb ?_, (fun z => by cases z)⟩
  rcases x with _ | b | k
  · rw [bP_t rfl]; exact ⟨(fun z => absurd z (by decide)), fun _ => h⟩
  · rw [bP_f (fun z => by cases z)]
    refine ⟨fun _ => sp_isRow hS ?_, (fun z => absurd rfl z)⟩
    rw [bP_f (fun z => by obtain ⟨k, z⟩ := z; cases z)]
    exact ⟨(fun z => absurd rfl z), fun _ => h⟩
  · rw [bP_f (fun z => by cases z)]
    refine ⟨fun _ => sp_isRow hS ?_, (fun z => absurd rfl z)⟩
    rw [bP_t ⟨k, rfl⟩]
    refine ⟨fun _ => sp_hasPlaces hS.2.2.2.1 hS.1 ?_, (fun z => absurd z (by decide))⟩
    rw [bP_c (pl_1 hS.1)]
    refine bP_br (fun q => ?_) (fun q => ?_)
    · unfold plR at h; rw [if_pos (Classical.byContradiction q)] at h; exact h
    · unfold plR at h; rw [if_neg q] at h; exact h
theorem sm_plR {P : bt_PT} {d : Nat} {f : Int32 → m_I → m_L → Prop} {I : m_I} {L : m_L} {L' : m_L} {bn j z : Nat} {x : sH} {i : Int32} (hj : j < 6) (hS : gS1 I L bn j x z) (hb : bn ≤ 50) (h : f (plR x z i) I L') : bt_WP P (d + 3) mi_M_whyNoPlace [vr 35 0, vi (nI j), vi i] (I, L') (kI f) := by
  refine ru_M_whyNoPlace (sm_isShelf ?_)
  rw [bP_t (n_oob hj (by omega))]
  refine ⟨fun _ => ⟨ti_in hj (by omega), ?_⟩, (fun z => absurd z (by decide))⟩
  rw [ti_tn (by omega), hS.2.2.2.2.1]
  have he := gS1_ho hS hb
  rcases x with _ | b | k
  · exact ⟨fun e => absurd rfl e, fun _ => h⟩
  · refine ⟨fun _ => ⟨ti_in hj (by omega), fun e => ?_, fun _ => h⟩, fun e => by have := he.mp e; cases this⟩
    have := (gS1_hr hS hb (fun z => by cases z)).mp e
    obtain ⟨k, e⟩ := this; cases e
  · refine ⟨fun _ => ⟨ti_in hj (by omega), fun _ => ⟨ti_in hj (by omega), sm_in ?_⟩, fun e => absurd ((gS1_hr hS hb (fun z => by cases z)).mpr ⟨k, rfl⟩) e⟩, fun e => by have := he.mp e; cases this⟩
    rw [(hS.2.2.2.2.2.1 k rfl).2.1, bP_c (in_oobT (by have := hS.1; omega))]
    refine bP_br (fun q => ?_) (fun q => ?_)
    · unfold plR at h; rw [if_pos (Classical.byContradiction q)] at h; exact h
    · unfold plR at h; rw [if_neg q] at h; exact h
theorem sm_plRo {P : bt_PT} {d : Nat} {f : Int32 → m_I → m_L → Prop} {I : m_I} {L : m_L} {s i : Int32} (hs : oob s 6) (h : f (-1) I L) : bt_WP P (d + 3) mi_M_whyNoPlace [vr 35 0, vi s, vi i] (I, L) (kI f) := by
  refine ru_M_whyNoPlace (sm_isShelf ?_)
  rw [bP_f (fun z => z hs)]
  exact ⟨(fun z => absurd rfl z), fun _ => h⟩
/-- the three refusals, or a place of a row -/
theorem plR_c (x : sH) {z : Nat} (h60 : z ≤ 60) (i : Int32) : ((plR x z i = -11 ∨ plR x z i = -12 ∨ plR x z i = -13) ∧ plR x z i ≠ 0 ∧ ¬ 0 ≤ plR x z i) ∨ (plR x z i = 0 ∧ ∃ k n, x = some (.inr k) ∧ n < z ∧ i = nI n) := by
  rcases x with _ | b | k
  · exact Or.inl ⟨Or.inl rfl, (show ¬ (-11 : Int32) = 0 by decide), (show ¬ (0 : Int32) ≤ -11 by decide)⟩
  · exact Or.inl ⟨Or.inr (Or.inl rfl), (show ¬ (-12 : Int32) = 0 by decide), (show ¬ (0 : Int32) ≤ -12 by decide)⟩
  · rcases ix i z (by omega) with q | ⟨n, hn, rfl⟩
    · have e : plR (some (.inr k)) z i = -13 := by unfold plR; rw [if_pos q]
      rw [e]; exact Or.inl ⟨Or.inr (Or.inr rfl), by decide, by decide⟩
    · have e : plR (some (.inr k)) z (nI n) = 0 := by unfold plR; rw [if_neg (n_oob hn (by omega))]
      exact Or.inr ⟨e, k, n, rfl, hn, rfl⟩
theorem nI_60 {j n : Nat} (hj : j < 6) : 60 * nI j + nI n = nI (60 * j + n) := by rw [nI_mul60 hj, nI_add]
theorem jn_element {P : bt_PT} {d : Nat} {G : m_I → m_L → Prop} {I : m_I} {L : m_L} {bn : Nat} {s i : Int32} (hS : gS I L bn) (hb : bn ≤ 50) (h : G I L) :
    bt_WP P (d + 6) mi_B_element [vr 0 0, vi s, vi i] (I, L) (kL fun x I1 L1 => bt_WP P (d + 6) mi_M_element [vr 35 0, vi s, vi i] (I1, L1) (kL fun y I2 L2 => x = y ∧ G I2 L2)) := by
  rcases ix s 6 (by omega) with hs | ⟨j, hj, rfl⟩
  · refine ru_B_element (sp_sAo hs (ru_B_element_5 (ru_B_placeRefusal_b ⟨(fun z => absurd rfl z), fun _ => ⟨fun _ => ?_, fun e => absurd e (by decide)⟩⟩)))
    exact ru_M_element (sm_plRo hs ⟨fun e => absurd e (by decide), fun _ => ⟨rfl, h⟩⟩)
  · obtain ⟨x, z, hx⟩ := hS j hj
    refine ru_B_element (sp_sA hj (ru_B_element_5_b (sp_plR hx hb ?_)))
    rcases plR_c x hx.1 i with ⟨-, q1, q2⟩ | ⟨q, k, n, rfl, hn, rfl⟩
    · refine ⟨fun _ => ru_M_element (sm_plR hj hx hb ⟨fun e => absurd e q2, fun _ => ⟨rfl, h⟩⟩), fun e => absurd e q1⟩
    · have h60 := hx.1
      refine ⟨fun e => absurd q e, fun _ => ⟨fun _ => sp_read hx.2.2.2.1 hx.1 hn ?_, (fun z => by cases z)⟩⟩
      refine ru_M_element (sm_plR hj hx hb ⟨fun _ => ?_, fun e => absurd (show (0 : Int32) ≤ _ from by rw [q]; exact Int32.le_refl _) e⟩)
      rw [nI_60 hj, ti_tn (by omega)]
      exact ⟨ti_in (by omega) (by omega), ((hx.2.2.2.2.2.1 k rfl).2.2.1 n (by omega)).symm, h⟩
/-- what a row of a sort makes of a long -/
noncomputable def loL (k : Nat) (v : Int64) : Int64 := match k with
  | 0 => ((v.toInt32).toInt8.toInt32).toInt64
  | 1 => ((v.toInt32).toInt16.toInt32).toInt64
  | 2 => (v.toInt32).toInt64
  | 3 => v
  | _ => @ite Int64 (lg_cmp v 0 = 0) (Classical.propDecidable _) 0 1
theorem k_5 {k : Nat} (h : k < 5) : k = 0 ∨ k = 1 ∨ k = 2 ∨ k = 3 ∨ k = 4 := by omega
theorem sp_lowest {P : bt_PT} {d : Nat} {f : Int64 → m_I → m_L → Prop} {I : m_I} {L : m_L} {j k : Nat} {v : Int64} (hr : I 33 j 2 = nI k) (hk : k < 5) (h : f (loL k v) I L) : bt_WP P (d + 1) mi_Sh_lowest [vr 33 j, vl v] (I, L) (kL f) := by
  refine ru_Sh_lowest ?_
  rw [hr]
  rcases k_5 hk with rfl | rfl | rfl | rfl | rfl
  · exact ⟨fun _ => h, (fun z => absurd rfl z)⟩
  · exact ⟨(fun z => absurd z (by decide)), fun _ => ⟨fun _ => h, (fun z => absurd rfl z)⟩⟩
  · exact ⟨(fun z => absurd z (by decide)), fun _ => ⟨(fun z => absurd z (by decide)), fun _ => ⟨fun _ => h, (fun z => absurd rfl z)⟩⟩⟩
  · exact ⟨(fun z => absurd z (by decide)), fun _ => ⟨(fun z => absurd z (by decide)), fun _ => ⟨(fun z => absurd z (by decide)), fun _ => ⟨fun _ => h, (fun z => absurd rfl z)⟩⟩⟩⟩
  · refine ⟨(fun z => absurd z (by decide)), fun _ => ⟨(fun z => absurd z (by decide)), fun _ => ⟨(fun z => absurd z (by decide)), fun _ => ⟨(fun z => absurd z (by decide)), fun _ => ⟨fun q => ?_, fun q => ?_⟩⟩⟩⟩⟩
    · unfold loL at h; rw [if_pos q] at h; exact h
    · unfold loL at h; rw [if_neg q] at h; exact h
theorem by_lo (v : Int64) : byL (loL 0 v) := by
  show -128 ≤ (((v.toInt32).toInt8.toInt32).toInt64).toInt ∧ (((v.toInt32).toInt8.toInt32).toInt64).toInt ≤ 127
  rw [Int32.toInt_toInt64, Int8.toInt_toInt32]
  have h1 := Int8.le_toInt (v.toInt32).toInt8
  have h2 := Int8.toInt_lt (v.toInt32).toInt8
  omega
theorem jn_put {P : bt_PT} {d : Nat} {G : m_I → m_L → Prop} {I : m_I} {L : m_L} {bn : Nat} {s i : Int32} {v : Int64} (hS : gS I L bn) (hb : bn ≤ 50) (h : ∀ I' L', gS I' L' bn → (∀ g, g ≠ 5 → Qg g I I') → G I' L') :
    bt_WP P (d + 6) mi_B_put [vr 0 0, vi s, vi i, vl v] (I, L) (kI fun x I1 L1 => bt_WP P (d + 6) mi_M_put [vr 35 0, vi s, vi i, vl v] (I1, L1) (kI fun y I2 L2 => x = y ∧ G I2 L2)) := by
  have hr : G I L := h I L hS (fun _ _ => Qg_rf)
  rcases ix s 6 (by omega) with hs | ⟨j, hj, rfl⟩
  · refine ru_B_put (sp_sAo hs (ru_B_put_5 (ru_B_placeRefusal_b ⟨(fun z => absurd rfl z), fun _ => ⟨fun _ => ?_, fun e => absurd e (by decide)⟩⟩)))
    exact ru_M_put (sm_plRo hs ⟨fun e => absurd e (by decide), fun _ => ⟨rfl, hr⟩⟩)
  · obtain ⟨x, z, hx⟩ := hS j hj
    refine ru_B_put (sp_sA hj (ru_B_put_5_b (sp_plR hx hb ?_)))
    rcases plR_c x hx.1 i with ⟨-, q1, q2⟩ | ⟨q, k, n, rfl, hn, rfl⟩
    · refine ⟨fun _ => ru_M_put (sm_plR hj hx hb ⟨fun e => absurd e q2, fun _ => ⟨rfl, hr⟩⟩), fun e => absurd e q1⟩
    · have h60 := hx.1
      have hk := (hx.2.2.2.2.2.1 k rfl).1
      refine ⟨fun e => absurd q e, fun _ => ⟨fun _ => ru_Sh_write (sp_hasPlaces hx.2.2.2.1 hx.1 ?_), (fun z => by cases z)⟩⟩
      rw [bP_t ((pl_1 h60).mpr (n_oob hn (by omega)))]
      refine ⟨(fun z => absurd z (by decide)), fun _ => sp_lowest hx.2.2.1 hk ⟨ti_in (by omega) (by omega), ?_⟩⟩
      rw [ti_tn (by omega)]
      have hG : G I (ul (ul L 34 j n (loL k v)) 68 0 (60 * j + n) (loL k v)) := by
        refine h _ _ (fun s' hs' => ?_) (fun _ _ => Qg_rf)
        by_cases es : s' = j
        · subst es
          obtain ⟨h1, h2, h3, h4, h5, h6, h7⟩ := hx
          refine ⟨some (.inr k), z, h1, h2, h3, h4, h5, fun k' e => ?_, h7⟩
          cases e
          obtain ⟨g1, g2, g3, g4⟩ := h6 k rfl
          refine ⟨g1, g2, fun c hc => ?_, fun e0 c hc => ?_⟩
          · by_cases ec : c = n
            · subst ec; rw [ul_same, ul_k (by decide), ul_same]
            · rw [ul_j (by omega), ul_k (by decide), ul_k (by decide), ul_j ec]; exact g3 c hc
          · rw [ul_k (by decide)]
            by_cases ec : c = n
            · subst ec; subst e0; rw [ul_same]; exact by_lo v
            · rw [ul_j ec]; exact g4 e0 c hc
        · obtain ⟨x', z', h'⟩ := hS s' hs'
          refine ⟨x', z', gS1_eq h' (fun _ => rfl) rfl rfl (fun c hc => ?_) (fun c hc => ?_)⟩
          · rw [ul_k (by decide), ul_i es]
          · rw [ul_j (by omega), ul_k (by decide)]
      refine ru_M_put (sm_plR hj hx hb ⟨fun _ => ⟨ti_in hj (by omega), ?_⟩, fun e => absurd (show (0 : Int32) ≤ _ from by rw [q]; exact Int32.le_refl _) e⟩)
      rw [ti_tn (by omega), hx.2.2.2.2.1, nI_60 hj, ti_tn (by omega)]
      have hv : vp_in (nI (60 * j + n)) 360 := ti_in (by omega) (by omega)
      rcases k_5 hk with rfl | rfl | rfl | rfl | rfl
      · exact ⟨fun e => absurd rfl e, fun _ => ⟨hv, rfl, hG⟩⟩
      · exact ⟨fun _ => ⟨fun e => absurd rfl e, fun _ => ⟨hv, rfl, hG⟩⟩, (fun z => absurd z (by decide))⟩
      · exact ⟨fun _ => ⟨fun _ => ⟨fun e => absurd rfl e, fun _ => ⟨hv, rfl, hG⟩⟩, (fun z => absurd z (by decide))⟩, (fun z => absurd z (by decide))⟩
      · exact ⟨fun _ => ⟨fun _ => ⟨fun _ => ⟨fun e => absurd rfl e, fun _ => ⟨hv, rfl, hG⟩⟩, (fun z => absurd z (by decide))⟩, (fun z => absurd z (by decide))⟩, (fun z => absurd z (by decide))⟩
      · refine ⟨fun _ => ⟨fun _ => ⟨fun _ => ⟨fun _ => ⟨fun c => ⟨hv, rfl, ?_⟩, fun c => ⟨hv, rfl, ?_⟩⟩, (fun z => absurd z (by decide))⟩, (fun z => absurd z (by decide))⟩, (fun z => absurd z (by decide))⟩, (fun z => absurd z (by decide))⟩
        · have e : loL 4 v = 0 := by unfold loL; exact if_pos c
          rw [e] at hG ⊢; exact hG
        · have e : loL 4 v = 1 := by unfold loL; exact if_neg c
          rw [e] at hG ⊢; exact hG
