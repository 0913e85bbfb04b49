/-! SHELVES, joint: shift -/
theorem ud_k {L : m_L} {k i a b c : Nat} {g : Nat → Int64} (h : a ≠ k) : ud L k i g a b c = L a b c := by unfold ud; rw [if_neg h]
theorem ud_i {L : m_L} {k i a b c : Nat} {g : Nat → Int64} (h : b ≠ i) : ud L k i g a b c = L a b c := by
  unfold ud; by_cases h1 : a = k
  · rw [if_pos h1, if_neg h]
  · rw [if_neg h1]
theorem ud_same (L : m_L) (k i c : Nat) (g : Nat → Int64) : ud L k i g k i c = g c := by unfold ud; rw [if_pos rfl, if_pos rfl]
theorem nI_60k {j n k : Nat} (hj : j < 6) : (60 * nI j + nI n) + nI k = nI (60 * j + n + k) := by rw [nI_60 hj, nI_add]
theorem sm_sh113 {P : bt_PT} {d : Nat} {f : Int32 → m_I → m_L → Prop} {I : m_I} {L0 : m_L} {s o i j n : Nat} (hs : s < 6) (hi : i + n ≤ 60) (h : ∀ L1, (∀ c, c < n → L1 69 0 c = L0 68 0 (60 * s + i + c)) → (∀ a b c, a ≠ 69 → L1 a b c = L0 a b c) → bt_Go P d mi_M_shift (kI f) 150 [some (vr 35 0), none, none, some (vi (nI o)), some (vi (nI j)), some (vi (nI n)), some (vi 0)] [] (I, L1)) :
    ∀ (m k : Nat) (L1 : m_L), k + m = n → (∀ c, c < k → L1 69 0 c = L0 68 0 (60 * s + i + c)) → (∀ a b c, a ≠ 69 → L1 a b c = L0 a b c) → bt_Go P d mi_M_shift (kI f) 113 [some (vr 35 0), some (vi (nI s)), some (vi (nI i)), some (vi (nI o)), some (vi (nI j)), some (vi (nI n)), some (vi (nI k))] [] (I, L1)
  | 0, k, L1, e, h1, h2 => by
    have e : k = n := by omega
    subst e
    exact ru_M_shift_113 ⟨fun _ => h L1 h1 h2, fun z => absurd (Int32.le_refl _) z⟩
  | m + 1, k, L1, e, h1, h2 => by
    refine ru_M_shift_113 ⟨fun z => absurd ((nle (by omega) (by omega)).mp z) (by omega), fun _ => ?_⟩
    rw [nI_60k hs, ti_tn (by omega), ti_tn (by omega), nI_s]
    refine ⟨ti_in (by omega) (by omega), ti_in (by omega) (by omega), sm_sh113 hs hi h m (k + 1) _ (by omega) (fun c hc => ?_) (fun a b c ha => ?_)⟩
    · by_cases q : c = k
      · subst q; rw [ul_same, h2 68 0 _ (by decide)]
      · rw [ul_j q]; exact h1 c (by omega)
    · rw [ul_k ha]; exact h2 a b c ha
theorem sm_sh150 {P : bt_PT} {d : Nat} {f : Int32 → m_I → m_L → Prop} {I : m_I} {L0 : m_L} {B : Nat → Int64} {o j n : Nat} (ho : o < 6) (hj : j + n ≤ 60) (h : ∀ L1, (∀ a b c, a ≠ 68 → a ≠ 69 → L1 a b c = L0 a b c) → (∀ b c, b ≠ 0 → L1 68 b c = L0 68 b c) → (∀ c, c < n → L1 68 0 (60 * o + j + c) = B c) → (∀ c, c < 60 * o + j ∨ 60 * o + j + n ≤ c → L1 68 0 c = L0 68 0 c) → f (nI n) I L1) :
    ∀ (m k : Nat) (L1 : m_L), k + m = n → (∀ c, c < n → L1 69 0 c = B c) → (∀ a b c, a ≠ 68 → a ≠ 69 → L1 a b c = L0 a b c) → (∀ b c, b ≠ 0 → L1 68 b c = L0 68 b c) → (∀ c, c < k → L1 68 0 (60 * o + j + c) = B c) → (∀ c, c < 60 * o + j ∨ 60 * o + j + k ≤ c → L1 68 0 c = L0 68 0 c) → bt_Go P d mi_M_shift (kI f) 150 [some (vr 35 0), none, none, some (vi (nI o)), some (vi (nI j)), some (vi (nI n)), some (vi (nI k))] [] (I, L1)
  | 0, k, L1, e, h1, h2, h3, h4, h5 => by
    have e : k = n := by omega
    subst e
    exact ru_M_shift_150 ⟨fun _ => h L1 h2 h3 h4 h5, fun z => absurd (Int32.le_refl _) z⟩
  | m + 1, k, L1, e, h1, h2, h3, h4, h5 => by
    refine ru_M_shift_150 ⟨fun z => absurd ((nle (by omega) (by omega)).mp z) (by omega), fun _ => ?_⟩
    rw [nI_60k ho, ti_tn (by omega), ti_tn (by omega), nI_s]
    refine ⟨ti_in (by omega) (by omega), ti_in (by omega) (by omega), sm_sh150 ho hj h m (k + 1) _ (by omega) (fun c hc => ?_) (fun a b c ha hb => ?_) (fun b c hb => ?_) (fun c hc => ?_) (fun c hc => ?_)⟩
    · rw [ul_k (by decide)]; exact h1 c hc
    · rw [ul_k ha]; exact h2 a b c ha hb
    · rw [ul_i hb]; exact h3 b c hb
    · by_cases q : c = k
      · subst q; rw [ul_same]; exact h1 c (by omega)
      · rw [ul_j (by omega)]; exact h4 c (by omega)
    · rw [ul_j (by omega)]; exact h5 c (by omega)
theorem sp_sort {P : bt_PT} {d : Nat} {f : Int32 → m_I → m_L → Prop} {I : m_I} {L : m_L} {bn j1 z1 k1 j2 z2 k2 : Nat} (h1 : gS1 I L bn j1 (some (.inr k1)) z1) (h2 : gS1 I L bn j2 (some (.inr k2)) z2) (h : f (bP (k1 = k2)) I L) : bt_WP P (d + 1) mi_Sh_isOfSortOf [vr 33 j1, vr 33 j2] (I, L) (kI f) := by
  have e1 := (h1.2.2.2.2.2.1 k1 rfl).1
  have e2 := (h2.2.2.2.2.2.1 k2 rfl).1
  refine ru_Sh_isOfSortOf ⟨(fun z => by cases z), fun _ => ?_⟩
  rw [h1.2.2.1, h2.2.2.1]
  have key : rsI (some (.inr k1)) = rsI (some (.inr k2)) ↔ k1 = k2 := neq (a := k1) (b := k2) (by omega) (by omega)
  exact ⟨fun q => ⟨z01, bP_ff h (fun e => q (key.mpr e))⟩, fun q => ⟨o01, bP_ft h (key.mp q)⟩⟩
theorem ho_in (k1 k2 : Nat) (h1 : k1 < 5) (h2 : k2 < 5) : hoI (some (.inr k1)) = hoI (some (.inr k2)) ↔ k1 = k2 := by
  have : ∀ k1, k1 < 5 → ∀ k2, k2 < 5 → ((-2 : Int32) - nI k1 = -2 - nI k2 ↔ k1 = k2) := by decide +kernel
  exact this k1 h1 k2 h2
theorem ho_neg {k : Nat} (h : k < 5) : ¬ (0 : Int32) ≤ hoI (some (.inr k)) := by
  have : ∀ k, k < 5 → ¬ (0 : Int32) ≤ -2 - nI k := by decide +kernel
  exact this k h
theorem jn_shift {P : bt_PT} {d : Nat} {G : m_I → m_L → Prop} {I : m_I} {L : m_L} {bn : Nat} {s i o j n : Int32} (hS : gS I L bn) (hb : bn ≤ 50) (h : ∀ I' L', gS I' L' bn → (∀ g, g ≠ 5 → Qg g I I') → G I' L') :
    bt_WP P (d + 6) mi_B_shift [vr 0 0, vi s, vi i, vi o, vi j, vi n] (I, L) (kI fun x I1 L1 => bt_WP P (d + 6) mi_M_shift [vr 35 0, vi s, vi i, vi o, vi j, vi n] (I1, L1) (kI fun y I2 L2 => x = y ∧ G I2 L2)) := by
  have hr : G I L := h I L hS (fun _ _ => Qg_rf)
  rcases ix s 6 (by omega) with hs | ⟨s, hs, rfl⟩
  · have hm : bt_WP P (d + 6) mi_M_shift [vr 35 0, vi s, vi i, vi o, vi j, vi n] (I, L) (kI fun y I2 L2 => (-1) = y ∧ G I2 L2) := ru_M_shift (sm_isShelf (bP_br (fun _ => ⟨rfl, hr⟩) (fun z => absurd hs z)))
    rcases ix o 6 (by omega) with ho | ⟨o, ho, rfl⟩
    · exact ru_B_shift (sp_sAo hs (ru_B_shift_5 (sp_sAo ho (ru_B_shift_12 ⟨fun _ => hm, (fun z => absurd rfl z)⟩))))
    · exact ru_B_shift (sp_sAo hs (ru_B_shift_5 (sp_sA ho (ru_B_shift_12_b ⟨fun _ => hm, (fun z => absurd rfl z)⟩))))
  · rcases ix o 6 (by omega) with ho | ⟨o, ho, rfl⟩
    · refine ru_B_shift (sp_sA hs (ru_B_shift_5_b (sp_sAo ho (ru_B_shift_12_c ⟨(fun z => by cases z), fun _ => ⟨(fun z => absurd rfl z), fun _ => ?_⟩⟩))))
      refine ru_M_shift (sm_isShelf ?_)
      rw [bP_t (n_oob hs (by omega))]
      exact ⟨(fun z => absurd z (by decide)), fun _ => sm_isShelf (bP_br' (fun z => absurd ho z) (fun _ => ⟨rfl, hr⟩))⟩
    · obtain ⟨x1, z1, hx⟩ := hS s hs
      obtain ⟨x2, z2, hy⟩ := hS o ho
      refine ru_B_shift (sp_sA hs (ru_B_shift_5_b (sp_sA ho (ru_B_shift_12_d ⟨(fun z => by cases z), fun _ => ⟨fun _ => sp_isEmpty hx hb ?_, (fun z => by cases z)⟩⟩))))
      have hm : ∀ (L' : m_L) (Q : Int32 → m_I → m_L → Prop), ((hoI x1 = (-1) → (Q (-11) I L')) ∧ (¬ hoI x1 = (-1) → (vp_in (nI o) 6 ∧ ((¬ hoI x2 = (-1) → (vp_in (nI s) 6 ∧ ((0 ≤ hoI x1 → (Q (-12) I L')) ∧ (¬ 0 ≤ hoI x1 → (vp_in (nI s) 6 ∧ (vp_in (nI o) 6 ∧ ((hoI x1 = hoI x2 → ((n < 0 → (Q (-13) I L')) ∧ (¬ n < 0 → ((i < 0 → (Q (-13) I L')) ∧ (¬ i < 0 → ((j < 0 → (Q (-13) I L')) ∧ (¬ j < 0 → (vp_in (nI s) 6 ∧ ((((I 67 0 s) - n) < i → (Q (-13) I L')) ∧ (¬ ((I 67 0 s) - n) < i → (vp_in (nI o) 6 ∧ ((j ≤ ((I 67 0 o) - n) → (bt_Go P (d + 5) mi_M_shift (kI Q) 113 [some (vr 35 0), some (vi (nI s)), some (vi i), some (vi (nI o)), some (vi j), some (vi n), some (vi 0)] [] (I, L'))) ∧ (¬ j ≤ ((I 67 0 o) - n) → (Q (-13) I L')))))))))))))) ∧ (¬ hoI x1 = hoI x2 → (Q (-12) I L'))))))))) ∧ (hoI x2 = (-1) → (Q (-11) I L')))))) → bt_WP P (d + 6) mi_M_shift [vr 35 0, vi (nI s), vi i, vi (nI o), vi j, vi n] (I, L') (kI Q) := fun L' Q hh => by
        refine ru_M_shift (sm_isShelf ?_)
        rw [bP_t (n_oob hs (by omega))]
        refine ⟨(fun z => absurd z (by decide)), fun _ => sm_isShelf ?_⟩
        rw [bP_t (n_oob ho (by omega))]
        refine ⟨fun _ => ⟨ti_in hs (by omega), ?_⟩, (fun z => absurd z (by decide))⟩
        rw [ti_tn (by omega), ti_tn (by omega), hx.2.2.2.2.1, hy.2.2.2.2.1]
        exact hh
      have v6s : vp_in (nI s) 6 := ti_in hs (by omega)
      have v6o : vp_in (nI o) 6 := ti_in ho (by omega)
      refine bP_br' (fun q => ?_) (fun q1 => ?_)
      · exact hm _ _ ⟨fun _ => ⟨rfl, hr⟩, fun z => absurd ((gS1_ho hx hb).mpr q) z⟩
      refine sp_isEmpty hy hb (bP_br (fun q2 => ?_) (fun q => hm _ _ ⟨fun z => absurd ((gS1_ho hx hb).mp z) q1, fun _ => ⟨v6o, fun z => absurd ((gS1_ho hy hb).mpr q) z, fun _ => ⟨rfl, hr⟩⟩⟩))
      refine sp_isRow hx (bP_br (fun q => ?_) (fun q3 => ?_))
      · refine hm _ _ ⟨fun z => absurd ((gS1_ho hx hb).mp z) q1, fun _ => ⟨v6o, fun _ => ⟨v6s, fun _ => ⟨rfl, hr⟩, fun z => ?_⟩, fun z => absurd ((gS1_ho hy hb).mp z) q2⟩⟩
        exact absurd ((gS1_hr hx hb q1).mp (Int32.not_le.mp z)) q
      obtain ⟨k1, rfl⟩ := q3
      have hk1 := (hx.2.2.2.2.2.1 k1 rfl).1
      have hcast : ¬ hoI (some (.inr k1)) = hoI x2 → bt_WP P (d + 6) mi_M_shift [vr 35 0, vi (nI s), vi i, vi (nI o), vi j, vi n] (I, L) (kI fun y I2 L2 => (-12) = y ∧ G I2 L2) := fun qq => by
        exact hm _ _ ⟨fun z => absurd ((gS1_ho hx hb).mp z) q1, fun _ => ⟨v6o, fun _ => ⟨v6s, fun z => absurd z (ho_neg hk1), fun _ => ⟨v6s, v6o, fun z => absurd z qq, fun _ => ⟨rfl, hr⟩⟩⟩, fun z => absurd ((gS1_ho hy hb).mp z) q2⟩⟩
      refine sp_isRow hy (bP_br (fun q => hcast (fun e => ?_)) (fun q4 => ?_))
      · exact absurd ((gS1_hr hy hb q2).mp (e ▸ Int32.not_le.mp (ho_neg hk1))) q
      obtain ⟨k2, rfl⟩ := q4
      have hk2 := (hy.2.2.2.2.2.1 k2 rfl).1
      refine sp_sort hx hy (bP_br' (fun q5 => ?_) (fun q => hcast (fun e => q ((ho_in k1 k2 hk1 hk2).mp e))))
      subst q5
      obtain ⟨-, mz1, me1, by1⟩ := hx.2.2.2.2.2.1 k1 rfl
      obtain ⟨-, mz2, me2, by2⟩ := hy.2.2.2.2.2.1 k1 rfl
      have h60 := hx.1
      have h61 := hy.1
      have hplace : ∀ (L' : m_L) (Q : Int32 → m_I → m_L → Prop), ((¬ (plN z1 i n ∧ plN z2 j n)) → Q (-13) I L') → (plN z1 i n → plN z2 j n → bt_Go P (d + 5) mi_M_shift (kI Q) 113 [some (vr 35 0), some (vi (nI s)), some (vi i), some (vi (nI o)), some (vi j), some (vi n), some (vi 0)] [] (I, L')) → bt_WP P (d + 6) mi_M_shift [vr 35 0, vi (nI s), vi i, vi (nI o), vi j, vi n] (I, L') (kI Q) := fun L' Q hno hyes => by
        refine hm _ _ ⟨fun z => absurd ((gS1_ho hx hb).mp z) q1, fun _ => ⟨v6o, fun _ => ⟨v6s, fun z => absurd z (ho_neg hk1), fun _ => ⟨v6s, v6o, fun _ => ?_, fun z => absurd rfl z⟩⟩, fun z => absurd ((gS1_ho hy hb).mp z) q2⟩⟩
        rw [mz1, mz2]
        have esub : ∀ z : Nat, z ≤ 60 → ¬ n < 0 → (nI z - n).toInt = (z : Int) - n.toInt := fun z hz hn => by
          rw [ti_lt, i_0] at hn
          have hnl := n.toInt_lt
          rw [i_sub (by rw [ti_nI (by omega)]; omega) (by rw [ti_nI (by omega)]; omega), ti_nI (by omega)]
        refine ⟨fun h1 => hno (fun z => ?_), fun h1 => ⟨fun h2 => hno (fun z => ?_), fun h2 => ⟨fun h3 => hno (fun z => ?_), fun h3 => ⟨v6s, fun h4 => hno (fun z => ?_), fun h4 => ⟨v6o, fun h5 => hyes ?_ ?_, fun h5 => hno (fun z => ?_)⟩⟩⟩⟩⟩
        · rw [ti_lt, i_0] at h1; have := z.1.2.1; omega
        · rw [ti_lt, i_0] at h2; have := z.1.1; omega
        · rw [ti_lt, i_0] at h3; have := z.2.1; omega
        · rw [ti_lt, esub z1 h60 h1] at h4; have := z.1.2.2; omega
        · rw [ti_lt, esub z1 h60 h1] at h4; rw [ti_lt, i_0] at h1 h2; exact ⟨by omega, by omega, by omega⟩
        · rw [ti_le, esub z2 h61 h1] at h5; rw [ti_lt, i_0] at h1 h3; exact ⟨by omega, by omega, by omega⟩
        · rw [ti_le, esub z2 h61 h1] at h5; have := z.2.2.2; omega
      refine sp_hasPlaces hx.2.2.2.1 h60 (bP_br (fun q => hplace _ _ (fun _ => ⟨rfl, hr⟩) (fun z _ => absurd z q)) (fun p1 => ?_))
      refine sp_hasPlaces hy.2.2.2.1 h61 (bP_br' (fun p2 => ?_) (fun q => hplace _ _ (fun _ => ⟨rfl, hr⟩) (fun _ z => absurd z q)))
      refine ru_Sh_copy ⟨(fun z => by cases z), fun _ => sp_hasPlaces hx.2.2.2.1 h60 ?_⟩
      rw [bP_t p1]
      refine ⟨(fun z => absurd z (by decide)), fun _ => sp_hasPlaces hy.2.2.2.1 h61 ?_⟩
      rw [bP_t p2]
      refine ⟨(fun z => absurd z (by decide)), fun _ => ?_⟩
      have nat_of : ∀ x : Int32, 0 ≤ x.toInt → ∃ m : Nat, x = nI m ∧ (m : Int) = x.toInt ∧ m < 2147483648 := fun x hx0 => by
        have hlt := x.toInt_lt
        refine ⟨x.toInt.toNat, ?_, by omega, by omega⟩
        rw [ti_eq, ti_nI (by omega)]; omega
      obtain ⟨i', rfl, ei, li⟩ := nat_of i p1.1
      obtain ⟨j', rfl, ej, lj⟩ := nat_of j p2.1
      obtain ⟨n', rfl, en, ln⟩ := nat_of n p1.2.1
      have b1 := p1.2.2
      have b2 := p2.2.2
      rw [ti_tn (by omega), ti_tn (by omega), ti_tn (by omega)]
      refine ⟨⟨n_neg (by omega), n_neg (by omega), n_neg (by omega), by omega, by omega⟩, ?_⟩
      refine hplace _ _ (fun z => absurd ⟨p1, p2⟩ z) (fun _ _ => ?_)
      refine sm_sh113 (o := o) (j := j') hs (by omega) (fun L1 f1 f2 => ?_) n' 0 _ (by omega) (fun c hc => by omega) (fun _ _ _ _ => rfl)
      refine sm_sh150 (L0 := ud L 34 o (va_cpy (L 34 s) (L 34 o) i' j' n')) (B := fun c => L 68 0 (60 * s + i' + c)) ho (by omega) (fun L2 g1 g2 g3 g4 => ⟨rfl, ?_⟩) n' 0 L1 (by omega) (fun c hc => by rw [f1 c hc, ud_k (by decide)]) (fun a b c ha hb' => f2 a b c hb') (fun b c _ => f2 68 b c (by decide)) (fun c hc => by omega) (fun c _ => f2 68 0 c (by decide))
      refine h _ _ (fun s' hs' => ?_) (fun _ _ => Qg_rf)
      by_cases es : s' = o
      · subst es
        obtain ⟨a1, a2, a3, a4, a5, a6, a7⟩ := hy
        have e34 : ∀ c, c < 60 → L2 34 s' c = va_cpy (L 34 s) (L 34 s') i' j' n' c := fun c hc => by rw [g1 34 s' c (by decide) (by decide), ud_same]
        refine ⟨some (.inr k1), z2, a1, a2, a3, a4, a5, fun k' e => ?_, a7⟩
        cases e
        refine ⟨hk1, mz2, fun c hc => ?_, fun e0 c hc => ?_⟩
        · rw [e34 c hc]
          unfold va_cpy
          by_cases q : j' ≤ c ∧ c < j' + n'
          · rw [if_pos q]
            have := g3 (c - j') (by omega)
            rw [show 60 * s' + j' + (c - j') = 60 * s' + c from by omega] at this
            rw [this, show 60 * s + i' + (c - j') = 60 * s + (i' + (c - j')) from by omega]
            exact me1 _ (by omega)
          · rw [if_neg q, g4 (60 * s' + c) (by omega), ud_k (by decide)]
            exact me2 c hc
        · rw [e34 c hc]
          unfold va_cpy
          by_cases q : j' ≤ c ∧ c < j' + n'
          · rw [if_pos q]; exact by1 e0 _ (by omega)
          · rw [if_neg q]; exact by2 e0 c hc
      · obtain ⟨x', z', h'⟩ := hS s' hs'
        refine ⟨x', z', gS1_eq h' (fun _ => rfl) rfl rfl (fun c hc => ?_) (fun c hc => ?_)⟩
        · rw [g1 34 s' c (by decide) (by decide), ud_i es]
        · rw [g4 _ (by omega), ud_k (by decide)]
