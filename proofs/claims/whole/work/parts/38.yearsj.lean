/-! years, feed: joint -/
/-- pitches and heights of the trees set on both sides -/
theorem gF_vals {I I' : m_I} {T : Nat} {nb : Nat → Nat} (hF : gF I T nb) (h0 : ∀ t, t < T → I' 36 0 t = I' 3 0 t ∧ lt' (I' 3 0 t) 10) (h2 : ∀ t, t < T → I' 38 0 t = I' 3 2 t ∧ lt' (I' 3 2 t) 10) (h : ∀ a b c, gp a c = 1 → ¬ (a = 3 ∧ (b = 0 ∨ b = 2) ∧ c < T) → ¬ ((a = 36 ∨ a = 38) ∧ c < T) → I' a b c = I a b c) : gF I' T nb := by
  obtain ⟨f1, f2, f3, f4, g1, g2, g3, g4, g5⟩ := hF
  have hT8 := f1.2.1
  refine ⟨⟨by rw [h 1 0 4 rfl (by omega) (by omega)]; exact f1.1, hT8, fun t ht => by rw [h 4 0 t rfl (by omega) (by omega)]; exact f1.2.2.1 t ht, f1.2.2.2⟩, ⟨by rw [h 35 0 1 rfl (by omega) (by omega)]; exact f2.1, hT8, fun t ht => by rw [h 40 0 t rfl (by omega) (by omega)]; exact f2.2.2.1 t ht, f2.2.2.2⟩, f3, fun k t hk ht => ?_, fun t ht => ?_, fun t h8 ht => ?_, ?_, ?_, ?_⟩
  · by_cases q : (k = 0 ∨ k = 2) ∧ t < T
    · obtain ⟨q1, q2⟩ := q
      rcases q1 with rfl | rfl
      · exact h0 t q2
      · exact h2 t q2
    · have em : mv I' k t = mv I k t := by
        rw [mv_mk _ hk, mv_mk _ hk]
        refine h _ _ _ (mk_ne hk).2.2.2.2.2.2.2 (fun z => (mk_ne (t := t) hk).2.1 z.1) (fun z => ?_)
        rcases k_8 hk with rfl | rfl | rfl | rfl | rfl | rfl | rfl | rfl
        · exact q ⟨Or.inl rfl, z.2⟩
        · exact absurd z.1 (by decide)
        · exact q ⟨Or.inr rfl, z.2⟩
        · exact absurd z.1 (by decide)
        · exact absurd z.1 (by decide)
        · exact absurd z.1 (by decide)
        · exact absurd z.1 (by decide)
        · exact absurd z.1 (by decide)
      rw [em, h 3 k t rfl (fun z => q ⟨z.2.1, z.2.2⟩) (by omega)]
      exact f4 k t hk ht
  · rw [h 41 0 t rfl (by omega) (by omega), h 6 0 t rfl (by omega) (by omega)]; exact g1 t ht
  · rw [h 6 0 t rfl (by omega) (by omega)]; exact g2 t h8 ht
  · rw [h 35 0 8 rfl (by omega) (by omega), h 1 0 5 rfl (by omega) (by omega)]; exact g3
  · rw [h 1 0 5 rfl (by omega) (by omega)]; exact g4
  · rw [h 35 0 9 rfl (by omega) (by omega), h 1 0 6 rfl (by omega) (by omega)]; exact g5
theorem sm_grY {P : bt_PT} {d : Nat} {f : Int32 → m_I → m_L → Prop} {L : m_L} {I0 : m_I} {T n : Nat} {s : grS} (hT : I0 35 0 1 = nI T) (hT8 : T ≤ 8) (hn : n ≤ 30) (h : ∀ I, crM I0 I (grY T s n) T → f (sI (grY T s n).2.1 T) I L) : ∀ (m y : Nat) (I : m_I), y + m = n → crM I0 I (grY T s y) T → bt_Go P (d + 1) mi_M_years (kI f) 19 [some (vr 35 0), none, some (vi (nI n)), some (vi (nI y)), none, none] [] (I, L)
  | 0, y, I, e, h1 => by
    have e : y = n := by omega
    subst e
    refine ru_M_years_19 ⟨fun _ => ?_, fun z => absurd (Int32.le_refl _) z⟩
    exact sm_grSum (by rw [h1.2.2 35 0 1 (by omega) (by omega)]; exact hT) hT8 (fun t ht => (h1.1 t ht).1) (h I h1) T 0 (by omega)
  | m + 1, y, I, e, h1 => by
    refine ru_M_years_19 ⟨fun z => absurd ((nle (by omega) (by omega)).mp z) (by omega), fun _ => ?_⟩
    exact sm_grT hT hT8 (fun I' h3 => sm_grY hT hT8 hn h m (y + 1) I' (by omega) h3) T 0 I (by omega) h1
theorem jn_years {P : bt_PT} {d : Nat} {G : m_I → m_L → Prop} {I : m_I} {L : m_L} {T : Nat} {nb : Nat → Nat} {sd n : Int32} (hF : gF I T nb) (h0 : G I L) (h : ∀ I', gF I' T nb → (∀ g, g ≠ 1 → g ≠ 0 → Qg g I I') → G I' L) :
    bt_WP P (d + 6) mi_B_years [vr 0 0, vi sd, vi n] (I, L) (kI fun x I1 L1 => bt_WP P (d + 6) mi_M_years [vr 35 0, vi sd, vi n] (I1, L1) (kI fun y I2 L2 => x = y ∧ G I2 L2)) := by
  have hT8 := hF.1.2.1
  have hcT := hF.1.1
  have hmT := hF.2.1.1
  have i1 : (1 : Int32).toInt = 1 := rfl
  have i30 : (30 : Int32).toInt = 30 := rfl
  have hm : ¬ ((1 : Int32) ≤ n ∧ n ≤ 30) → bt_WP P (d + 6) mi_M_years [vr 35 0, vi sd, vi n] (I, L) (kI fun y I2 L2 => (-1) = y ∧ G I2 L2) := fun q => by
    refine ru_M_years (sm_in ?_)
    rw [bP_f q]; exact ⟨(fun z => absurd rfl z), fun _ => ⟨rfl, h0⟩⟩
  refine ru_B_years ⟨fun q1 => hm (fun z => absurd z.1 (Int32.not_le.mpr q1)), fun q1 => ⟨fun q2 => ?_, fun q2 => hm (fun z => q2 z.2)⟩⟩
  have hin : (1 : Int32) ≤ n ∧ n ≤ 30 := ⟨Int32.not_lt.mp q1, q2⟩
  obtain ⟨n, hn1, hn30, rfl⟩ : ∃ m : Nat, 1 ≤ m ∧ m ≤ 30 ∧ n = nI m := by
    rw [ti_lt, i1] at q1
    rw [ti_le, i30] at q2
    refine ⟨n.toInt.toNat, by omega, by omega, ?_⟩
    rw [ti_eq, ti_nI (by omega)]; omega
  -- the trees' numbers
  have sl : ∀ w t, w < 4 → t < T → t < slN T w := fun w t hw ht => by unfold slN; rw [if_pos hw]; exact ht
  have hp : ∀ t, t < T → I 3 0 t = nI (tn (I 3 0 t)) ∧ tn (I 3 0 t) < 10 ∧ I 36 0 t = I 3 0 t := fun t ht => by
    obtain ⟨e, m, hm1, hm2⟩ := hF.2.2.2.1 0 t (by omega) (sl 0 t (by omega) ht)
    have hm1' : m < 10 := hm1
    rw [hm2, ti_tn (by omega)]
    exact ⟨rfl, hm1, e.trans hm2⟩
  have hh : ∀ t, t < T → I 3 2 t = nI (tn (I 3 2 t)) ∧ tn (I 3 2 t) < 10 ∧ I 38 0 t = I 3 2 t := fun t ht => by
    obtain ⟨e, m, hm1, hm2⟩ := hF.2.2.2.1 2 t (by omega) (sl 2 t (by omega) ht)
    have hm1' : m < 10 := hm1
    rw [hm2, ti_tn (by omega)]
    exact ⟨rfl, hm1, e.trans hm2⟩
  refine ru_Fo_grow ?_
  refine sp_grY (I0 := I) (T := T) (s := (sd, fun t => tn (I 3 0 t), fun t => tn (I 3 2 t))) hcT hT8 hn30 (fun I1 h1 => ?_) n 0 I (by omega) ⟨fun t ht => ⟨(hp t ht).1, (hh t ht).1, (hp t ht).2.1, (hh t ht).2.1⟩, fun _ _ _ _ => rfl⟩
  refine ru_M_years (sm_in ?_)
  rw [bP_t hin]
  refine ⟨fun _ => ?_, (fun z => absurd z (by decide))⟩
  have hst : crM I1 (ui I1 35 0 38 sd) (sd, fun t => tn (I 3 0 t), fun t => tn (I 3 2 t)) T := by
    refine ⟨fun t ht => ?_, ui_same _ _ _ _ _, fun a b c n1 n2 => uj_ne (fun z => n2 ⟨z.1, z.2.2⟩)⟩
    rw [ui_k (by decide), ui_k (by decide), h1.2 36 0 t (by omega), h1.2 38 0 t (by omega), (hp t ht).2.2, (hh t ht).2.2]
    exact ⟨(hp t ht).1, (hh t ht).1, (hp t ht).2.1, (hh t ht).2.1⟩
  generalize hs0 : ((sd, fun t => tn (I 3 0 t), fun t => tn (I 3 2 t)) : grS) = s0 at h1 hst ⊢
  refine sm_grY (I0 := I1) (T := T) (s := s0) (by rw [h1.2 35 0 1 (by omega)]; exact hmT) hT8 hn30 (fun I2 h2 => ?_) n 0 _ (by omega) hst
  generalize grY T s0 n = s1 at h1 h2 ⊢
  refine ⟨rfl, ?_⟩
  have lo : ∀ a b c, a < 35 → I2 a b c = I1 a b c := fun a b c ha => h2.2.2 a b c (by omega) (by omega)
  refine h I2 (gF_vals hF (fun t ht => ?_) (fun t ht => ?_) (fun a b c e n1 n2 => ?_)) (fun g hg hg0 a b c e => ?_)
  · obtain ⟨a0, -, l0, -⟩ := h1.1 t ht
    obtain ⟨b0, -, -, -⟩ := h2.1 t ht
    rw [lo 3 0 t (by omega), a0, b0]; exact ⟨rfl, _, l0, rfl⟩
  · obtain ⟨-, a2, -, l2⟩ := h1.1 t ht
    obtain ⟨-, b2, -, -⟩ := h2.1 t ht
    rw [lo 3 2 t (by omega), a2, b2]; exact ⟨rfl, _, l2, rfl⟩
  · rw [h2.2.2 a b c n2 (fun z => by obtain ⟨rfl, rfl⟩ := z; exact absurd e (by decide)), h1.2 a b c n1]
  · have n3 : a ≠ 3 := fun w => by subst w; exact hg e.symm
    have n36 : a ≠ 36 := fun w => by subst w; exact hg e.symm
    have n38 : a ≠ 38 := fun w => by subst w; exact hg e.symm
    rw [h2.2.2 a b c (by omega) (fun z => by obtain ⟨rfl, rfl⟩ := z; exact hg0 e.symm), h1.2 a b c (by omega)]
