/-! back: joint -/
def bkC (I0 I : m_I) (T n t : Nat) : Prop := (∀ u, u < t → u < n → I 3 0 u = I0 25 0 u ∧ I 3 2 u = I0 26 0 u ∧ I 3 3 u = I0 27 0 u ∧ I 6 0 u = I0 28 0 u) ∧ (∀ u, u < t → n ≤ u → u < T → I 6 0 u = 0) ∧ ∀ a b c, ¬ (a = 3 ∧ (b = 0 ∨ b = 2 ∨ b = 3) ∧ c < n) → ¬ (a = 6 ∧ c < T) → I a b c = I0 a b c
theorem sp_back {P : bt_PT} {d : Nat} {f : Int32 → m_I → m_L → Prop} {I0 : m_I} {L : m_L} {T n : Nat} (hT : I0 1 0 4 = nI T) (hT8 : T ≤ 8) (hn : I0 24 0 5 = nI n) (hnT : n ≤ T) (h : ∀ I, bkC I0 I T n 8 → f (nI n) (ui I 1 0 6 (I0 24 0 6)) L) : ∀ (m t : Nat) (I : m_I), t + m = 8 → bkC I0 I T n t → bt_Go P (d + 4) mi_Im_lay (kI f) 12 [some (vr 24 0), some (vr 1 0), some (vi (nI t))] [] (I, L)
  | 0, t, I, e, h1 => by
    have e : t = 8 := by omega
    subst e
    refine ru_Im_lay_12 ⟨fun _ => ru_Fo_setWalked ?_, fun z => absurd (show (8 : Int32) ≤ nI 8 by decide) z⟩
    rw [h1.2.2 24 0 6 (by omega) (by omega), ui_k (by decide), h1.2.2 24 0 5 (by omega) (by omega), hn]; exact h I h1
  | m + 1, t, I, e, h1 => by
    have l8 : (8 : Int32) ≤ nI t ↔ 8 ≤ t := nle (a := 8) (by omega) (by omega)
    have hv : vp_in (nI t) 8 := ti_in (by omega) (by omega)
    have et : tn (nI t) = t := ti_tn (by omega)
    have h5 : I 24 0 5 = nI n := by rw [h1.2.2 24 0 5 (by omega) (by omega)]; exact hn
    have h4 : I 1 0 4 = nI T := by rw [h1.2.2 1 0 4 (by omega) (by omega)]; exact hT
    refine ru_Im_lay_12 ⟨fun z => absurd (l8.mp z) (by omega), fun _ => ?_⟩
    rw [h5, et]
    rcases Nat.lt_or_ge t n with q | q
    · have nl : ¬ nI n ≤ nI t := fun z => by rw [nle (by omega) (by omega)] at z; omega
      have sl : ∀ w, w < 4 → t < slN T w := fun w hw => by unfold slN; rw [if_pos hw]; omega
      refine ⟨fun z => absurd z nl, fun _ => ⟨hv, sp_set (w := 0) h4 hT8 (by omega) (sl 0 (by omega)) ⟨hv, ?_⟩⟩⟩
      refine sp_set (w := 2) (by rw [ui_k (by decide)]; exact h4) hT8 (by omega) (sl 2 (by omega)) ⟨hv, ?_⟩
      refine sp_set (w := 3) (by rw [ui_k (by decide), ui_k (by decide)]; exact h4) hT8 (by omega) (sl 3 (by omega)) ?_
      simp (disch := decide) only [ui_k, h5]
      refine ⟨fun z => absurd z nl, fun _ => ⟨hv, sp_setHeard (T := T) (by simp (disch := decide) only [ui_k]; exact h4) hT8 (by omega) ?_⟩⟩
      rw [nI_s]
      have o25 : ∀ a b c, 24 ≤ a → I a b c = I0 a b c := fun a b c ha => h1.2.2 a b c (by omega) (by omega)
      rw [o25 25 0 t (by decide), o25 26 0 t (by decide), o25 27 0 t (by decide), o25 28 0 t (by decide)]
      refine sp_back hT hT8 hn hnT h m (t + 1) _ (by omega) ⟨fun u hu hun => ?_, fun u hu h2 h3 => ?_, fun a b c n1 n2 => ?_⟩
      · by_cases e : u = t
        · subst e
          simp (disch := decide) only [ui_k, ui_i, ui_same]
          exact ⟨trivial, trivial, trivial, trivial⟩
        · simp (disch := first | decide | assumption) only [ui_k, ui_j]
          exact h1.1 u (by omega) hun
      · have e : u ≠ t := by omega
        simp (disch := first | decide | assumption) only [ui_k, ui_j]
        exact h1.2.1 u (by omega) h2 h3
      · rw [uj_ne (fun z => n2 ⟨z.1, by omega⟩), uj_ne (fun z => n1 ⟨z.1, Or.inr (Or.inr z.2.1), by omega⟩), uj_ne (fun z => n1 ⟨z.1, Or.inr (Or.inl z.2.1), by omega⟩), uj_ne (fun z => n1 ⟨z.1, Or.inl z.2.1, by omega⟩)]
        exact h1.2.2 a b c n1 n2
    · have nl : nI n ≤ nI t := by rw [nle (by omega) (by omega)]; exact q
      refine ⟨fun _ => ⟨fun _ => ?_, fun z => absurd nl z⟩, fun z => absurd nl z⟩
      rcases Nat.lt_or_ge t T with qT | qT
      · refine sp_setHeard h4 hT8 qT ?_
        rw [nI_s]
        refine sp_back hT hT8 hn hnT h m (t + 1) _ (by omega) ⟨fun u hu hun => ?_, fun u hu h2 h3 => ?_, fun a b c n1 n2 => ?_⟩
        · have e : u ≠ t := by omega
          simp (disch := first | decide | assumption) only [ui_k, ui_j]
          exact h1.1 u (by omega) hun
        · by_cases e : u = t
          · subst e; rw [ui_same]
          · rw [ui_j e]; exact h1.2.1 u (by omega) h2 h3
        · rw [uj_ne (fun z => n2 ⟨z.1, by omega⟩)]; exact h1.2.2 a b c n1 n2
      · refine sp_setHeard_out h4 (Or.inr ((nle (by omega) (by omega)).mpr qT)) ?_
        rw [nI_s]
        exact sp_back hT hT8 hn hnT h m (t + 1) _ (by omega) ⟨fun u hu hun => h1.1 u (by omega) hun, fun u hu h2 h3 => h1.2.1 u (by omega) h2 h3, h1.2.2⟩
def bkM (I0 I : m_I) (T n t : Nat) : Prop := (∀ u, u < t → u < n → I 36 0 u = I0 60 0 u ∧ I 38 0 u = I0 61 0 u ∧ I 39 0 u = I0 62 0 u ∧ I 41 0 u = I0 63 0 u) ∧ (∀ u, u < t → n ≤ u → I 41 0 u = 0) ∧ ∀ a b c, ¬ ((a = 36 ∨ a = 38 ∨ a = 39) ∧ b = 0 ∧ c < n) → ¬ (a = 41 ∧ c < T) → I a b c = I0 a b c
theorem sm_back {P : bt_PT} {d : Nat} {f : Int32 → m_I → m_L → Prop} {I0 : m_I} {L : m_L} {T n : Nat} (hT : I0 35 0 1 = nI T) (hT8 : T ≤ 8) (hn : I0 35 0 39 = nI n) (hnT : n ≤ T) (h : ∀ I, bkM I0 I T n T → f (nI n) I L) : ∀ (m t : Nat) (I : m_I), t + m = T → bkM I0 I T n t → bt_Go P d mi_M_back (kI f) 20 [some (vr 35 0), some (vi (nI t))] [] (I, L)
  | 0, t, I, e, h1 => by
    have e : t = T := by omega
    subst e
    refine ru_M_back_20 ?_
    rw [h1.2.2 35 0 1 (by omega) (by omega), hT, h1.2.2 35 0 39 (by omega) (by omega), hn]
    exact ⟨fun _ => h I h1, fun z => absurd (Int32.le_refl _) z⟩
  | m + 1, t, I, e, h1 => by
    have hv : vp_in (nI t) 8 := ti_in (by omega) (by omega)
    have et : tn (nI t) = t := ti_tn (by omega)
    have h39 : I 35 0 39 = nI n := by rw [h1.2.2 35 0 39 (by omega) (by omega)]; exact hn
    refine ru_M_back_20 ⟨fun z => ?_, fun _ => ?_⟩
    · rw [h1.2.2 35 0 1 (by omega) (by omega), hT, nle (by omega) (by omega)] at z; omega
    rw [et, nI_s]
    simp (disch := decide) only [ui_k, h39]
    rcases Nat.lt_or_ge t n with q | q
    · have nl : ¬ nI n ≤ nI t := fun z => by rw [nle (by omega) (by omega)] at z; omega
      refine ⟨fun z => absurd z nl, fun _ => ⟨hv, hv, fun _ => ⟨hv, hv, hv, hv, hv, hv, ?_⟩, fun z => absurd ((nlt (by omega) (by omega)).mpr q) z⟩⟩
      have o60 : ∀ a b c, 60 ≤ a → I a b c = I0 a b c := fun a b c ha => h1.2.2 a b c (by omega) (by omega)
      rw [o60 60 0 t (by decide), o60 61 0 t (by decide), o60 62 0 t (by decide), o60 63 0 t (by decide)]
      refine sm_back hT hT8 hn hnT h m (t + 1) _ (by omega) ⟨fun u hu hun => ?_, fun u hu h2 => ?_, fun a b c n1 n2 => ?_⟩
      · by_cases e : u = t
        · subst e
          simp (disch := decide) only [ui_k, ui_same]
          exact ⟨trivial, trivial, trivial, trivial⟩
        · simp (disch := first | decide | assumption) only [ui_k, ui_j]
          exact h1.1 u (by omega) hun
      · have e : u ≠ t := by omega
        simp (disch := first | decide | assumption) only [ui_k, ui_j]
        exact h1.2.1 u (by omega) h2
      · rw [uj_ne (fun z => n1 ⟨Or.inr (Or.inr z.1), z.2.1, by omega⟩), uj_ne (fun z => n1 ⟨Or.inr (Or.inl z.1), z.2.1, by omega⟩), uj_ne (fun z => n1 ⟨Or.inl z.1, z.2.1, by omega⟩), uj_ne (fun z => n2 ⟨z.1, by omega⟩)]
        exact h1.2.2 a b c n1 n2
    · have nl : nI n ≤ nI t := by rw [nle (by omega) (by omega)]; exact q
      refine ⟨fun _ => ⟨hv, fun z => absurd ((nlt (by omega) (by omega)).mp z) (by omega), fun _ => ?_⟩, fun z => absurd nl z⟩
      refine sm_back hT hT8 hn hnT h m (t + 1) _ (by omega) ⟨fun u hu hun => ?_, fun u hu h2 => ?_, fun a b c n1 n2 => ?_⟩
      · have e : u ≠ t := by omega
        simp (disch := first | decide | assumption) only [ui_k, ui_j]
        exact h1.1 u (by omega) hun
      · by_cases e : u = t
        · subst e; rw [ui_same]
        · rw [ui_j e]; exact h1.2.1 u (by omega) h2
      · rw [uj_ne (fun z => n2 ⟨z.1, by omega⟩)]; exact h1.2.2 a b c n1 n2
theorem jn_back {P : bt_PT} {d : Nat} {G : m_I → m_L → Prop} {I : m_I} {L : m_L} {T : Nat} {nb : Nat → Nat} (hF : gF I T nb) (hI : gI I T) (h : ∀ I', gF I' T nb → (∀ g, g ≠ 1 → Qg g I I') → G I' L) :
    bt_WP P (d + 6) mi_B_back [vr 0 0] (I, L) (kI fun x I1 L1 => bt_WP P (d + 6) mi_M_back [vr 35 0] (I1, L1) (kI fun y I2 L2 => x = y ∧ G I2 L2)) := by
  have hr : G I L := h I hF (fun _ _ => Qg_rf)
  have hT8 := hF.1.2.1
  have hcT := hF.1.1
  have hmT := hF.2.1.1
  refine ru_B_back (ru_Im_lay ?_)
  rcases hI with ⟨e1, e2⟩ | ⟨n, hn, e4, e5, e39, e40, hJ⟩
  · refine ⟨fun z => absurd e1 z, fun _ => ru_M_back ?_⟩
    rw [e2]
    exact ⟨fun z => absurd z (by decide), fun _ => ⟨rfl, hr⟩⟩
  · refine ⟨fun _ => ?_, fun z => absurd (e4.symm.trans z) (by decide)⟩
    refine sp_back hcT hT8 e5 hn (fun I1 h1 => ?_) 8 0 _ rfl ⟨fun u hu => by omega, fun u hu => by omega, fun _ _ _ _ _ => rfl⟩
    have u1 : ∀ a b c, a ≠ 1 → a ≠ 3 → a ≠ 6 → ui I1 1 0 6 (I 24 0 6) a b c = I a b c := fun a b c q1 q3 q6 => by rw [ui_k q1, h1.2.2 a b c (by omega) (by omega)]
    refine ru_M_back ⟨fun _ => ?_, fun z => absurd (by rw [u1 _ _ _ (by decide) (by decide) (by decide), e39]; exact Int32.not_lt.mp (n_neg (by omega))) z⟩
    refine sm_back (n := n) (by rw [ui_j (by decide), u1 _ _ _ (by decide) (by decide) (by decide)]; exact hmT) hT8 (by rw [ui_j (by decide), u1 _ _ _ (by decide) (by decide) (by decide)]; exact e39) hn (fun I2 h2 => ⟨rfl, ?_⟩) T 0 _ (by omega) ⟨fun u hu => by omega, fun u hu => by omega, fun _ _ _ _ _ => rfl⟩
    -- the new cells
    have lo : ∀ a b c, a < 35 → I2 a b c = ui I1 1 0 6 (I 24 0 6) a b c := fun a b c ha => by rw [h2.2.2 a b c (by omega) (by omega), ui_k (by omega)]
    have oth : ∀ a b c, a ≠ 1 → ¬ (a = 3 ∧ (b = 0 ∨ b = 2 ∨ b = 3) ∧ c < n) → ¬ (a = 6 ∧ c < T) → ¬ ((a = 36 ∨ a = 38 ∨ a = 39) ∧ b = 0 ∧ c < n) → ¬ (a = 41 ∧ c < T) → ¬ (a = 35 ∧ c = 9) → I2 a b c = I a b c := fun a b c q1 q2 q3 q4 q5 q6 => by
      rw [h2.2.2 a b c q4 q5, uj_ne (fun z => q6 ⟨z.1, z.2.2⟩), ui_k q1, h1.2.2 a b c q2 q3]
    obtain ⟨f1, f2, f3, f4, g1, g2, g3, g4, g5⟩ := hF
    have o1 : ∀ c, c ≠ 6 → I2 1 0 c = I 1 0 c := fun c hc => by rw [lo 1 0 c (by decide), ui_j hc, h1.2.2 1 0 c (by omega) (by omega)]
    have c3 : ∀ k t, k = 0 ∨ k = 2 ∨ k = 3 → t < n → I2 3 k t = I (if k = 0 then 25 else if k = 2 then 26 else 27) 0 t := fun k t hk ht => by
      obtain ⟨a0, a2, a3, -⟩ := h1.1 t (by omega) ht
      rcases hk with rfl | rfl | rfl
      · rw [lo 3 0 t (by decide), ui_k (by decide)]; exact a0
      · rw [lo 3 2 t (by decide), ui_k (by decide)]; exact a2
      · rw [lo 3 3 t (by decide), ui_k (by decide)]; exact a3
    refine h I2 ⟨⟨by rw [o1 4 (by decide)]; exact f1.1, hT8, fun t ht => by rw [oth 4 0 t (by decide) (by omega) (by omega) (by omega) (by omega) (by omega)]; exact f1.2.2.1 t ht, f1.2.2.2⟩, ⟨by rw [oth 35 0 1 (by decide) (by omega) (by omega) (by omega) (by omega) (by omega)]; exact f2.1, hT8, fun t ht => by rw [oth 40 0 t (by decide) (by omega) (by omega) (by omega) (by omega) (by omega)]; exact f2.2.2.1 t ht, f2.2.2.2⟩, f3, fun k t hk ht => ?_, fun t ht => ?_, fun t h8 ht => ?_, ?_, ?_, ?_⟩ (fun g hg a b c e => ?_)
    · by_cases q : (k = 0 ∨ k = 2 ∨ k = 3) ∧ t < n
      · obtain ⟨q1, q2⟩ := q
        obtain ⟨j0, j1, j2, j3, l0, l1, l2⟩ := hJ t q2
        obtain ⟨b0, b2, b3, -⟩ := h2.1 t (by omega) q2
        simp (disch := decide) only [ui_k] at b0 b2 b3
        rw [h1.2.2 _ _ _ (by omega) (by omega)] at b0 b2 b3
        rw [c3 k t q1 q2]
        rcases q1 with rfl | rfl | rfl
        · exact ⟨b0.trans j0, l0⟩
        · exact ⟨b2.trans j1, l1⟩
        · exact ⟨b3.trans j2, l2⟩
      · have hh := f4 k t hk ht
        have em : mv I2 k t = mv I k t := by
          rw [mv_mk _ hk, mv_mk _ hk]
          have := (mk_ne (t := t) hk).2.2.2.2.2.2.1
          have k41 := (mk_ne (t := t) hk).2.2.2.2.2.1
          have k1 := mk_lt hk
          refine oth _ _ _ (by omega) (by omega) (by omega) (fun z => ?_) (fun z => k41 z.1) (fun z => by have := this z.1; omega)
          rcases k_8 hk with rfl | rfl | rfl | rfl | rfl | rfl | rfl | rfl
          · exact q ⟨Or.inl rfl, z.2.2⟩
          · exact absurd z.1 (by decide)
          · exact q ⟨Or.inr (Or.inl rfl), z.2.2⟩
          · exact q ⟨Or.inr (Or.inr rfl), z.2.2⟩
          · exact absurd z.1 (by decide)
          · exact absurd z.1 (by decide)
          · exact absurd z.1 (by decide)
          · exact absurd z.1 (by decide)
        rw [em, oth 3 k t (by decide) (fun z => q ⟨z.2.1, z.2.2⟩) (by omega) (by omega) (by omega) (by omega)]
        exact hh
    · rcases Nat.lt_or_ge t n with q | q
      · obtain ⟨-, -, -, b6⟩ := h2.1 t ht q
        obtain ⟨-, -, -, a6⟩ := h1.1 t (by omega) q
        rw [b6, lo 6 0 t (by decide)]
        simp (disch := decide) only [ui_k]
        rw [a6, h1.2.2 63 0 t (by omega) (by omega)]
        exact (hJ t q).2.2.2.1
      · rw [h2.2.1 t ht q, lo 6 0 t (by decide), ui_k (by decide), h1.2.1 t (by omega) q ht]
    · rw [oth 6 0 t (by decide) (by omega) (by omega) (by omega) (by omega) (by omega)]; exact g2 t h8 ht
    · rw [oth 35 0 8 (by decide) (by omega) (by omega) (by omega) (by omega) (by omega), o1 5 (by decide)]; exact g3
    · rw [o1 5 (by decide)]; exact g4
    · rw [h2.2.2 35 0 9 (by omega) (by omega), ui_same, u1 35 0 40 (by decide) (by decide) (by decide), lo 1 0 6 (by decide), ui_same]; exact e40
    · have n1 : a ≠ 1 := fun z => by
        subst z; exact hg e.symm
      have n3 : a ≠ 3 := fun z => by subst z; exact hg e.symm
      have n6 : a ≠ 6 := fun z => by subst z; exact hg e.symm
      have n41 : ¬ (36 ≤ a ∧ a ≤ 43) := fun z => by
        have : a = 36 ∨ a = 37 ∨ a = 38 ∨ a = 39 ∨ a = 40 ∨ a = 41 ∨ a = 42 ∨ a = 43 := by omega
        rcases this with rfl | rfl | rfl | rfl | rfl | rfl | rfl | rfl <;> exact hg e.symm
      exact oth a b c n1 (by omega) (by omega) (by omega) (by omega) (fun z => by obtain ⟨rfl, rfl⟩ := z; exact hg e.symm)
