/-! path: joint -/
noncomputable def nbJ (nb : Nat → Nat) (a b t : Nat) : Nat := if t = a then nb a ||| 2 ^ b else if t = b then nb b ||| 2 ^ a else nb t
theorem nbJ_bit {nb : Nat → Nat} {a b : Nat} (h : a ≠ b) (x y : Nat) : (nbJ nb a b x).testBit y = ((nb x).testBit y || decide ((x = a ∧ y = b) ∨ (x = b ∧ y = a))) := by
  unfold nbJ
  by_cases q : x = a
  · subst q
    rw [if_pos rfl, Nat.testBit_or, Nat.testBit_two_pow]
    congr 1
    by_cases e : b = y
    · subst e; rw [decide_eq_true rfl, decide_eq_true (Or.inl ⟨rfl, rfl⟩)]
    · rw [decide_eq_false e, decide_eq_false]
      rintro (z | z)
      · exact e z.2.symm
      · exact h z.1
  · rw [if_neg q]
    by_cases q2 : x = b
    · subst q2
      rw [if_pos rfl, Nat.testBit_or, Nat.testBit_two_pow]
      congr 1
      by_cases e : a = y
      · subst e; rw [decide_eq_true rfl, decide_eq_true (Or.inr ⟨rfl, rfl⟩)]
      · rw [decide_eq_false e, decide_eq_false]
        rintro (z | z)
        · exact q z.1
        · exact e z.2.symm
    · rw [if_neg q2, decide_eq_false, Bool.or_false]
      rintro (z | z)
      · exact q z.1
      · exact q2 z.1
theorem nbJ_lt {nb : Nat → Nat} {a b T : Nat} (ha : a < T) (hb : b < T) (hn : ∀ t, nb t < 2 ^ T) (t : Nat) : nbJ nb a b t < 2 ^ T := by
  have p : ∀ c, c < T → 2 ^ c < 2 ^ T := fun c hc => Nat.pow_lt_pow_right (by omega) hc
  unfold nbJ
  split
  · exact Nat.or_lt_two_pow (hn a) (p b hb)
  · split
    · exact Nat.or_lt_two_pow (hn b) (p a ha)
    · exact hn t
theorem gF_join {I I' : m_I} {T a b p : Nat} {nb : Nat → Nat} (hF : gF I T nb) (ha : a < T) (hb : b < T) (hab : a ≠ b) (hp : p < 15) (c1 : ∀ t, t < 8 → I' 4 0 t = nI (nbJ nb a b t)) (c2 : ∀ t, t < T → I' 40 0 t = nI (nbJ nb a b t)) (c3 : I' 1 0 5 = nI p) (c4 : I' 35 0 8 = nI p) (c5 : ∀ x y z, x ≠ 4 → x ≠ 40 → ¬ (x = 1 ∧ z = 5) → ¬ (x = 35 ∧ z = 8) → I' x y z = I x y z) : gF I' T (nbJ nb a b) := by
  have hT8 := hF.1.2.1
  have hn := hF.2.1.2.2.2.1
  obtain ⟨f1, f2, f3, f4, g1, g2, g3, g4, g5⟩ := hF
  have hlt := nbJ_lt ha hb hn
  refine ⟨⟨by rw [c5 1 0 4 (by decide) (by decide) (by decide) (by decide)]; exact f1.1, hT8, fun t ht => ⟨c1 t ht, hlt t⟩, fun t ht => ?_⟩, ⟨by rw [c5 35 0 1 (by decide) (by decide) (by decide) (by decide)]; exact f2.1, hT8, c2, hlt, fun t => ?_⟩, fun x y => ?_, fun k t hk ht => ?_, fun t ht => ?_, fun t h8 ht => ?_, ?_, ?_, ?_⟩
  · unfold nbJ; rw [if_neg (by omega), if_neg (by omega)]; exact f1.2.2.2 t ht
  · have h1 := hlt t
    have h2 : 2 ^ T ≤ 2 ^ 8 := Nat.pow_le_pow_right (by omega) hT8
    have : 2 ^ 8 = 256 := rfl
    omega
  · rw [nbJ_bit hab, nbJ_bit hab, f3 x y]
    congr 1
    apply decide_eq_decide.mpr
    omega
  · have em : mv I' k t = mv I k t := by
      rw [mv_mk _ hk, mv_mk _ hk]
      have k1 := mk_ne (t := t) hk
      have k2 := mk_lt hk
      exact c5 _ _ _ (by omega) k1.2.2.2.2.1 (by omega) (fun z => by rcases k1.2.2.2.2.2.2.1 z.1 with q | q <;> omega)
    rw [em, c5 3 k t (by decide) (by decide) (by omega) (by omega)]
    exact f4 k t hk ht
  · rw [c5 41 0 t (by decide) (by decide) (by omega) (by omega), c5 6 0 t (by decide) (by decide) (by omega) (by omega)]; exact g1 t ht
  · rw [c5 6 0 t (by decide) (by decide) (by omega) (by omega)]; exact g2 t h8 ht
  · rw [c3, c4]
  · exact ⟨p, hp, c3⟩
  · rw [c5 35 0 9 (by decide) (by decide) (by decide) (by decide), c5 1 0 6 (by decide) (by decide) (by decide) (by decide)]; exact g5
theorem jn_path {P : bt_PT} {d : Nat} {G : m_I → m_L → Prop} {I : m_I} {L : m_L} {T : Nat} {nb : Nat → Nat} {n : Int32} (hF : gF I T nb) (h : ∀ I' nb', gF I' T nb' → (∀ g, g ≠ 1 → Qg g I I') → G I' L) :
    bt_WP P (d + 6) mi_B_path [vr 0 0, vi n] (I, L) (kI fun x I1 L1 => bt_WP P (d + 6) mi_M_path [vr 35 0, vi n] (I1, L1) (kI fun y I2 L2 => x = y ∧ G I2 L2)) := by
  have hr : G I L := h I nb hF (fun _ _ => Qg_rf)
  have hT8 := hF.1.2.1
  have hcT := hF.1.1
  have hmT := hF.2.1.1
  have z10 : ¬ (10 : Int32) = 0 := by decide
  by_cases q : n < 0
  · refine ru_B_path ⟨fun z => absurd z (Int32.not_le.mpr q), fun _ => ru_M_path ⟨fun _ => ⟨rfl, hr⟩, fun z => absurd q z⟩⟩
  · obtain ⟨n, hn, rfl⟩ := nI_of q
    have e1 : nI n / 10 = nI (n / 10) := pk_div (d := 10) hn (by omega) (by omega)
    have e2 : nI n - nI n / 10 * 10 = nI (n % 10) := pk_rem (d := 10) hn (by omega) (by omega)
    have hb10 : n % 10 < 10 := Nat.mod_lt _ (by omega)
    have ha30 : n / 10 < 2147483648 := by omega
    refine ru_B_path ⟨fun _ => ⟨z10, z10, ?_⟩, fun z => absurd (Int32.not_lt.mp q) z⟩
    rw [e1] at e2 ⊢
    rw [e2]
    generalize hea : n / 10 = a at *
    generalize heb : n % 10 = b at *
    have hm : ∀ (Q : Int32 → m_I → m_L → Prop) (I1 : m_I), _ → bt_WP P (d + 6) mi_M_path [vr 35 0, vi (nI n)] (I1, L) (kI Q) := fun Q I1 hh => ru_M_path ⟨fun z => absurd z q, fun _ => ⟨z10, (by rw [e1, e2]; exact hh)⟩⟩
    refine ru_Fo_join (sp_has hcT (bP_br (fun c1 => ?_) (fun c1 => sp_has hcT (bP_br (fun c2 => ?_) (fun c2 => ?_)))))
    · refine hm _ _ (sm_isTree hmT hT8 ?_)
      rw [bP_f c1]; exact ⟨fun _ => ⟨rfl, hr⟩, (fun z => absurd rfl z)⟩
    · refine hm _ _ (sm_isTree hmT hT8 ?_)
      rw [bP_t c1]
      refine ⟨(fun z => absurd z (by decide)), fun _ => ⟨z10, sm_isTree hmT hT8 ?_⟩⟩
      rw [bP_f c2]; exact ⟨fun _ => ⟨rfl, hr⟩, (fun z => absurd rfl z)⟩
    · have haT : a < T := by
        obtain ⟨a', ha', e⟩ := in_of (x := nI a) (n := T) (by omega) (fun q => c1 (oobL q)) (fun q => c1 (oobR q))
        rw [neq ha30 (by omega)] at e; omega
      have hbT : b < T := by
        obtain ⟨b', hb', e⟩ := in_of (x := nI b) (n := T) (by omega) (fun q => c2 (oobL q)) (fun q => c2 (oobR q))
        rw [neq (by omega) (by omega)] at e; omega
      have hm2 : ∀ (Q : Int32 → m_I → m_L → Prop) (I1 : m_I), I1 35 0 1 = nI T → _ → bt_WP P (d + 6) mi_M_path [vr 35 0, vi (nI n)] (I1, L) (kI Q) := fun Q I1 e3 hh => by
        refine hm Q I1 (sm_isTree e3 hT8 ?_)
        rw [bP_t c1]
        refine ⟨(fun z => absurd z (by decide)), fun _ => ⟨z10, sm_isTree e3 hT8 ?_⟩⟩
        rw [bP_t c2]
        exact ⟨(fun z => absurd z (by decide)), fun _ => ⟨z10, z10, hh⟩⟩
      refine ⟨fun e => hm2 _ _ hmT ⟨fun _ => ⟨rfl, hr⟩, fun z => absurd e z⟩, fun ne => ?_⟩
      have hab : a ≠ b := fun z => ne (by rw [z])
      have va : vp_in (nI a) 8 := ti_in (by omega) (by omega)
      have vb : vp_in (nI b) 8 := ti_in (by omega) (by omega)
      have ta : tn (nI a) = a := ti_tn (by omega)
      have tb : tn (nI b) = b := ti_tn (by omega)
      have l256 := iF_lt hF.1
      have ba : (1 : Int32) <<< (nI a &&& 31) = nI (2 ^ a) := nI_one (by omega)
      have bb : (1 : Int32) <<< (nI b &&& 31) = nI (2 ^ b) := nI_one (by omega)
      have na := (hF.1.2.2.1 a (by omega)).1
      have nbb := (hF.1.2.2.1 b (by omega)).1
      have ma := hF.2.1.2.2.1 a haT
      have mb := hF.2.1.2.2.1 b hbT
      obtain ⟨p, hp, e5⟩ := hF.2.2.2.2.2.2.2.1
      have e8 : I 35 0 8 = nI p := hF.2.2.2.2.2.2.1.trans e5
      have l14 : nI p < 14 ↔ p < 14 := nlt (b := 14) (by omega) (by omega)
      have q14 : nI p = 14 ↔ p = 14 := neq (b := 14) (by omega) (by omega)
      refine ⟨va, ?_⟩
      rw [ta, tb, na, nI_bit (by omega) (by have := l256 a; omega), e5]
      have hba : b ≠ a := Ne.symm hab
      have hm3 : ∀ (Q : Int32 → m_I → m_L → Prop) (I1 : m_I), jF I1 T nb → _ → bt_WP P (d + 6) mi_M_path [vr 35 0, vi (nI n)] (I1, L) (kI Q) := fun Q I1 hj hh => hm2 Q I1 hj.1 ⟨fun z => absurd z ne, fun _ => ⟨z10, z10, sm_areBeside hj haT (by omega) hh⟩⟩
      refine bP_br (fun c3 => ⟨fun c4 => ⟨va, va, vb, vb, ?_⟩, fun c4 => ?_⟩) (fun c3 => hm3 _ _ hF.2.1 ?_)
      · simp (disch := first | decide | assumption) only [ui_k, ui_j, ui_same, nbb, e5, ba, bb, nI_or, nI_s]
        refine hm3 _ _ ⟨by rw [ui_k (by decide), ui_k (by decide), ui_k (by decide)]; exact hmT, hT8, fun t ht => by rw [ui_k (by decide), ui_k (by decide), ui_k (by decide)]; exact hF.2.1.2.2.1 t ht, hF.2.1.2.2.2⟩ ?_
        rw [bP_f c3]
        simp (disch := first | decide | assumption) only [ui_k, ui_j, ui_same, e8, ta, tb, ma, mb, ba, bb, nI_or, nI_s]
        refine ⟨fun _ => ⟨fun _ => ⟨z10, va, z10, va, z10, vb, z10, vb, trivial, ?_⟩, fun z => absurd (l14.mp c4) (by have := q14.mp z; omega)⟩, fun z => absurd trivial z⟩
        refine h _ (nbJ nb a b) (gF_join hF haT hbT hab (p := p + 1) (by have := l14.mp c4; omega) (fun t ht => ?_) (fun t ht => ?_) ?_ ?_ (fun x y z n1 n2 n3 n4 => ?_)) (fun g hg x y z e => ?_)
        · unfold nbJ
          by_cases q1 : t = b
          · subst q1; simp (disch := first | decide | assumption) only [ui_k, ui_j, ui_same, if_pos, if_neg hba, if_true]
          · by_cases q2 : t = a
            · subst q2; simp (disch := first | decide | assumption) only [ui_k, ui_j, ui_same, if_true]
            · simp (disch := first | decide | assumption) only [ui_k, ui_j, if_neg q1, if_neg q2]; exact (hF.1.2.2.1 t ht).1
        · unfold nbJ
          by_cases q1 : t = b
          · subst q1; simp (disch := first | decide | assumption) only [ui_k, ui_j, ui_same, if_pos, if_neg hba, if_true]
          · by_cases q2 : t = a
            · subst q2; simp (disch := first | decide | assumption) only [ui_k, ui_j, ui_same, if_true]
            · simp (disch := first | decide | assumption) only [ui_k, ui_j, if_neg q1, if_neg q2]; exact hF.2.1.2.2.1 t ht
        · simp (disch := first | decide | assumption) only [ui_k, ui_same]
        · simp (disch := first | decide | assumption) only [ui_k, ui_same]
        · rw [uj_ne (fun w => n4 ⟨w.1, w.2.2⟩), ui_k n2, ui_k n2, uj_ne (fun w => n3 ⟨w.1, w.2.2⟩), ui_k n1, ui_k n1]
        · have n1 : x ≠ 4 := fun w => by subst w; exact hg e.symm
          have n2 : x ≠ 40 := fun w => by subst w; exact hg e.symm
          have n3 : x ≠ 1 := fun w => by subst w; exact hg e.symm
          rw [uj_ne (fun w => by obtain ⟨rfl, -, rfl⟩ := w; exact hg e.symm), ui_k n2, ui_k n2, ui_k n3, ui_k n1, ui_k n1]
      · refine hm3 _ _ hF.2.1 ?_
        rw [bP_f c3, e8]
        exact ⟨fun _ => ⟨fun z => absurd (l14.mpr (by have h50 : ¬ p = 14 := (fun w => z (q14.mpr w)); omega)) c4, fun _ => ⟨rfl, hr⟩⟩, (fun z => absurd rfl z)⟩
      · rw [bP_t c3]
        exact ⟨(fun z => absurd z (by decide)), fun _ => ⟨rfl, hr⟩⟩
