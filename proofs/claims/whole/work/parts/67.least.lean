/-! least: the fewest minutes that are heard; the class -/
def mnF (g : Nat → Nat) (b : Nat) : Nat → Nat
  | 0 => 1000
  | o + 1 => if b.testBit o = true ∧ g o < mnF g b o then g o else mnF g b o
theorem mnF_t {g : Nat → Nat} {b o : Nat} (h : b.testBit o = true ∧ g o < mnF g b o) : mnF g b (o + 1) = g o := by
  show (if _ then _ else _) = _
  rw [if_pos h]
theorem mnF_f {g : Nat → Nat} {b o : Nat} (h : ¬ (b.testBit o = true ∧ g o < mnF g b o)) : mnF g b (o + 1) = mnF g b o := by
  show (if _ then _ else _) = _
  rw [if_neg h]
theorem mnF_hi {g : Nat → Nat} {b T : Nat} (h : ∀ o, T ≤ o → ¬ b.testBit o = true) : ∀ k, mnF g b (T + k) = mnF g b T
  | 0 => rfl
  | k + 1 => by
    show mnF g b (T + k + 1) = _
    rw [mnF_f (fun z => h (T + k) (by omega) z.1), mnF_hi h k]
/-- the first of the quietest -/
def qiF (g : Nat → Nat) (b : Nat) : Nat → Option Nat
  | 0 => none
  | o + 1 => if b.testBit o = true then (match qiF g b o with
    | none => some o
    | some q => if g o < g q then some o else some q) else qiF g b o
theorem qiF_f {g : Nat → Nat} {b o : Nat} (h : ¬ b.testBit o = true) : qiF g b (o + 1) = qiF g b o := by
  show (if _ then _ else _) = _
  rw [if_neg h]
theorem qiF_n {g : Nat → Nat} {b o : Nat} (h : b.testBit o = true) (h2 : qiF g b o = none) : qiF g b (o + 1) = some o := by
  show (if _ then _ else _) = _
  rw [if_pos h, h2]
theorem qiF_s {g : Nat → Nat} {b o q : Nat} (h : b.testBit o = true) (h2 : qiF g b o = some q) : qiF g b (o + 1) = if g o < g q then some o else some q := by
  show (if _ then _ else _) = _
  rw [if_pos h, h2]
theorem qiF_hi {g : Nat → Nat} {b T : Nat} (h : ∀ o, T ≤ o → ¬ b.testBit o = true) : ∀ k, qiF g b (T + k) = qiF g b T
  | 0 => rfl
  | k + 1 => by
    show qiF g b (T + k + 1) = _
    rw [qiF_f (h (T + k) (by omega)), qiF_hi h k]
theorem qi_mn {g : Nat → Nat} {b : Nat} (hg : ∀ o, g o ≤ 1000) : ∀ n, (qiF g b n = none ∧ (∀ o, o < n → ¬ b.testBit o = true) ∧ mnF g b n = 1000) ∨ ∃ q, qiF g b n = some q ∧ q < n ∧ b.testBit q = true ∧ mnF g b n = g q ∧ (∀ o, o < n → b.testBit o = true → g q ≤ g o) ∧ ∀ o, o < q → b.testBit o = true → g q < g o
  | 0 => Or.inl ⟨rfl, fun o ho => by omega, rfl⟩
  | n + 1 => by
    have hgn := hg n
    rcases qi_mn hg n with ⟨h1, h2, h3⟩ | ⟨q, h1, h2, h3, h4, h5, h6⟩
    · by_cases e : b.testBit n = true
      · right
        refine ⟨n, qiF_n e h1, by omega, e, ?_, fun o ho hb => ?_, fun o ho hb => absurd hb (h2 o ho)⟩
        · by_cases y : g n < 1000
          · exact mnF_t ⟨e, by rw [h3]; exact y⟩
          · rw [mnF_f (fun z => y (by rw [← h3]; exact z.2)), h3]; omega
        · by_cases eo : o = n
          · subst eo; exact Nat.le_refl _
          · exact absurd hb (h2 o (by omega))
      · left
        refine ⟨by rw [qiF_f e]; exact h1, fun o ho => ?_, by rw [mnF_f (fun z => e z.1)]; exact h3⟩
        by_cases eo : o = n
        · subst eo; exact e
        · exact h2 o (by omega)
    · right
      by_cases e : b.testBit n = true
      · by_cases y : g n < g q
        · refine ⟨n, by rw [qiF_s e h1, if_pos y], by omega, e, mnF_t ⟨e, by rw [h4]; exact y⟩, fun o ho hb => ?_, fun o ho hb => ?_⟩
          · by_cases eo : o = n
            · subst eo; exact Nat.le_refl _
            · have := h5 o (by omega) hb; omega
          · have := h5 o (by omega) hb; omega
        · refine ⟨q, by rw [qiF_s e h1, if_neg y], by omega, h3, by rw [mnF_f (fun z => y (by rw [← h4]; exact z.2)), h4], fun o ho hb => ?_, h6⟩
          by_cases eo : o = n
          · subst eo; omega
          · exact h5 o (by omega) hb
      · refine ⟨q, by rw [qiF_f e]; exact h1, by omega, h3, by rw [mnF_f (fun z => e z.1)]; exact h4, fun o ho hb => ?_, h6⟩
        by_cases eo : o = n
        · subst eo; exact absurd hb e
        · exact h5 o (by omega) hb
/-- a minute is heard -/
noncomputable def nsN (S : Nat → Nat → Int32) (t m : Nat) : Nat := @ite Nat (S t m = -1) (Classical.propDecidable _) 0 1
theorem nsN_0 {S : Nat → Nat → Int32} {t m : Nat} (h : S t m = -1) : nsN S t m = 0 := by unfold nsN; rw [if_pos h]
theorem nsN_1 {S : Nat → Nat → Int32} {t m : Nat} (h : ¬ S t m = -1) : nsN S t m = 1 := by unfold nsN; rw [if_neg h]
theorem nsN_le {S : Nat → Nat → Int32} {t m : Nat} : nsN S t m ≤ 1 := by
  by_cases h : S t m = -1
  · rw [nsN_0 h]; omega
  · rw [nsN_1 h]; omega
noncomputable def lsR (S : Nat → Nat → Int32) (nb : Nat → Nat) (T to b : Nat) : Nat → Nat → Nat
  | 0, t => if t = to then nsN S t b else 1000
  | r + 1, t => if mnF (lsR S nb T to b r) (arN nb t) T = 1000 then 1000 else mnF (lsR S nb T to b r) (arN nb t) T + nsN S t (b - (r + 1))
noncomputable def lsN (S : Nat → Nat → Int32) (nb : Nat → Nat) (T to b m t : Nat) : Nat := lsR S nb T to b (b - m) t
section LSN
variable {S : Nat → Nat → Int32} {nb : Nat → Nat} {T to b : Nat}
theorem lsR_v : ∀ r t, lsR S nb T to b r t = 1000 ∨ lsR S nb T to b r t ≤ r + 1
  | 0, t => by
    show (if t = to then _ else _) = 1000 ∨ (if t = to then _ else _) ≤ 0 + 1
    by_cases h : t = to
    · rw [if_pos h]; have := nsN_le (S := S) (t := t) (m := b); right; omega
    · rw [if_neg h]; exact Or.inl rfl
  | r + 1, t => by
    show (if mnF (lsR S nb T to b r) (arN nb t) T = 1000 then _ else _) = 1000 ∨ (if mnF (lsR S nb T to b r) (arN nb t) T = 1000 then _ else _) ≤ r + 1 + 1
    by_cases h : mnF (lsR S nb T to b r) (arN nb t) T = 1000
    · rw [if_pos h]; exact Or.inl rfl
    · rw [if_neg h]
      right
      have hn := nsN_le (S := S) (t := t) (m := b - (r + 1))
      have hm : ∀ n, mnF (lsR S nb T to b r) (arN nb t) n = 1000 ∨ mnF (lsR S nb T to b r) (arN nb t) n ≤ r + 1 := by
        intro n
        induction n with
        | zero => exact Or.inl rfl
        | succ n ih =>
          by_cases q : (arN nb t).testBit n = true ∧ lsR S nb T to b r n < mnF (lsR S nb T to b r) (arN nb t) n
          · rw [mnF_t q]; exact lsR_v r n
          · rw [mnF_f q]; exact ih
      have := (hm T).resolve_left h
      omega
theorem lsN_v {m t : Nat} (hb : b < 24) : lsN S nb T to b m t = 1000 ∨ lsN S nb T to b m t ≤ 25 := by
  rcases lsR_v (S := S) (nb := nb) (T := T) (to := to) (b := b) (b - m) t with h | h
  · exact Or.inl h
  · right; unfold lsN; omega
theorem lsN_1000 {m t : Nat} (hb : b < 24) : lsN S nb T to b m t ≤ 1000 := by
  rcases lsN_v (S := S) (nb := nb) (T := T) (to := to) (m := m) (t := t) hb with h | h <;> omega
theorem lsN_b {t : Nat} : lsN S nb T to b b t = if t = to then nsN S t b else 1000 := by
  unfold lsN; rw [Nat.sub_self]; rfl
theorem lsN_s {m t : Nat} (hm : m < b) : lsN S nb T to b m t = if mnF (lsN S nb T to b (m + 1)) (arN nb t) T = 1000 then 1000 else mnF (lsN S nb T to b (m + 1)) (arN nb t) T + nsN S t m := by
  unfold lsN
  rw [show b - m = (b - (m + 1)) + 1 by omega]
  show (if mnF (lsR S nb T to b (b - (m + 1))) (arN nb t) T = 1000 then 1000 else mnF (lsR S nb T to b (b - (m + 1))) (arN nb t) T + nsN S t (b - (b - (m + 1) + 1))) = _
  rw [show b - (b - (m + 1) + 1) = m by omega]
end LSN
def qiI : Option Nat → Int32
  | none => -1
  | some q => nI q
section LSC
variable {P : bt_PT} {d : Nat} {f : Int32 → m_I → m_L → Prop} {I0 I : m_I} {L : m_L} {T hu bn : Nat} {nb : Nat → Nat} {X : Nat → sH} {Z : Nat → Nat} {F : lF}
theorem sp_qtL (hT : I 1 0 4 = nI T) (hT8 : T ≤ 8) {g : Nat → Nat} {m b : Nat} (hm : m < 24) (hb : b < 2 ^ T) (hg1 : ∀ o, g o ≤ 1000) (hg : ∀ o, o < T → I 18 m o = nI (g o)) (h : f (qiI (qiF g b T)) I L) : ∀ (k o : Nat), o + k = 8 → bt_Go P (d + 2) mi_Wa_quietest (kI f) 5 [some (vr 16 0), some (vi (nI m)), some (vi (nI b)), some (vi (qiI (qiF g b o))), some (vi (nI o)), none] [] (I, L)
  | 0, o, e => by
    have e : o = T + (8 - T) := by omega
    refine ru_Wa_quietest_5 ⟨fun _ => ?_, fun q => absurd ((nle (a := 8) (by omega) (by omega)).mpr (by omega)) q⟩
    rw [e, qiF_hi (bit_T hb)]; exact h
  | k + 1, o, e => by
    have ih := sp_qtL hT hT8 hm hb hg1 hg h k (o + 1) (by omega)
    have p8 : 2 ^ T ≤ 2 ^ 8 := Nat.pow_le_pow_right (by omega) hT8
    have p256 : 2 ^ 8 = 256 := rfl
    refine ru_Wa_quietest_5 ⟨fun q => absurd ((nle (a := 8) (by omega) (by omega)).mp q) (by omega), fun _ => ?_⟩
    rw [nI_bit (by omega) (by omega), nI_s]
    refine bP_br (fun q => ⟨fun _ => ?_, (fun z => absurd rfl z)⟩) (fun q => ⟨(fun z => absurd z (by decide)), fun _ => ?_⟩)
    · rw [qiF_f q] at ih; exact ih
    · have ho : o < T := by
        rcases Nat.lt_or_ge o T with y | y
        · exact y
        · exact absurd q (bit_T hb o y)
      rcases qi_mn (b := b) hg1 o with ⟨h1, -, -⟩ | ⟨w, h1, h2, -⟩
      · rw [qiF_n q h1] at ih
        rw [h1]
        exact ⟨fun _ => ih, fun z => absurd (show (-1 : Int32) < 0 by decide) z⟩
      · rw [qiF_s q h1] at ih
        rw [h1]
        have ho1 := hg1 o
        have hw1 := hg1 w
        refine ⟨fun z => absurd (show nI w < 0 from z) (n_neg (by omega)), fun _ => sp_onAt hT hT8 hm ho (sp_onAt (t := w) hT hT8 hm (by omega) ?_)⟩
        rw [hg o ho, hg w (by omega), nle (by omega) (by omega)]
        refine ⟨fun z => ?_, fun z => ?_⟩
        · rw [if_neg (by omega)] at ih; exact ih
        · rw [if_pos (by omega)] at ih; exact ih
theorem sp_quietest (hT : I 1 0 4 = nI T) (hT8 : T ≤ 8) {g : Nat → Nat} {m b : Nat} (hm : m < 24) (hb : b < 2 ^ T) (hg1 : ∀ o, g o ≤ 1000) (hg : ∀ o, o < T → I 18 m o = nI (g o)) (h : f (qiI (qiF g b T)) I L) : bt_WP P (d + 3) mi_Wa_quietest [vr 16 0, vi (nI m), vi (nI b)] (I, L) (kI f) :=
  ru_Wa_quietest (sp_qtL hT hT8 hm hb hg1 hg h 8 0 rfl)
/-- a tree's neighbours have a quietest -/
theorem qi_ar (hF : iF I T nb) {g : Nat → Nat} (hg1 : ∀ o, g o ≤ 1000) {t : Nat} (ht : t < T) : ∃ q, qiF g (arN nb t) T = some q ∧ q < T ∧ (arN nb t).testBit q = true ∧ mnF g (arN nb t) T = g q ∧ (∀ o, o < T → (arN nb t).testBit o = true → g q ≤ g o) ∧ ∀ o, o < q → (arN nb t).testBit o = true → g q < g o := by
  rcases qi_mn (b := arN nb t) hg1 T with ⟨h1, h2, -⟩ | h
  · exact absurd (by rw [Nat.testBit_or, Nat.testBit_two_pow, Bool.or_eq_true, decide_eq_true_iff]; exact Or.inr rfl) (h2 t ht)
  · exact h
theorem sp_ms23 {f : m_I → m_L → Prop} (h : cx P I0 L T hu bn nb X Z F) {S : Nat → Nat → Int32} {to a b m : Nat} (hto : to < T) (hb : b < 24) (hm : m ≤ b) (hfl : flS I0 0 S)
    (g : ∀ I, off18 I0 I → (∀ m' o, m ≤ m' → m' ≤ b → o < T → I 18 m' o = nI (lsN S nb T to b m' o)) → bt_Go P (d + 3) mi_Wa_measure (kV f) 9 [some (vr 16 0), some (vr 12 0), some (vi (nI to)), some (vi (nI a)), some (vi (nI b)), some (vi (nI m - 1)), none, none, none] [] (I, L)) :
    ∀ (k t : Nat) (I : m_I), t + k = T → off18 I0 I → (∀ m' o, m < m' → m' ≤ b → o < T → I 18 m' o = nI (lsN S nb T to b m' o)) → (∀ o, o < t → I 18 m o = nI (lsN S nb T to b m o)) → bt_Go P (d + 3) mi_Wa_measure (kV f) 23 [some (vr 16 0), some (vr 12 0), some (vi (nI to)), some (vi (nI a)), some (vi (nI b)), some (vi (nI m)), some (vi (nI t)), none, none] [] (I, L)
  | 0, t, I, e, ho, h1, h2 => by
    have hT8 := (cx_T h).2
    have e : t = T := by omega
    subst e
    have hT : I 1 0 4 = nI t := (ho 1 0 4 (by decide)).trans (cx_T h).1
    have em : nI m + (-1) = nI m - 1 := by rw [Int32.sub_eq_add_neg]
    refine ru_Wa_measure_23 (ru_Fo_size ⟨fun _ => ?_, fun z => absurd (by rw [hT]; exact Int32.le_refl _) z⟩)
    rw [em]
    refine g I ho (fun m' o a1 a2 a3 => ?_)
    by_cases q : m' = m
    · subst q; exact h2 o a3
    · exact h1 m' o (by omega) a2 a3
  | k + 1, t, I, e, ho, h1, h2 => by
    have hT8 := (cx_T h).2
    have hx := cx_S h (off18_S (L := L) ho)
    have hT : I 1 0 4 = nI T := (ho 1 0 4 (by decide)).trans (cx_T h).1
    have vm : vp_in (nI m) 24 := ti_in (by omega) (by omega)
    have vt : vp_in (nI t) 8 := ti_in (by omega) (by omega)
    have tm : tn (nI m) = m := ti_tn (by omega)
    have tt : tn (nI t) = t := ti_tn (by omega)
    have hgo : ∀ (v : Int32), v = nI (lsN S nb T to b m t) → bt_Go P (d + 3) mi_Wa_measure (kV f) 23 [some (vr 16 0), some (vr 12 0), some (vi (nI to)), some (vi (nI a)), some (vi (nI b)), some (vi (nI m)), some (vi (nI (t + 1))), none, none] [] (ui I 18 m t v, L) := fun v hv => by
      refine sp_ms23 h hto hb hm hfl g k (t + 1) _ (by omega) (fun a b c z => by rw [ui_k z]; exact ho a b c z) (fun m' o a1 a2 a3 => by rw [ui_i (by omega)]; exact h1 m' o a1 a2 a3) (fun o a1 => ?_)
      by_cases q : o = t
      · subst q; rw [ui_same, hv]
      · rw [ui_j q]; exact h2 o (by omega)
    have hat : ∀ Q : Int32 → m_I → m_L → Prop, Q (S t m) I L → bt_WP P (d + 3) mi_So_at [vr 12 0, vi (nI t), vi (nI m)] (I, L) (kI Q) := fun Q hQ => by
      refine sp_SoAt hT hT8 (by omega) (by omega) ?_
      rw [ho 14 _ m (by decide), hfl t m (by omega) (by omega)]; exact hQ
    have hbm : nI b ≤ nI m ↔ m = b := by rw [nle (by omega) (by omega)]; omega
    have hto' : nI t = nI to ↔ t = to := neq (by omega) (by omega)
    have hlv := lsN_v (S := S) (nb := nb) (T := T) (to := to) (m := m) (t := t) hb
    have hsub : ¬ m = b → ∀ Q : Int32 → m_I → m_L → Prop, Q (nI (mnF (lsN S nb T to b (m + 1)) (arN nb t) T)) I L → bt_WP P (d + 3) mi_Fo_around [vr 1 0, vi (nI t)] (I, L) (kI fun x9 I7 N8 => bt_WP P (d + 3) mi_Wa_quietest [vr 16 0, vi (nI (m + 1)), vi x9] (I7, N8) (kI fun x12 I10 N11 => bt_WP P (d + 3) mi_Wa_onwardAt [vr 16 0, vi (nI (m + 1)), vi x12] (I10, N11) (kI Q))) := fun q Q hQ => by
      obtain ⟨w, w1, w2, -, w4, -⟩ := qi_ar hx.1.1 (g := lsN S nb T to b (m + 1)) (fun o => lsN_1000 hb) (t := t) (by omega)
      refine sp_around hx.1.1 (by omega) (sp_quietest hT hT8 (by omega) (ar_T hx.1.1 (by omega)) (g := lsN S nb T to b (m + 1)) (fun o => lsN_1000 hb) (fun o a1 => h1 (m + 1) o (by omega) (by omega) a1) ?_)
      rw [w1]
      refine sp_onAt hT hT8 (by omega) w2 ?_
      rw [h1 (m + 1) w (by omega) (by omega) w2, ← w4]; exact hQ
    have hmn : ¬ m = b → (nI (mnF (lsN S nb T to b (m + 1)) (arN nb t) T) = 1000 ↔ mnF (lsN S nb T to b (m + 1)) (arN nb t) T = 1000) := fun q => by
      obtain ⟨w, w1, w2, -, w4, -⟩ := qi_ar hx.1.1 (g := lsN S nb T to b (m + 1)) (fun o => lsN_1000 hb) (t := t) (by omega)
      have := lsN_1000 (S := S) (nb := nb) (T := T) (to := to) (m := m + 1) (t := w) hb
      exact neq (b := 1000) (by omega) (by omega)
    refine ru_Wa_measure_23 (ru_Fo_size ⟨fun z => ?_, fun _ => ?_⟩)
    · rw [hT, nle (by omega) (by omega)] at z; omega
    rw [tm, tt, nI_s, nI_s]
    have hlate : ¬ m = b → bt_WP P (d + 3) mi_Fo_around [vr 1 0, vi (nI t)] (I, L) (kI fun x9 I7 N8 => bt_WP P (d + 3) mi_Wa_quietest [vr 16 0, vi (nI (m + 1)), vi x9] (I7, N8) (kI fun x12 I10 N11 => bt_WP P (d + 3) mi_Wa_onwardAt [vr 16 0, vi (nI (m + 1)), vi x12] (I10, N11) (kI fun x15 I13 N14 => bt_WP P (d + 3) mi_So_at [vr 12 0, vi (nI t), vi (nI m)] (I13, N14) (kI fun x18 I16 N17 => (¬ x18 = (-1) → (vp_in (nI m) 24 ∧ ((¬ x15 = 1000 → (vp_in (nI t) 8 ∧ (bt_Go P (d + 3) mi_Wa_measure (kV f) 23 [some (vr 16 0), some (vr 12 0), some (vi (nI to)), some (vi (nI a)), some (vi (nI b)), some (vi (nI m)), some (vi (nI (t + 1))), none, none] [] (ui I16 18 m t (x15 + 1), N17)))) ∧ (x15 = 1000 → (vp_in (nI t) 8 ∧ (bt_Go P (d + 3) mi_Wa_measure (kV f) 23 [some (vr 16 0), some (vr 12 0), some (vi (nI to)), some (vi (nI a)), some (vi (nI b)), some (vi (nI m)), some (vi (nI (t + 1))), none, none] [] (ui I16 18 m t 1000, N17))))))) ∧ (x18 = (-1) → (vp_in (nI m) 24 ∧ ((¬ x15 = 1000 → (vp_in (nI t) 8 ∧ (bt_Go P (d + 3) mi_Wa_measure (kV f) 23 [some (vr 16 0), some (vr 12 0), some (vi (nI to)), some (vi (nI a)), some (vi (nI b)), some (vi (nI m)), some (vi (nI (t + 1))), none, none] [] (ui I16 18 m t (x15 + 0), N17)))) ∧ (x15 = 1000 → (vp_in (nI t) 8 ∧ (bt_Go P (d + 3) mi_Wa_measure (kV f) 23 [some (vr 16 0), some (vr 12 0), some (vi (nI to)), some (vi (nI a)), some (vi (nI b)), some (vi (nI m)), some (vi (nI (t + 1))), none, none] [] (ui I16 18 m t 1000, N17))))))))))) := fun q => by
      refine hsub q _ (hat _ ?_)
      have hls := lsN_s (S := S) (nb := nb) (T := T) (to := to) (b := b) (m := m) (t := t) (by omega)
      rw [hmn q]
      refine ⟨fun y => ⟨vm, fun y2 => ⟨vt, hgo _ ?_⟩, fun y2 => ⟨vt, hgo _ ?_⟩⟩, fun y => ⟨vm, fun y2 => ⟨vt, hgo _ ?_⟩, fun y2 => ⟨vt, hgo _ ?_⟩⟩⟩
      · rw [hls, if_neg y2, nsN_1 y, nI_s]
      · rw [hls, if_pos y2]; rfl
      · (rw [hls, if_neg y2, nsN_0 y, Int32.add_zero]) <;> rfl
      · rw [hls, if_pos y2]; rfl
    refine ⟨fun q1 => ⟨fun q2 => hat _ ?_, fun q2 => hlate (fun y => q2 (hbm.mpr y))⟩, fun q1 => ⟨fun q2 => hat _ ?_, fun q2 => hlate (fun y => q2 (hbm.mpr y))⟩⟩
    · have e := hbm.mp q2
      subst e
      have hv : (1000 : Int32) = nI (lsN S nb T to m m t) := by rw [lsN_b, if_neg (fun y => q1 (hto'.mpr y))]; rfl
      exact ⟨fun y => ⟨vm, (fun z => absurd rfl z), fun _ => ⟨vt, hgo _ hv⟩⟩, fun y => ⟨vm, (fun z => absurd rfl z), fun _ => ⟨vt, hgo _ hv⟩⟩⟩
    · have e := hbm.mp q2
      subst e
      have e2 := hto'.mp q1
      refine ⟨fun y => ⟨vm, fun _ => ⟨vt, hgo _ ?_⟩, (fun z => absurd z (by decide))⟩, fun y => ⟨vm, fun _ => ⟨vt, hgo _ ?_⟩, (fun z => absurd z (by decide))⟩⟩
      · rw [lsN_b, if_pos e2, nsN_1 y]; rfl
      · rw [lsN_b, if_pos e2, nsN_0 y]; rfl
theorem sp_ms9 {f : m_I → m_L → Prop} (h : cx P I0 L T hu bn nb X Z F) {S : Nat → Nat → Int32} {to a b : Nat} (hto : to < T) (hb : b < 24) (hab : a ≤ b) (hfl : flS I0 0 S)
    (g : ∀ I, off18 I0 I → (∀ m' o, a ≤ m' → m' ≤ b → o < T → I 18 m' o = nI (lsN S nb T to b m' o)) → f I L) :
    ∀ (k j : Nat) (I : m_I), a + k = j → j ≤ b + 1 → off18 I0 I → (∀ m' o, j ≤ m' → m' ≤ b → o < T → I 18 m' o = nI (lsN S nb T to b m' o)) → bt_Go P (d + 3) mi_Wa_measure (kV f) 9 [some (vr 16 0), some (vr 12 0), some (vi (nI to)), some (vi (nI a)), some (vi (nI b)), some (vi (nI j - 1)), none, none, none] [] (I, L)
  | 0, j, I, e, hj, ho, h1 => by
    have e : j = a := by omega
    subst e
    refine ru_Wa_measure_9 ⟨fun _ => g I ho h1, fun z => absurd ?_ z⟩
    rw [ti_lt, i_sub1 (by omega), ti_nI (by omega)]; omega
  | k + 1, j, I, e, hj, ho, h1 => by
    obtain ⟨m, rfl⟩ : ∃ m, j = m + 1 := ⟨j - 1, by omega⟩
    rw [nI_pred]
    refine ru_Wa_measure_9 ⟨fun z => absurd ((nlt (by omega) (by omega)).mp z) (by omega), fun _ => ⟨fun z => absurd z (n_neg (by omega)), fun _ => ?_⟩⟩
    exact sp_ms23 h hto hb (by omega) hfl (fun I' a1 a2 => sp_ms9 h hto hb hab hfl g k m I' (by omega) (by omega) a1 a2) T 0 I (by omega) ho (fun m' o b1 b2 b3 => h1 m' o (by omega) b2 b3) (fun o b1 => by omega)
theorem sp_measure {f : m_I → m_L → Prop} (h : cx P I L T hu bn nb X Z F) {S : Nat → Nat → Int32} {to a b : Nat} (hto : to < T) (hb : b < 24) (hab : a ≤ b) (hfl : flS I 0 S)
    (g : ∀ I', off18 I I' → (∀ m' o, a ≤ m' → m' ≤ b → o < T → I' 18 m' o = nI (lsN S nb T to b m' o)) → f I' L) : bt_WP P (d + 4) mi_Wa_measure [vr 16 0, vr 12 0, vi (nI to), vi (nI a), vi (nI b)] (I, L) (kV f) := by
  have hT8 := (cx_T h).2
  refine ru_Wa_measure ?_
  have e23 : ¬ (23 : Int32) < nI b := fun z => absurd ((nlt (a := 23) (by omega) (by omega)).mp z) (by omega)
  rw [if_neg e23]
  refine (show bt_Go P (d + 3) mi_Wa_measure (kV f) 9 [some (vr 16 0), some (vr 12 0), some (vi (nI to)), some (vi (nI a)), some (vi (nI b)), some (vi (nI b)), none, none, none] [] (I, L) from ?_)
  have eb : nI b = nI (b + 1) - 1 := (nI_pred b).symm
  suffices hh : bt_Go P (d + 3) mi_Wa_measure (kV f) 9 [some (vr 16 0), some (vr 12 0), some (vi (nI to)), some (vi (nI a)), some (vi (nI b)), some (vi (nI (b + 1) - 1)), none, none, none] [] (I, L) by rw [← eb] at hh; exact hh
  exact sp_ms9 h hto hb hab hfl g (b + 1 - a) (b + 1) I (by omega) (Nat.le_refl _) (fun _ _ _ _ => rfl) (fun m' o a1 a2 => by omega)
/-- the quiet way -/
def qtN (ls : Nat → Nat → Nat) (nb : Nat → Nat) (T a fr : Nat) : Nat → Nat
  | 0 => fr
  | r + 1 => (qiF (ls (a + r + 1)) (arN nb (qtN ls nb T a fr r)) T).getD 0
theorem qt_s {S : Nat → Nat → Int32} {to a b fr : Nat} (hF : iF I T nb) (hfr : fr < T) (hb : b < 24) (h0 : ¬ lsN S nb T to b a fr = 1000) : ∀ r, a + r ≤ b → qtN (lsN S nb T to b) nb T a fr r < T ∧ ¬ lsN S nb T to b (a + r) (qtN (lsN S nb T to b) nb T a fr r) = 1000
  | 0, _ => ⟨hfr, h0⟩
  | r + 1, h => by
    obtain ⟨h1, h2⟩ := qt_s hF hfr hb h0 r (by omega)
    obtain ⟨w, w1, w2, -, w4, -⟩ := qi_ar hF (g := lsN S nb T to b (a + r + 1)) (fun o => lsN_1000 hb) h1
    have e : qtN (lsN S nb T to b) nb T a fr (r + 1) = w := by
      show (qiF (lsN S nb T to b (a + r + 1)) (arN nb (qtN (lsN S nb T to b) nb T a fr r)) T).getD 0 = w
      rw [w1]; rfl
    rw [e]
    refine ⟨w2, fun z => h2 ?_⟩
    rw [lsN_s (by omega), if_pos]
    rw [w4]; exact z
theorem sp_qat8 (h : cx P I L T hu bn nb X Z F) {S : Nat → Nat → Int32} {to a b fr at' : Nat} (hfr : fr < T) (hb : b < 24) (hab : at' ≤ b) (h0 : ¬ lsN S nb T to b a fr = 1000) (hls : ∀ m' o, a ≤ m' → m' ≤ b → o < T → I 18 m' o = nI (lsN S nb T to b m' o)) : ∀ (k r : Nat), a + r + k = at' → f (nI (qtN (lsN S nb T to b) nb T a fr (r + k))) I L → bt_Go P (d + 3) mi_Wa_quietAt (kI f) 8 [some (vr 16 0), none, none, some (vi (nI at')), some (vi (nI (qtN (lsN S nb T to b) nb T a fr r))), some (vi (nI (a + r + 1)))] [] (I, L)
  | 0, r, e, g => ru_Wa_quietAt_8 ⟨fun _ => g, fun z => absurd ((nlt (by omega) (by omega)).mpr (by omega)) z⟩
  | k + 1, r, e, g => by
    obtain ⟨hT, hT8⟩ := cx_T h
    obtain ⟨h1, h2⟩ := qt_s h.1.1 hfr hb h0 r (by omega)
    obtain ⟨w, w1, w2, -, w4, -⟩ := qi_ar h.1.1 (g := lsN S nb T to b (a + r + 1)) (fun o => lsN_1000 hb) h1
    have e2 : qtN (lsN S nb T to b) nb T a fr (r + 1) = w := by
      show (qiF (lsN S nb T to b (a + r + 1)) (arN nb (qtN (lsN S nb T to b) nb T a fr r)) T).getD 0 = w
      rw [w1]; rfl
    refine ru_Wa_quietAt_8 ⟨fun z => absurd ((nlt (by omega) (by omega)).mp z) (by omega), fun _ => ⟨fun z => absurd ((nle (a := 24) (by omega) (by omega)).mp z) (by omega), fun _ => sp_around h.1.1 h1 (sp_quietest hT hT8 (by omega) (ar_T h.1.1 h1) (g := lsN S nb T to b (a + r + 1)) (fun o => lsN_1000 hb) (fun o b1 => hls (a + r + 1) o (by omega) (by omega) b1) ?_)⟩⟩
    rw [w1, nI_s]
    have ih := sp_qat8 h hfr hb hab h0 hls k (r + 1) (by omega) (by rw [show r + 1 + k = r + (k + 1) by omega]; exact g)
    rw [e2] at ih; exact ih
end LSC
