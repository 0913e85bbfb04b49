/-! years: joint -/
def nxD (z : Int32) : Int32 := (z * 1103515245) + 12345
def ltD (x3 : Int32) : Int32 := ((x3.toUInt32 >>> ((8 : Int32).toUInt32 &&& Int32.toUInt32 31)).toInt32) - ((x3.toUInt32 >>> ((8 : Int32).toUInt32 &&& Int32.toUInt32 31)).toInt32) / 12 * 12
def upN (g : Nat → Nat) (t v : Nat) : Nat → Nat := fun x => if x = t then v else g x
theorem upN_s (g : Nat → Nat) (t v : Nat) : upN g t v t = v := by unfold upN; rw [if_pos rfl]
theorem upN_n {g : Nat → Nat} {t v x : Nat} (h : x ≠ t) : upN g t v x = g x := by unfold upN; rw [if_neg h]
abbrev grS : Type := Int32 × (Nat → Nat) × (Nat → Nat)
def gr1 (s : grS) (t : Nat) : grS := if ltD (nxD s.1) = 0 then (nxD s.1, upN s.2.1 t (s.2.1 t - 1), s.2.2) else if ltD (nxD s.1) = 11 then (nxD s.1, s.2.1, upN s.2.2 t (min 9 (s.2.2 t + 1))) else (nxD s.1, s.2.1, s.2.2)
def grT (s : grS) : Nat → grS
  | 0 => s
  | t + 1 => gr1 (grT s t) t
def grY (T : Nat) (s : grS) : Nat → grS
  | 0 => s
  | y + 1 => grT (grY T s y) T
theorem gr1_0 {s : grS} {t : Nat} (h : ltD (nxD s.1) = 0) : gr1 s t = (nxD s.1, upN s.2.1 t (s.2.1 t - 1), s.2.2) := by unfold gr1; rw [if_pos h]
theorem gr1_11 {s : grS} {t : Nat} (h0 : ¬ ltD (nxD s.1) = 0) (h : ltD (nxD s.1) = 11) : gr1 s t = (nxD s.1, s.2.1, upN s.2.2 t (min 9 (s.2.2 t + 1))) := by unfold gr1; rw [if_neg h0, if_pos h]
theorem gr1_o {s : grS} {t : Nat} (h0 : ¬ ltD (nxD s.1) = 0) (h : ¬ ltD (nxD s.1) = 11) : gr1 s t = (nxD s.1, s.2.1, s.2.2) := by unfold gr1; rw [if_neg h0, if_neg h]
theorem gr1_1 (s : grS) (t : Nat) : (gr1 s t).1 = nxD s.1 := by unfold gr1; split <;> (try split) <;> rfl
def crC (I0 I : m_I) (s : grS) (T : Nat) : Prop := (∀ t, t < T → I 3 0 t = nI (s.2.1 t) ∧ I 3 2 t = nI (s.2.2 t) ∧ s.2.1 t < 10 ∧ s.2.2 t < 10) ∧ ∀ a b c, ¬ (a = 3 ∧ (b = 0 ∨ b = 2) ∧ c < T) → I a b c = I0 a b c
def crM (I0 I : m_I) (s : grS) (T : Nat) : Prop := (∀ t, t < T → I 36 0 t = nI (s.2.1 t) ∧ I 38 0 t = nI (s.2.2 t) ∧ s.2.1 t < 10 ∧ s.2.2 t < 10) ∧ I 35 0 38 = s.1 ∧ ∀ a b c, ¬ ((a = 36 ∨ a = 38) ∧ c < T) → ¬ (a = 35 ∧ c = 38) → I a b c = I0 a b c
theorem gr_mx : ∀ p, p < 10 → (if (0 : Int32) < nI p - 1 then nI p - 1 else 0) = nI (p - 1) := by decide +kernel
theorem gr_mn : ∀ p, p < 10 → (if nI p + 1 < bt_SV 0 (tn 2) then nI p + 1 else bt_SV 0 (tn 2)) = nI (min 9 (p + 1)) := by decide +kernel
theorem gr_le0 : ∀ p, p < 10 → (nI p ≤ 0 ↔ p = 0) := by decide +kernel
theorem gr_le9 : ∀ p, p < 10 → ((9 : Int32) ≤ nI p ↔ p = 9) := by decide +kernel
def sI (p : Nat → Nat) : Nat → Int32
  | 0 => 0
  | t + 1 => sI p t + nI (p t)
theorem sp_grSum {P : bt_PT} {d : Nat} {f : Int32 → m_I → m_L → Prop} {L : m_L} {I : m_I} {T : Nat} {p : Nat → Nat} (hT : I 1 0 4 = nI T) (hT8 : T ≤ 8) (hp : ∀ t, t < T → I 3 0 t = nI (p t)) (h : f (sI p T) I L) : ∀ (m t : Nat), t + m = T → bt_Go P (d + 3) mi_Fo_grow (kI f) 114 [some (vr 1 0), none, none, none, some (vi (sI p t)), some (vi (nI t)), none] [] (I, L)
  | 0, t, e => by
    have e : t = T := by omega
    subst e
    refine ru_Fo_grow_114 ?_
    rw [hT]
    exact ⟨fun _ => h, fun z => absurd (Int32.le_refl _) z⟩
  | m + 1, t, e => by
    refine ru_Fo_grow_114 ?_
    rw [hT]
    refine ⟨fun z => absurd ((nle (by omega) (by omega)).mp z) (by omega), fun _ => sp_get (w := 0) hT hT8 (by omega) (by unfold slN; rw [if_pos (by omega)]; omega) ?_⟩
    rw [hp t (by omega), nI_s]
    exact sp_grSum hT hT8 hp h m (t + 1) (by omega)
theorem sm_grSum {P : bt_PT} {d : Nat} {f : Int32 → m_I → m_L → Prop} {L : m_L} {I : m_I} {T : Nat} {p : Nat → Nat} (hT : I 35 0 1 = nI T) (hT8 : T ≤ 8) (hp : ∀ t, t < T → I 36 0 t = nI (p t)) (h : f (sI p T) I L) : ∀ (m t : Nat), t + m = T → bt_Go P d mi_M_years (kI f) 117 [some (vr 35 0), none, none, some (vi (sI p t)), some (vi (nI t)), none] [] (I, L)
  | 0, t, e => by
    have e : t = T := by omega
    subst e
    refine ru_M_years_117 ?_
    rw [hT]
    exact ⟨fun _ => h, fun z => absurd (Int32.le_refl _) z⟩
  | m + 1, t, e => by
    refine ru_M_years_117 ?_
    rw [hT]
    refine ⟨fun z => absurd ((nle (by omega) (by omega)).mp z) (by omega), fun _ => ⟨ti_in (by omega) (by omega), ?_⟩⟩
    rw [ti_tn (by omega), hp t (by omega), nI_s]
    exact sm_grSum hT hT8 hp h m (t + 1) (by omega)
theorem sp_grT {P : bt_PT} {d : Nat} {f : Int32 → m_I → m_L → Prop} {L : m_L} {I0 : m_I} {T y n : Nat} {s : grS} (hT : I0 1 0 4 = nI T) (hT8 : T ≤ 8) (h : ∀ I, crC I0 I (grT s T) T → bt_Go P (d + 3) mi_Fo_grow (kI f) 5 [some (vr 1 0), none, some (vi (nI n)), some (vi (grT s T).1), some (vi (nI (y + 1))), none, none] [] (I, L)) : ∀ (m t : Nat) (I : m_I), t + m = T → crC I0 I (grT s t) T → bt_Go P (d + 3) mi_Fo_grow (kI f) 14 [some (vr 1 0), none, some (vi (nI n)), some (vi (grT s t).1), some (vi (nI y)), some (vi (nI t)), none] [] (I, L)
  | 0, t, I, e, h1 => by
    have e : t = T := by omega
    subst e
    refine ru_Fo_grow_14 ?_
    rw [h1.2 1 0 4 (by omega), hT, nI_s]
    exact ⟨fun _ => h I h1, fun z => absurd (Int32.le_refl _) z⟩
  | m + 1, t, I, e, h1 => by
    have hT' : I 1 0 4 = nI T := by rw [h1.2 1 0 4 (by omega)]; exact hT
    refine ru_Fo_grow_14 ?_
    rw [hT', nI_s, nI_s]
    obtain ⟨a0, a2, b0, b2⟩ := h1.1 t (by omega)
    have ez : (gr1 (grT s t) t).1 = nxD (grT s t).1 := gr1_1 _ _
    have sl : ∀ w, w < 4 → t < slN T w := fun w hw => by unfold slN; rw [if_pos hw]; omega
    have go : ∀ I', crC I0 I' (gr1 (grT s t) t) T → bt_Go P (d + 3) mi_Fo_grow (kI f) 14 [some (vr 1 0), none, some (vi (nI n)), some (vi (nxD (grT s t).1)), some (vi (nI y)), some (vi (nI (t + 1))), none] [] (I', L) := fun I' h3 => by
      have := sp_grT hT hT8 h m (t + 1) I' (by omega) h3
      rw [← ez]; exact this
    refine ⟨fun z => absurd ((nle (by omega) (by omega)).mp z) (by omega), fun _ => ru_B_nextDraw ⟨by decide, fun c0 => ⟨fun c11 => go I ?_, fun c11 => ⟨ti_in (n := 2) (by omega) (by omega), ?_⟩⟩, fun c0 => ?_⟩⟩
    · have e1 : gr1 (grT s t) t = (nxD (grT s t).1, (grT s t).2.1, (grT s t).2.2) := gr1_o c0 c11
      rw [e1]; exact ⟨h1.1, h1.2⟩
    · have e1 : gr1 (grT s t) t = (nxD (grT s t).1, (grT s t).2.1, upN (grT s t).2.2 t (min 9 ((grT s t).2.2 t + 1))) := gr1_11 c0 c11
      refine sp_get (w := 2) hT' hT8 (by omega) (sl 2 (by omega)) ?_
      rw [a2, gr_mn _ b2]
      refine sp_set (w := 2) hT' hT8 (by omega) (sl 2 (by omega)) (go _ ?_)
      rw [e1]
      refine ⟨fun u hu => ?_, fun a b c hn => ?_⟩
      · by_cases q : u = t
        · subst q
          simp (disch := decide) only [ui_i, ui_same, upN_s]
          exact ⟨a0, trivial, b0, by omega⟩
        · dsimp only; rw [ui_j q, ui_j q, upN_n q]; exact h1.1 u hu
      · rw [uj_ne (fun z => hn ⟨z.1, Or.inr z.2.1, by omega⟩)]; exact h1.2 a b c hn
    · have e1 : gr1 (grT s t) t = (nxD (grT s t).1, upN (grT s t).2.1 t ((grT s t).2.1 t - 1), (grT s t).2.2) := gr1_0 c0
      refine sp_get (w := 0) hT' hT8 (by omega) (sl 0 (by omega)) ?_
      rw [a0, gr_mx _ b0]
      refine sp_set (w := 0) hT' hT8 (by omega) (sl 0 (by omega)) (go _ ?_)
      rw [e1]
      refine ⟨fun u hu => ?_, fun a b c hn => ?_⟩
      · by_cases q : u = t
        · subst q
          simp (disch := decide) only [ui_i, ui_same, upN_s]
          exact ⟨trivial, a2, by omega, b2⟩
        · dsimp only; rw [ui_j q, ui_j q, upN_n q]; exact h1.1 u hu
      · rw [uj_ne (fun z => hn ⟨z.1, Or.inl z.2.1, by omega⟩)]; exact h1.2 a b c hn
theorem sp_grY {P : bt_PT} {d : Nat} {f : Int32 → m_I → m_L → Prop} {L : m_L} {I0 : m_I} {T n : Nat} {s : grS} (hT : I0 1 0 4 = nI T) (hT8 : T ≤ 8) (hn : n ≤ 30) (h : ∀ I, crC I0 I (grY T s n) T → f (sI (grY T s n).2.1 T) I L) : ∀ (m y : Nat) (I : m_I), y + m = n → crC I0 I (grY T s y) T → bt_Go P (d + 3) mi_Fo_grow (kI f) 5 [some (vr 1 0), none, some (vi (nI n)), some (vi (grY T s y).1), some (vi (nI y)), none, none] [] (I, L)
  | 0, y, I, e, h1 => by
    have e : y = n := by omega
    subst e
    refine ru_Fo_grow_5 ⟨fun _ => ?_, fun z => absurd (Int32.le_refl _) z⟩
    exact sp_grSum (by rw [h1.2 1 0 4 (by omega)]; exact hT) hT8 (fun t ht => (h1.1 t ht).1) (h I h1) T 0 (by omega)
  | m + 1, y, I, e, h1 => by
    refine ru_Fo_grow_5 ⟨fun z => absurd ((nle (by omega) (by omega)).mp z) (by omega), fun _ => ?_⟩
    exact sp_grT hT hT8 (fun I' h3 => sp_grY hT hT8 hn h m (y + 1) I' (by omega) h3) T 0 I (by omega) h1
theorem sm_grT {P : bt_PT} {d : Nat} {f : Int32 → m_I → m_L → Prop} {L : m_L} {I0 : m_I} {T y n : Nat} {s : grS} (hT : I0 35 0 1 = nI T) (hT8 : T ≤ 8) (h : ∀ I, crM I0 I (grT s T) T → bt_Go P (d + 1) mi_M_years (kI f) 19 [some (vr 35 0), none, some (vi (nI n)), some (vi (nI (y + 1))), none, none] [] (I, L)) : ∀ (m t : Nat) (I : m_I), t + m = T → crM I0 I (grT s t) T → bt_Go P (d + 1) mi_M_years (kI f) 27 [some (vr 35 0), none, some (vi (nI n)), some (vi (nI y)), some (vi (nI t)), none] [] (I, L)
  | 0, t, I, e, h1 => by
    have e : t = T := by omega
    subst e
    refine ru_M_years_27 ?_
    rw [h1.2.2 35 0 1 (by omega) (by omega), hT, nI_s]
    exact ⟨fun _ => h I h1, fun z => absurd (Int32.le_refl _) z⟩
  | m + 1, t, I, e, h1 => by
    have hT' : I 35 0 1 = nI T := by rw [h1.2.2 35 0 1 (by omega) (by omega)]; exact hT
    refine ru_M_years_27 ?_
    rw [hT', nI_s, nI_s]
    obtain ⟨a0, a2, b0, b2⟩ := h1.1 t (by omega)
    have go : ∀ I', crM I0 I' (gr1 (grT s t) t) T → bt_Go P (d + 1) mi_M_years (kI f) 27 [some (vr 35 0), none, some (vi (nI n)), some (vi (nI y)), some (vi (nI (t + 1))), none] [] (I', L) := fun I' h3 => sm_grT hT hT8 h m (t + 1) I' (by omega) h3
    refine ⟨fun z => absurd ((nle (by omega) (by omega)).mp z) (by omega), fun _ => ru_M_draw ⟨by decide, ?_⟩⟩
    have hv : vp_in (nI t) 8 := ti_in (by omega) (by omega)
    rw [ui_same, h1.2.1, ti_tn (by omega)]
    simp (disch := decide) only [ui_k]
    rw [a0, a2]
    have bse : ∀ s' : grS, s' = gr1 (grT s t) t → ∀ I', (∀ u, u < T → I' 36 0 u = nI (s'.2.1 u) ∧ I' 38 0 u = nI (s'.2.2 u) ∧ s'.2.1 u < 10 ∧ s'.2.2 u < 10) → I' 35 0 38 = nxD (grT s t).1 → (∀ a b c, ¬ ((a = 36 ∨ a = 38) ∧ c < T) → ¬ (a = 35 ∧ c = 38) → I' a b c = I a b c) → crM I0 I' (gr1 (grT s t) t) T := fun s' es I' c1 c2 c3 => by
      subst es
      exact ⟨c1, by rw [gr1_1]; exact c2, fun a b c n1 n2 => by rw [c3 a b c n1 n2]; exact h1.2.2 a b c n1 n2⟩
    have same : gr1 (grT s t) t = (nxD (grT s t).1, (grT s t).2.1, (grT s t).2.2) → crM I0 (ui I 35 0 38 (nxD (grT s t).1)) (gr1 (grT s t) t) T := fun e1 => by
      refine bse _ rfl _ (fun u hu => ?_) (ui_same _ _ _ _ _) (fun a b c n1 n2 => uj_ne (fun z => n2 ⟨z.1, z.2.2⟩))
      rw [e1, ui_k (by decide), ui_k (by decide)]; exact h1.1 u hu
    refine ⟨fun c0 => ⟨fun c11 => go _ (same (gr1_o c0 c11)), fun c11 => ⟨hv, fun c9 => ?_, fun c9 => ⟨hv, hv, ?_⟩⟩⟩, fun c0 => ⟨hv, fun cz => ?_, fun cz => ⟨hv, hv, fun c11 => ?_, fun c11 => ?_⟩⟩⟩
    · have h9 := (gr_le9 _ b2).mp c9
      refine go _ (same ?_)
      have e1 : gr1 (grT s t) t = (nxD (grT s t).1, (grT s t).2.1, upN (grT s t).2.2 t (min 9 ((grT s t).2.2 t + 1))) := gr1_11 c0 c11
      rw [e1]
      have eu : upN (grT s t).2.2 t (min 9 ((grT s t).2.2 t + 1)) = (grT s t).2.2 := by
        funext x; unfold upN; split
        · rename_i q; subst q; omega
        · rfl
      rw [eu]
    · have h9 : ¬ (grT s t).2.2 t = 9 := fun z => c9 ((gr_le9 _ b2).mpr z)
      have e1 : gr1 (grT s t) t = (nxD (grT s t).1, (grT s t).2.1, upN (grT s t).2.2 t (min 9 ((grT s t).2.2 t + 1))) := gr1_11 c0 c11
      rw [nI_s]
      refine go _ (bse _ rfl _ (fun u hu => ?_) ?_ (fun a b c n1 n2 => ?_))
      · rw [e1]
        by_cases q : u = t
        · subst q
          simp (disch := decide) only [ui_k, ui_same, upN_s]
          exact ⟨a0, congrArg nI (by omega), b0, by omega⟩
        · simp (disch := first | decide | assumption) only [ui_k, ui_j, upN_n]; exact h1.1 u hu
      · rw [ui_k (by decide)]; exact ui_same _ _ _ _ _
      · rw [uj_ne (fun z => n1 ⟨Or.inr z.1, by omega⟩), uj_ne (fun z => n2 ⟨z.1, z.2.2⟩)]
    · have hz := (gr_le0 _ b0).mp cz
      have e1 : gr1 (grT s t) t = (nxD (grT s t).1, upN (grT s t).2.1 t ((grT s t).2.1 t - 1), (grT s t).2.2) := gr1_0 c0
      have eu : upN (grT s t).2.1 t ((grT s t).2.1 t - 1) = (grT s t).2.1 := by
        funext x; unfold upN; split
        · rename_i q; subst q; omega
        · rfl
      rw [eu] at e1
      exact ⟨fun _ => go _ (same e1), fun c11 => absurd (c0.symm.trans c11) (by decide)⟩
    · have hz : ¬ (grT s t).2.1 t = 0 := fun z => cz ((gr_le0 _ b0).mpr z)
      have e1 : gr1 (grT s t) t = (nxD (grT s t).1, upN (grT s t).2.1 t ((grT s t).2.1 t - 1), (grT s t).2.2) := gr1_0 c0
      have ep : nI ((grT s t).2.1 t) - 1 = nI ((grT s t).2.1 t - 1) := by
        have := nI_pred ((grT s t).2.1 t - 1)
        rw [show (grT s t).2.1 t - 1 + 1 = (grT s t).2.1 t from by omega] at this; exact this
      rw [ep]
      refine go _ (bse _ rfl _ (fun u hu => ?_) ?_ (fun a b c n1 n2 => ?_))
      · rw [e1]
        by_cases q : u = t
        · subst q
          simp (disch := decide) only [ui_k, ui_same, upN_s]
          exact ⟨trivial, a2, by omega, b2⟩
        · simp (disch := first | decide | assumption) only [ui_k, ui_j, upN_n]; exact h1.1 u hu
      · rw [ui_k (by decide)]; exact ui_same _ _ _ _ _
      · rw [uj_ne (fun z => n1 ⟨Or.inl z.1, by omega⟩), uj_ne (fun z => n2 ⟨z.1, z.2.2⟩)]
    · exact absurd (c0.symm.trans c11) (by decide)
