/-! THE REFERENCE, 1: its bounds, neighbours, FAR -/
theorem sm_in {P : bt_PT} {d : Nat} {f : Int32 → m_I → m_L → Prop} {I : m_I} {L : m_L} {x a b : Int32} (h : f (bP (a ≤ x ∧ x ≤ b)) I L) : bt_WP P (d + 1) mi_M_in [vi x, vi a, vi b] (I, L) (kI f) :=
  ru_M_in ⟨fun h1 => ⟨z01, bP_ff h (fun z => absurd h1 (Int32.not_lt.mpr z.1))⟩, fun h1 => ⟨fun h2 => ⟨z01, bP_ff h (fun z => absurd h2 (Int32.not_lt.mpr z.2))⟩, fun h2 => ⟨o01, bP_ft h ⟨Int32.not_lt.mp h1, Int32.not_lt.mp h2⟩⟩⟩⟩
/-- between 0 and n - 1: one of the numbers -/
theorem in_oob {x : Int32} {n : Nat} (hn : n < 2147483648) (h0 : 0 < n) : ((0 : Int32) ≤ x ∧ x ≤ nI (n - 1)) ↔ ¬ oob x n := by
  have e0 : (0 : Int32).toInt = 0 := rfl
  unfold oob
  rw [ti_le, ti_le, ti_lt, ti_le, ti_nI (by omega), ti_nI (by omega), e0]
  omega
theorem in_oobT {x : Int32} {T : Nat} (hn : T < 2147483648) : ((0 : Int32) ≤ x ∧ x ≤ nI T - 1) ↔ ¬ oob x T := by
  have e0 : (0 : Int32).toInt = 0 := rfl
  have e1 : (nI T - 1).toInt = (T : Int) - 1 := by
    cases T with
    | zero => decide
    | succ n => rw [nI_pred, ti_nI (by omega)]; omega
  unfold oob
  rw [ti_le, ti_le, ti_lt, ti_le, ti_nI (by omega), e1, e0]
  omega
theorem sm_isTree {P : bt_PT} {d : Nat} {f : Int32 → m_I → m_L → Prop} {I : m_I} {L : m_L} {T : Nat} {x : Int32} (hT : I 35 0 1 = nI T) (hT8 : T ≤ 8) (h : f (bP (¬ oob x T)) I L) : bt_WP P (d + 2) mi_M_isTree [vr 35 0, vi x] (I, L) (kI f) := by
  refine ru_M_isTree (sm_in ⟨bP_01 _, ?_⟩)
  rw [hT, bP_c (in_oobT (by omega))]
  exact h
theorem sm_isSort {P : bt_PT} {d : Nat} {f : Int32 → m_I → m_L → Prop} {I : m_I} {L : m_L} {x : Int32} (h : f (bP (¬ oob x 4)) I L) : bt_WP P (d + 2) mi_M_isSort [vi x] (I, L) (kI f) := by
  refine ru_M_isSort (sm_in ⟨bP_01 _, ?_⟩)
  rw [show (3 : Int32) = nI (4 - 1) from rfl, bP_c (in_oob (by omega) (by omega))]
  exact h
theorem sm_isMinute {P : bt_PT} {d : Nat} {f : Int32 → m_I → m_L → Prop} {I : m_I} {L : m_L} {x : Int32} (h : f (bP (¬ oob x 24)) I L) : bt_WP P (d + 2) mi_M_isMinute [vi x] (I, L) (kI f) := by
  refine ru_M_isMinute (sm_in ⟨bP_01 _, ?_⟩)
  rw [show (23 : Int32) = nI (24 - 1) from rfl, bP_c (in_oob (by omega) (by omega))]
  exact h
theorem sm_isShelf {P : bt_PT} {d : Nat} {f : Int32 → m_I → m_L → Prop} {I : m_I} {L : m_L} {x : Int32} (h : f (bP (¬ oob x 6)) I L) : bt_WP P (d + 2) mi_M_isShelf [vi x] (I, L) (kI f) := by
  refine ru_M_isShelf (sm_in ⟨bP_01 _, ?_⟩)
  rw [show (5 : Int32) = nI (6 - 1) from rfl, bP_c (in_oob (by omega) (by omega))]
  exact h
/-- the reference's forest's shape -/
def jF (I : m_I) (T : Nat) (nb : Nat → Nat) : Prop := I 35 0 1 = nI T ∧ T ≤ 8 ∧ (∀ t, t < T → I 40 0 t = nI (nb t)) ∧ (∀ t, nb t < 2 ^ T) ∧ ∀ t, nb t < 256
theorem sm_areBeside {P : bt_PT} {d : Nat} {f : Int32 → m_I → m_L → Prop} {I : m_I} {L : m_L} {T a b : Nat} {nb : Nat → Nat} (hF : jF I T nb) (ha : a < T) (hb : b < 31) (h : f (bP ((nb a).testBit b = true)) I L) : bt_WP P (d + 1) mi_M_areBeside [vr 35 0, vi (nI a), vi (nI b)] (I, L) (kI f) := by
  have hT8 := hF.2.1
  refine ru_M_areBeside ⟨ti_in (by omega) (by omega), ?_⟩
  have h256 := hF.2.2.2.2 a
  rw [ti_tn (by omega), hF.2.2.1 a ha, nI_bit hb (by omega)]
  exact ⟨fun h1 => ⟨z01, bP_ff h (fun z => h1 (bP_t z))⟩, fun h1 => ⟨o01, bP_ft h (bP_1.mp h1)⟩⟩
def off48 (I0 I : m_I) : Prop := ∀ a b c, ¬ a = 48 → I a b c = I0 a b c
theorem off48_jF {I0 I : m_I} {T : Nat} {nb : Nat → Nat} (h : off48 I0 I) (hF : jF I0 T nb) : jF I T nb := ⟨by rw [h 35 0 1 (by decide)]; exact hF.1, hF.2.1, fun t ht => by rw [h 40 0 t (by decide)]; exact hF.2.2.1 t ht, hF.2.2.2⟩
theorem off48_Scr {I0 I : m_I} {L : m_L} (h : off48 I0 I) : Scr I0 L I L := ⟨fun k i j e => h k i j (fun z => by subst z; cases e), fun _ _ _ _ => rfl⟩
/-- the reference's far row: as the class's behind k + 1 layers (9 for those beyond) -/
def mfIs (I : m_I) (T : Nat) (nb : Nat → Nat) (hu k : Nat) : Prop := ∀ t, t < T → I 48 0 t = nI (frK T nb hu (k + 1) t)
/-- some tree ahead of a place reaches o newly -/
def mfHit (T : Nat) (nb : Nat → Nat) (hu k t o' o : Nat) : Prop := frK T nb hu (k + 1) o = 9 ∧ ∃ u, u < T ∧ (u < t ∨ (u = t ∧ o < o')) ∧ inE T nb hu k u ∧ (nb u).testBit o = true
section MFM
variable {P : bt_PT} {d : Nat} {f : m_I → m_L → Prop} {I0 : m_I} {L : m_L} {T hu : Nat} {nb : Nat → Nat}
noncomputable def mfV (T : Nat) (nb : Nat → Nat) (hu k t o' o : Nat) : Nat := @ite Nat (mfHit T nb hu k t o' o) (Classical.propDecidable _) (k + 1) (frK T nb hu (k + 1) o)
theorem frK_eq (hT : T ≤ 8) (hn : ∀ t, nb t < 2 ^ T) {k : Nat} (hk : k < 8) (t : Nat) : frK T nb hu (k + 1) t = k ↔ inE T nb hu k t := by
  rcases frK_spec (hu := hu) hT hn t (k + 1) (by omega) with ⟨h1, h2⟩ | ⟨j, h1, h2, h3⟩
  · exact ⟨fun e => by omega, fun e => absurd e (h2 k (by omega))⟩
  · rw [h2]
    constructor
    · intro e; subst e; exact h3
    · intro e
      rcases Nat.lt_or_ge j k with q | q
      · exact absurd e (inE_one hT hn q h3)
      · omega
theorem frK_9 (hT : T ≤ 8) (hn : ∀ t, nb t < 2 ^ T) {k : Nat} (hk : k < 8) (t : Nat) : k + 1 < frK T nb hu (k + 1) t ↔ frK T nb hu (k + 1) t = 9 := by
  rcases frK_spec (hu := hu) hT hn t (k + 1) (by omega) with ⟨h1, h2⟩ | ⟨j, h1, h2, h3⟩
  · rw [h1]; omega
  · rw [h2]; omega
theorem frK_new (hT : T ≤ 8) (hn : ∀ t, nb t < 2 ^ T) {k : Nat} (hk : k < 8) {o : Nat} (ho : o < T) : mfV T nb hu k T 0 o = frK T nb hu (k + 2) o := by
  unfold mfV
  show _ = @ite Nat (inE T nb hu (k + 1) o) (Classical.propDecidable _) (k + 1) (frK T nb hu (k + 1) o)
  have key : mfHit T nb hu k T 0 o ↔ inE T nb hu (k + 1) o := by
    rw [inE_s (by omega)]
    constructor
    · rintro ⟨h9, u, h1, -, h3, h4⟩
      refine ⟨⟨u, h1, h3, h4⟩, fun j hj hin => ?_⟩
      rcases frK_spec (hu := hu) hT hn o (k + 1) (by omega) with ⟨g1, g2⟩ | ⟨i, g1, g2, g3⟩
      · exact g2 j (by omega) hin
      · omega
    · rintro ⟨⟨u, h1, h3, h4⟩, h5⟩
      refine ⟨?_, u, h1, Or.inl h1, h3, h4⟩
      rcases frK_spec (hu := hu) hT hn o (k + 1) (by omega) with ⟨g1, g2⟩ | ⟨i, g1, g2, g3⟩
      · exact g1
      · exact absurd g3 (h5 i (by omega))
  by_cases h : mfHit T nb hu k T 0 o
  · rw [if_pos h, if_pos (key.mp h)]
  · rw [if_neg h, if_neg (fun z => h (key.mpr z))]
theorem mfV_0 {k o : Nat} : mfV T nb hu k 0 0 o = frK T nb hu (k + 1) o := by
  unfold mfV
  rw [if_neg]
  rintro ⟨-, u, h1, h2, -⟩
  omega
theorem mfV_row {k t o : Nat} (ho : o < T) : mfV T nb hu k t T o = mfV T nb hu k (t + 1) 0 o := by
  unfold mfV
  have key : mfHit T nb hu k t T o ↔ mfHit T nb hu k (t + 1) 0 o := by
    constructor
    · rintro ⟨h9, u, h1, h2, h3⟩; exact ⟨h9, u, h1, Or.inl (by omega), h3⟩
    · rintro ⟨h9, u, h1, h2, h3⟩; exact ⟨h9, u, h1, by omega, h3⟩
  by_cases h : mfHit T nb hu k t T o
  · rw [if_pos h, if_pos (key.mp h)]
  · rw [if_neg h, if_neg (fun z => h (key.mpr z))]
theorem mfV_keep {k t o' o : Nat} (ht : t < T) (h : o = o' → ¬ (inE T nb hu k t ∧ (nb t).testBit o' = true ∧ frK T nb hu (k + 1) o' = 9)) : mfV T nb hu k t (o' + 1) o = mfV T nb hu k t o' o := by
  unfold mfV
  have key : mfHit T nb hu k t (o' + 1) o ↔ mfHit T nb hu k t o' o := by
    constructor
    · rintro ⟨h9, u, h1, h2, h3, h4⟩
      refine ⟨h9, u, h1, ?_, h3, h4⟩
      rcases h2 with h2 | ⟨h2, h5⟩
      · exact Or.inl h2
      · right
        refine ⟨h2, ?_⟩
        rcases Nat.lt_or_ge o o' with q | q
        · exact q
        · have e : o = o' := by omega
          subst e; subst h2
          exact absurd ⟨h3, h4, h9⟩ (h rfl)
    · rintro ⟨h9, u, h1, h2, h3⟩; exact ⟨h9, u, h1, by omega, h3⟩
  by_cases q : mfHit T nb hu k t (o' + 1) o
  · rw [if_pos q, if_pos (key.mp q)]
  · rw [if_neg q, if_neg (fun z => q (key.mpr z))]
theorem mfV_hit {k t o' : Nat} (ht : t < T) (h1 : inE T nb hu k t) (h2 : (nb t).testBit o' = true) (h3 : frK T nb hu (k + 1) o' = 9) : mfV T nb hu k t (o' + 1) o' = k + 1 := by
  unfold mfV
  exact if_pos ⟨h3, t, ht, Or.inr ⟨rfl, by omega⟩, h1, h2⟩
theorem mfV_ne {k t o' o : Nat} (h : o ≠ o') : mfV T nb hu k t (o' + 1) o = mfV T nb hu k t o' o := by
  unfold mfV
  have key : mfHit T nb hu k t (o' + 1) o ↔ mfHit T nb hu k t o' o := by
    constructor
    · rintro ⟨h9, u, h1, h2, h3⟩; exact ⟨h9, u, h1, by omega, h3⟩
    · rintro ⟨h9, u, h1, h2, h3⟩; exact ⟨h9, u, h1, by omega, h3⟩
  by_cases q : mfHit T nb hu k t (o' + 1) o
  · rw [if_pos q, if_pos (key.mp q)]
  · rw [if_neg q, if_neg (fun z => q (key.mpr z))]
theorem mfV_val (hT : T ≤ 8) (hn : ∀ t, nb t < 2 ^ T) {k t o' o : Nat} (hk : k < 8) : mfV T nb hu k t o' o = k + 1 ∨ mfV T nb hu k t o' o = frK T nb hu (k + 1) o := by
  unfold mfV
  by_cases h : mfHit T nb hu k t o' o
  · rw [if_pos h]; exact Or.inl rfl
  · rw [if_neg h]; exact Or.inr rfl
theorem mfV_k (hT : T ≤ 8) (hn : ∀ t, nb t < 2 ^ T) {k t o' o : Nat} (hk : k < 8) : mfV T nb hu k t o' o = k ↔ inE T nb hu k o := by
  unfold mfV
  by_cases h : mfHit T nb hu k t o' o
  · rw [if_pos h]
    have h9 := h.1
    constructor
    · intro e; omega
    · intro e
      have := (frK_eq (hu := hu) hT hn hk o).mpr e
      omega
  · rw [if_neg h]; exact frK_eq hT hn hk o
theorem sm_ff56 (hF : jF I0 T nb) {k t : Nat} (hk : k < 8) (ht : t < T) (hg : ∀ I, off48 I0 I → (∀ o, o < T → I 48 0 o = nI (mfV T nb hu k t T o)) → bt_Go P (d + 1) mi_M_findFar (kV f) 46 [some (vr 35 0), some (vi (nI k)), some (vi (nI (t + 1))), none] [] (I, L)) :
    ∀ (n o' : Nat) (I : m_I), o' + n = T → off48 I0 I → (∀ o, o < T → I 48 0 o = nI (mfV T nb hu k t o' o)) → bt_Go P (d + 1) mi_M_findFar (kV f) 56 [some (vr 35 0), some (vi (nI k)), some (vi (nI t)), some (vi (nI o'))] [] (I, L)
  | 0, o', I, e, h1, h2 => by
    have e : o' = T := by omega
    subst e
    have hF' := off48_jF h1 hF
    have hT8 := hF.2.1
    refine ru_M_findFar_56 ⟨fun _ => ?_, fun z => absurd (by rw [hF'.1]; exact (nle (by omega) (by omega)).mpr (Nat.le_refl _)) z⟩
    rw [nI_s]
    exact hg I h1 h2
  | n + 1, o', I, e, h1, h2 => by
    have hF' := off48_jF h1 hF
    have hT8 := hF.2.1
    have hn := hF.2.2.2.1
    have hlt : ∀ o, mfV T nb hu k t o' o < 10 := fun o => by
      rcases mfV_val (hu := hu) (t := t) (o' := o') (o := o) hT8 hn hk with q | q
      · rw [q]; omega
      · rw [q]; exact frK_lt o (k + 1) (by omega)
    refine ru_M_findFar_56 ⟨fun z => by rw [hF'.1, nle (by omega) (by omega)] at z; omega, fun _ => ⟨ti_in (by omega) (by omega), ?_⟩⟩
    rw [ti_tn (by omega), h2 t ht, nI_s]
    have ihk : (∀ o, o < T → I 48 0 o = nI (mfV T nb hu k t (o' + 1) o)) → bt_Go P (d + 1) mi_M_findFar (kV f) 56 [some (vr 35 0), some (vi (nI k)), some (vi (nI t)), some (vi (nI (o' + 1)))] [] (I, L) := fun hz => sm_ff56 hF hk ht hg n (o' + 1) I (by omega) h1 hz
    refine ⟨fun h3 => ihk (fun o ho => ?_), fun h3 => ?_⟩
    · have hne : ¬ inE T nb hu k t := fun z => h3 ((neq (by have := hlt t; omega) (by omega)).mpr ((mfV_k hT8 hn hk).mpr z))
      rw [h2 o ho, mfV_keep ht (fun _ z => hne z.1)]
    · have hin : inE T nb hu k t := (mfV_k (t := t) (o' := o') hT8 hn hk).mp ((neq (by have := hlt t; omega) (by omega)).mp h3)
      refine sm_areBeside hF' ht (by omega) (bP_br (fun h4 => ihk (fun o ho => ?_)) (fun h4 => ⟨ti_in (by omega) (by omega), ?_⟩))
      · rw [h2 o ho, mfV_keep ht (fun _ z => h4 z.2.1)]
      · rw [ti_tn (by omega), h2 o' (by omega), nI_s]
        have hlo := hlt o'
        refine ⟨fun h5 => ihk (fun o ho => ?_), fun h5 => ⟨ti_in (by omega) (by omega), ?_⟩⟩
        · rw [nle (by omega) (by omega)] at h5
          rw [h2 o ho]
          by_cases eo : o = o'
          · subst eo
            by_cases h9 : frK T nb hu (k + 1) o = 9
            · have h6 := mfV_hit (hu := hu) ht hin h4 h9
              rcases mfV_val (hu := hu) (t := t) (o' := o) (o := o) hT8 hn hk with q | q
              · rw [q, h6]
              · omega
            · rw [mfV_keep ht (fun _ z => h9 z.2.2)]
          · rw [mfV_ne eo]
        · rw [nle (by omega) (by omega)] at h5
          have h9 : frK T nb hu (k + 1) o' = 9 := by
            rcases mfV_val (hu := hu) (t := t) (o' := o') (o := o') hT8 hn hk with q | q
            · omega
            · exact (frK_9 hT8 hn hk o').mp (by omega)
          refine sm_ff56 hF hk ht hg n (o' + 1) _ (by omega) (fun a b c ha => by rw [ui_k ha]; exact h1 a b c ha) (fun o ho => ?_)
          by_cases eo : o = o'
          · subst eo
            rw [ui_same, mfV_hit ht hin h4 h9]
          · rw [ui_j eo, h2 o ho, mfV_ne eo]
theorem sm_ff46 (hF : jF I0 T nb) {k : Nat} (hk : k < 8) (hg : ∀ I, off48 I0 I → mfIs I T nb hu (k + 1) → bt_Go P (d + 1) mi_M_findFar (kV f) 38 [some (vr 35 0), some (vi (nI (k + 1))), none, none] [] (I, L)) :
    ∀ (n t : Nat) (I : m_I), t + n = T → off48 I0 I → (∀ o, o < T → I 48 0 o = nI (mfV T nb hu k t 0 o)) → bt_Go P (d + 1) mi_M_findFar (kV f) 46 [some (vr 35 0), some (vi (nI k)), some (vi (nI t)), none] [] (I, L)
  | 0, t, I, e, h1, h2 => by
    have e : t = T := by omega
    subst e
    have hF' := off48_jF h1 hF
    have hT8 := hF.2.1
    refine ru_M_findFar_46 ⟨fun _ => ?_, fun z => absurd (by rw [hF'.1]; exact (nle (by omega) (by omega)).mpr (Nat.le_refl _)) z⟩
    rw [nI_s]
    exact hg I h1 (fun o ho => by rw [h2 o ho, frK_new hT8 hF.2.2.2.1 hk ho])
  | n + 1, t, I, e, h1, h2 => by
    have hF' := off48_jF h1 hF
    have hT8 := hF.2.1
    refine ru_M_findFar_46 ⟨fun z => by rw [hF'.1, nle (by omega) (by omega)] at z; omega, fun _ => ?_⟩
    refine sm_ff56 hF hk (by omega) (fun I' h3 h4 => sm_ff46 hF hk hg n (t + 1) I' (by omega) h3 (fun o ho => by rw [h4 o ho, mfV_row ho])) T 0 I (by omega) h1 h2
theorem sm_ff38 (hF : jF I0 T nb) (h : ∀ I, off48 I0 I → mfIs I T nb hu 8 → f I L) : ∀ (n k : Nat) (I : m_I), k + n = 8 → off48 I0 I → mfIs I T nb hu k → bt_Go P (d + 1) mi_M_findFar (kV f) 38 [some (vr 35 0), some (vi (nI k)), none, none] [] (I, L)
  | 0, k, I, e, h1, h2 => by
    have e : k = 8 := by omega
    subst e
    exact ru_M_findFar_38 ⟨fun _ => h I h1 h2, fun z => absurd ((nle (a := 8) (b := 8) (by omega) (by omega)).mpr (Nat.le_refl _)) z⟩
  | n + 1, k, I, e, h1, h2 => by
    refine ru_M_findFar_38 ⟨fun z => absurd ((nle (a := 8) (b := k) (by omega) (by omega)).mp z) (by omega), fun _ => ?_⟩
    refine sm_ff46 hF (by omega) (fun I' h3 h4 => sm_ff38 hF h n (k + 1) I' (by omega) h3 h4) T 0 I (by omega) h1 (fun o ho => ?_)
    rw [h2 o ho, mfV_0]
theorem sm_ff2 (hF : jF I0 T nb) (hhu : I0 35 0 13 = nI hu) (hu8 : hu < 8) (h : ∀ I, off48 I0 I → mfIs I T nb hu 8 → f I L) : ∀ (n t : Nat) (I : m_I), t + n = T → off48 I0 I → (∀ o, o < t → I 48 0 o = nI (frK T nb hu 1 o)) → bt_Go P (d + 1) mi_M_findFar (kV f) 2 [some (vr 35 0), some (vi (nI t)), none, none] [] (I, L)
  | 0, t, I, e, h1, h2 => by
    have e : t = T := by omega
    subst e
    have hF' := off48_jF h1 hF
    have hT8 := hF.2.1
    exact ru_M_findFar_2 ⟨fun _ => sm_ff38 hF h 8 0 I (by omega) h1 h2, fun z => absurd (by rw [hF'.1]; exact (nle (by omega) (by omega)).mpr (Nat.le_refl _)) z⟩
  | n + 1, t, I, e, h1, h2 => by
    have hF' := off48_jF h1 hF
    have hT8 := hF.2.1
    refine ru_M_findFar_2 ⟨fun z => by rw [hF'.1, nle (by omega) (by omega)] at z; omega, fun _ => ?_⟩
    rw [h1 35 0 13 (by decide), hhu, ti_tn (by omega), nI_s]
    have hv : ∀ v : Nat, v = frK T nb hu 1 t → bt_Go P (d + 1) mi_M_findFar (kV f) 2 [some (vr 35 0), some (vi (nI (t + 1))), none, none] [] (ui I 48 0 t (nI v), L) := fun v ev => by
      refine sm_ff2 hF hhu hu8 h n (t + 1) _ (by omega) (fun a b c ha => by rw [ui_k ha]; exact h1 a b c ha) (fun o ho => ?_)
      by_cases eo : o = t
      · subst eo; rw [ui_same, ev]
      · rw [ui_j eo]; exact h2 o (by omega)
    have hk1 : frK T nb hu 1 t = @ite Nat (inE T nb hu 0 t) (Classical.propDecidable _) 0 9 := rfl
    refine ⟨fun h3 => ⟨ti_in (by omega) (by omega), hv 9 ?_⟩, fun h3 => ⟨ti_in (by omega) (by omega), hv 0 ?_⟩⟩
    · rw [hk1, if_neg (fun z => h3 (by rw [(inE_0.mp z).2]))]
    · rw [neq (by omega) (by omega)] at h3
      rw [hk1, if_pos (inE_0.mpr ⟨by omega, h3⟩)]
theorem sm_findFar (hF : jF I0 T nb) (hhu : I0 35 0 13 = nI hu) (hu8 : hu < 8) (h : ∀ I, off48 I0 I → (∀ t, t < T → I 48 0 t = nI (frD T nb hu t)) → f I L) : bt_WP P (d + 2) mi_M_findFar [vr 35 0] (I0, L) (kV f) :=
  ru_M_findFar (sm_ff2 hF hhu hu8 (fun I h1 h2 => h I h1 (fun t ht => by rw [h2 t ht, frD_9 hF.2.1 hF.2.2.2.1])) T 0 I0 (by omega) (fun _ _ _ _ => rfl) (fun o ho => by omega))
end MFM
