/-! tuned: joint -/
/-- no two near trees are alike without these -/
def uwP (T : Nat) (nb : Nat → Nat) (p : Nat → Int32) (b : Nat) : Prop := ∀ t, t < T → ∀ u, u < t → ¬ (¬ b.testBit t = true ∧ ¬ b.testBit u = true ∧ (nb t).testBit u = true ∧ p t = p u)
/-- as the class goes -/
noncomputable def clS (E : Nat → Prop) (all : Nat) : Nat → Nat
  | 0 => all
  | s + 1 => @ite Nat (bcN s < bcN (clS E all s) ∧ E s) (Classical.propDecidable _) s (clS E all s)
theorem clS_t {E : Nat → Prop} {all s : Nat} (h : bcN s < bcN (clS E all s) ∧ E s) : clS E all (s + 1) = s := by
  show @ite Nat _ (Classical.propDecidable _) _ _ = _
  rw [if_pos h]
theorem clS_f {E : Nat → Prop} {all s : Nat} (h : ¬ (bcN s < bcN (clS E all s) ∧ E s)) : clS E all (s + 1) = clS E all s := by
  show @ite Nat _ (Classical.propDecidable _) _ _ = _
  rw [if_neg h]
theorem clS_le {E : Nat → Prop} {all : Nat} : ∀ s, s ≤ all + 1 → clS E all s ≤ all
  | 0, _ => Nat.le_refl _
  | s + 1, h => by
    by_cases q : bcN s < bcN (clS E all s) ∧ E s
    · rw [clS_t q]; omega
    · rw [clS_f q]; exact clS_le s (by omega)
theorem bc_all : ∀ T, T ≤ 8 → ∀ s, s < 2 ^ T - 1 → bcN s < bcN (2 ^ T - 1) := by decide +kernel
theorem cl_en {E : Nat → Prop} {T : Nat} (hT8 : T ≤ 8) (hE : E (2 ^ T - 1)) : ∀ s, s ≤ 2 ^ T - 1 → (enS E s = none ∧ clS E (2 ^ T - 1) s = 2 ^ T - 1) ∨ ∃ b, enS E s = some b ∧ bcN b < bcN (2 ^ T - 1) ∧ clS E (2 ^ T - 1) s = b
  | 0, _ => Or.inl ⟨rfl, rfl⟩
  | s + 1, h => by
    have hs := bc_all T hT8 s (by omega)
    rcases cl_en hT8 hE s (by omega) with ⟨h1, h2⟩ | ⟨b, h1, h2, h3⟩
    · by_cases q : E s
      · right
        refine ⟨s, enS_t ⟨q, fun b hb => by rw [h1] at hb; cases hb⟩, hs, clS_t ⟨by rw [h2]; exact hs, q⟩⟩
      · left
        exact ⟨by rw [enS_f (fun z => q z.1)]; exact h1, by rw [clS_f (fun z => q z.2)]; exact h2⟩
    · right
      by_cases q : E s ∧ bcN s < bcN b
      · refine ⟨s, enS_t ⟨q.1, fun b' hb' => by rw [h1] at hb'; cases hb'; exact q.2⟩, hs, clS_t ⟨by rw [h3]; exact q.2, q.1⟩⟩
      · refine ⟨b, ?_, h2, ?_⟩
        · rw [enS_f (fun z => q ⟨z.1, z.2 b h1⟩)]; exact h1
        · rw [clS_f (fun z => q ⟨z.2, by rw [h3] at z; exact z.1⟩)]; exact h3
theorem cl_end {E : Nat → Prop} {T : Nat} (hT8 : T ≤ 8) (hE : E (2 ^ T - 1)) : enS E (2 ^ T) = some (clS E (2 ^ T - 1) (2 ^ T)) := by
  have hp : 2 ^ T = 2 ^ T - 1 + 1 := by have := Nat.two_pow_pos T; omega
  rw [hp]
  rcases cl_en hT8 hE (2 ^ T - 1) (Nat.le_refl _) with ⟨h1, h2⟩ | ⟨b, h1, h2, h3⟩
  · simp only [Nat.add_sub_cancel]
    rw [enS_t ⟨hE, fun b hb => by rw [h1] at hb; cases hb⟩, clS_f (fun z => by rw [h2] at z; omega), h2]
  · simp only [Nat.add_sub_cancel]
    rw [enS_f (fun z => by have := z.2 b h1; omega), clS_f (fun z => by rw [h3] at z; omega), h1, h3]
section TUN
variable {P : bt_PT} {d : Nat} {f : Int32 → m_I → m_L → Prop} {I : m_I} {L : m_L} {T : Nat} {nb : Nat → Nat}
theorem sp_uw12 (hF : iF I T nb) {b t : Nat} (hb : b < 256) (ht : t < T) (g0 : (∃ u, u < t ∧ (¬ b.testBit t = true ∧ ¬ b.testBit u = true ∧ (nb t).testBit u = true ∧ I 3 0 t = I 3 0 u)) → f 0 I L) (g1 : (∀ u, u < t → ¬ (¬ b.testBit t = true ∧ ¬ b.testBit u = true ∧ (nb t).testBit u = true ∧ I 3 0 t = I 3 0 u)) → bt_Go P (d + 3) mi_Fo_isUnlikeWithout (kI f) 2 [some (vr 1 0), some (vi (nI b)), some (vi (nI (t + 1))), none, none] [] (I, L)) : ∀ (k u : Nat), u + k = t → (∀ i, i < u → ¬ (¬ b.testBit t = true ∧ ¬ b.testBit i = true ∧ (nb t).testBit i = true ∧ I 3 0 t = I 3 0 i)) → bt_Go P (d + 3) mi_Fo_isUnlikeWithout (kI f) 12 [some (vr 1 0), some (vi (nI b)), some (vi (nI t)), some (vi (nI u)), none] [] (I, L)
  | 0, u, e, h => by
    have e : u = t := by omega
    subst e
    refine ru_Fo_isUnlikeWithout_12 ⟨fun _ => ?_, fun q => absurd (Int32.le_refl _) q⟩
    rw [nI_s]; exact g1 h
  | k + 1, u, e, h => by
    have hT8 := hF.2.1
    have hgo : ¬ (¬ b.testBit t = true ∧ ¬ b.testBit u = true ∧ (nb t).testBit u = true ∧ I 3 0 t = I 3 0 u) → bt_Go P (d + 3) mi_Fo_isUnlikeWithout (kI f) 12 [some (vr 1 0), some (vi (nI b)), some (vi (nI t)), some (vi (nI (u + 1))), none] [] (I, L) := fun q => by
      refine sp_uw12 hF hb ht g0 g1 k (u + 1) (by omega) (fun i hi => ?_)
      by_cases e : i = u
      · subst e; exact q
      · exact h i (by omega)
    refine ru_Fo_isUnlikeWithout_12 ⟨fun q => absurd ((nle (by omega) (by omega)).mp q) (by omega), fun _ => ?_⟩
    have hbt : nb t < 256 := iF_lt hF t
    rw [ti_tn (by omega), (hF.2.2.1 t (by omega)).1, nI_bit (t := t) (by omega) (by omega), nI_bit (a := b) (t := u) (by omega) (by omega), nI_bit (a := nb t) (t := u) (by omega) (by omega), nI_s]
    refine bP_br' (fun q1 => ⟨fun _ => hgo (fun z => z.1 q1), (fun z => absurd rfl z)⟩) (fun q1 => bP_br' (fun q2 => ⟨fun _ => hgo (fun z => z.2.1 q2), (fun z => absurd rfl z)⟩) (fun q2 => ⟨(fun z => absurd z (by decide)), fun _ => ⟨ti_in (by omega) (by omega), bP_br (fun q3 => hgo (fun z => q3 z.2.2.1)) (fun q3 => sp_get (w := 0) hF.1 hT8 (by omega) (by show t < T; omega) (sp_get (w := 0) hF.1 hT8 (by omega) (by show u < T; omega) ⟨fun q4 => hgo (fun z => q4 z.2.2.2), fun q4 => ⟨z01, g0 ⟨u, by omega, q1, q2, q3, q4⟩⟩⟩))⟩⟩))
theorem sp_uw2 (hF : iF I T nb) {b : Nat} (hb : b < 256) (g : f (bP (uwP T nb (I 3 0) b)) I L) : ∀ (k t : Nat), t + k = T → (∀ i, i < t → ∀ u, u < i → ¬ (¬ b.testBit i = true ∧ ¬ b.testBit u = true ∧ (nb i).testBit u = true ∧ I 3 0 i = I 3 0 u)) → bt_Go P (d + 3) mi_Fo_isUnlikeWithout (kI f) 2 [some (vr 1 0), some (vi (nI b)), some (vi (nI t)), none, none] [] (I, L)
  | 0, t, e, h => by
    have hT8 := hF.2.1
    have e : t = T := by omega
    subst e
    exact ru_Fo_isUnlikeWithout_2 ⟨fun _ => ⟨o01, bP_ft g h⟩, fun z => absurd (by rw [hF.1]; exact Int32.le_refl _) z⟩
  | k + 1, t, e, h => by
    have hT8 := hF.2.1
    refine ru_Fo_isUnlikeWithout_2 ⟨fun z => by rw [hF.1, nle (by omega) (by omega)] at z; omega, fun _ => ?_⟩
    refine sp_uw12 hF hb (t := t) (by omega) (fun q => ?_) (fun q => sp_uw2 hF hb g k (t + 1) (by omega) (fun i hi u hu => ?_)) t 0 (by omega) (fun i hi => by omega)
    · obtain ⟨u, hu, q⟩ := q
      exact bP_ff g (fun z => z t (by omega) u hu q)
    · by_cases e : i = t
      · subst e; exact q u hu
      · exact h i (by omega) u hu
theorem sp_uw (hF : iF I T nb) {b : Nat} (hb : b < 256) (g : f (bP (uwP T nb (I 3 0) b)) I L) : bt_WP P (d + 4) mi_Fo_isUnlikeWithout [vr 1 0, vi (nI b)] (I, L) (kI f) :=
  ru_Fo_isUnlikeWithout (sp_uw2 hF hb g T 0 (by omega) (fun i hi => by omega))
theorem sp_ft (hF : iF I T nb) (g : f (nI (clS (uwP T nb (I 3 0)) (2 ^ T - 1) (2 ^ T))) I L) : ∀ (k s : Nat), s + k = 2 ^ T → bt_Go P (d + 4) mi_Fo_fewestToTune (kI f) 7 [some (vr 1 0), some (vi (nI (clS (uwP T nb (I 3 0)) (2 ^ T - 1) s))), some (vi (nI s))] [] (I, L)
  | 0, s, e => by
    have hT8 := hF.2.1
    have p8 : 2 ^ T ≤ 2 ^ 8 := Nat.pow_le_pow_right (by omega) hT8
    have p256 : 2 ^ 8 = 256 := rfl
    have e : s = 2 ^ T := by omega
    subst e
    have := Nat.two_pow_pos T
    exact ru_Fo_fewestToTune_7 (sp_all hF.1 hT8 ⟨fun _ => g, fun q => absurd ((nlt (by omega) (by omega)).mpr (by omega)) q⟩)
  | k + 1, s, e => by
    have hT8 := hF.2.1
    have p8 : 2 ^ T ≤ 2 ^ 8 := Nat.pow_le_pow_right (by omega) hT8
    have p256 : 2 ^ 8 = 256 := rfl
    have hcl := clS_le (E := uwP T nb (I 3 0)) (all := 2 ^ T - 1) s (by omega)
    have h1 := bcN_le s
    have h2 := bcN_le (clS (uwP T nb (I 3 0)) (2 ^ T - 1) s)
    have ih := sp_ft hF g k (s + 1) (by omega)
    refine ru_Fo_fewestToTune_7 (sp_all hF.1 hT8 ⟨fun q => absurd ((nlt (by omega) (by omega)).mp q) (by omega), fun _ => sp_bitCount (by omega) (sp_bitCount (by omega) ?_)⟩)
    rw [nI_s]
    refine ⟨fun q => ?_, fun q => sp_uw hF (by omega) (bP_br (fun q2 => ?_) (fun q2 => ?_))⟩
    · have := (nle (by omega) (by omega)).mp q
      rw [clS_f (fun z => by omega)] at ih; exact ih
    · rw [clS_f (fun z => q2 z.2)] at ih; exact ih
    · have : ¬ bcN (clS (uwP T nb (I 3 0)) (2 ^ T - 1) s) ≤ bcN s := fun z => q ((nle (by omega) (by omega)).mpr z)
      rw [clS_t ⟨by omega, q2⟩] at ih; exact ih
theorem sm_tu14 (hF : jF I T nb) {b a : Nat} (hb : b < 256) (ha : a < T) (g0 : (∃ c, a < c ∧ c < T ∧ ((nb a).testBit c = true ∧ I 36 0 a = I 36 0 c ∧ ¬ b.testBit a = true ∧ ¬ b.testBit c = true)) → f 0 I L) (g1 : (∀ c, a < c → c < T → ¬ ((nb a).testBit c = true ∧ I 36 0 a = I 36 0 c ∧ ¬ b.testBit a = true ∧ ¬ b.testBit c = true)) → bt_Go P (d + 1) mi_M_isTuned (kI f) 2 [some (vr 35 0), some (vi (nI b)), some (vi (nI (a + 1))), none] [] (I, L)) : ∀ (k c : Nat), c + k = T → (∀ i, a < i → i < c → ¬ ((nb a).testBit i = true ∧ I 36 0 a = I 36 0 i ∧ ¬ b.testBit a = true ∧ ¬ b.testBit i = true)) → a < c → bt_Go P (d + 1) mi_M_isTuned (kI f) 14 [some (vr 35 0), some (vi (nI b)), some (vi (nI a)), some (vi (nI c))] [] (I, L)
  | 0, c, e, h, _ => by
    have hT8 := hF.2.1
    have e : c = T := by omega
    subst e
    refine ru_M_isTuned_14 ⟨fun _ => ?_, fun z => absurd (by rw [hF.1]; exact Int32.le_refl _) z⟩
    rw [nI_s]; exact g1 h
  | k + 1, c, e, h, hac => by
    have hT8 := hF.2.1
    have hgo : ¬ ((nb a).testBit c = true ∧ I 36 0 a = I 36 0 c ∧ ¬ b.testBit a = true ∧ ¬ b.testBit c = true) → bt_Go P (d + 1) mi_M_isTuned (kI f) 14 [some (vr 35 0), some (vi (nI b)), some (vi (nI a)), some (vi (nI (c + 1)))] [] (I, L) := fun q => by
      refine sm_tu14 hF hb ha g0 g1 k (c + 1) (by omega) (fun i h1 h2 => ?_) (by omega)
      by_cases e : i = c
      · subst e; exact q
      · exact h i h1 (by omega)
    refine ru_M_isTuned_14 ⟨fun z => by rw [hF.1, nle (by omega) (by omega)] at z; omega, fun _ => sm_areBeside hF ha (by omega) ?_⟩
    rw [ti_tn (n := a) (by omega), ti_tn (n := c) (by omega), nI_bit (t := a) (by omega) (by omega), nI_bit (t := c) (by omega) (by omega), nI_s]
    exact bP_br (fun q1 => hgo (fun z => q1 z.1)) (fun q1 => ⟨ti_in (by omega) (by omega), ti_in (by omega) (by omega), fun q2 => hgo (fun z => q2 z.2.1), fun q2 => bP_br' (fun q3 => hgo (fun z => z.2.2.1 q3)) (fun q3 => bP_br' (fun q4 => hgo (fun z => z.2.2.2 q4)) (fun q4 => ⟨z01, g0 ⟨c, hac, by omega, q1, q2, q3, q4⟩⟩))⟩)
theorem sm_tu2 (hF : jF I T nb) (hsy : ∀ a b, (nb a).testBit b = (nb b).testBit a) {b : Nat} (hb : b < 256) (g : f (bP (uwP T nb (I 36 0) b)) I L) : ∀ (k a : Nat), a + k = T → (∀ i, i < a → ∀ c, i < c → c < T → ¬ ((nb i).testBit c = true ∧ I 36 0 i = I 36 0 c ∧ ¬ b.testBit i = true ∧ ¬ b.testBit c = true)) → bt_Go P (d + 1) mi_M_isTuned (kI f) 2 [some (vr 35 0), some (vi (nI b)), some (vi (nI a)), none] [] (I, L)
  | 0, a, e, h => by
    have hT8 := hF.2.1
    have e : a = T := by omega
    subst e
    refine ru_M_isTuned_2 ⟨fun _ => ⟨o01, bP_ft g (fun t ht u hu z => ?_)⟩, fun z => absurd (by rw [hF.1]; exact Int32.le_refl _) z⟩
    exact h u (by omega) t hu ht ⟨by rw [hsy]; exact z.2.2.1, z.2.2.2.symm, z.2.1, z.1⟩
  | k + 1, a, e, h => by
    have hT8 := hF.2.1
    refine ru_M_isTuned_2 ⟨fun z => by rw [hF.1, nle (by omega) (by omega)] at z; omega, fun _ => ?_⟩
    rw [nI_s]
    refine sm_tu14 hF hb (a := a) (by omega) (fun q => ?_) (fun q => sm_tu2 hF hsy hb g k (a + 1) (by omega) (fun i hi c h1 h2 => ?_)) (T - (a + 1)) (a + 1) (by omega) (fun i h1 h2 => by omega) (by omega)
    · obtain ⟨c, h1, h2, q⟩ := q
      exact bP_ff g (fun z => z c h2 a h1 ⟨q.2.2.2, q.2.2.1, by rw [hsy]; exact q.1, q.2.1.symm⟩)
    · by_cases e : i = a
      · subst e; exact q c h1 h2
      · exact h i (by omega) c h1 h2
theorem sm_isTuned (hF : jF I T nb) (hsy : ∀ a b, (nb a).testBit b = (nb b).testBit a) {b : Nat} (hb : b < 256) (g : f (bP (uwP T nb (I 36 0) b)) I L) : bt_WP P (d + 2) mi_M_isTuned [vr 35 0, vi (nI b)] (I, L) (kI f) :=
  ru_M_isTuned (sm_tu2 hF hsy hb g T 0 (by omega) (fun i hi => by omega))
def tuI : Option Nat → Int32
  | none => -1
  | some b => nI b
theorem sm_tu15 (hF : jF I T nb) (hsy : ∀ a b, (nb a).testBit b = (nb b).testBit a) {v : Int32} {b : Nat} (hb : b < 256) (he : enS (uwP T nb (I 36 0)) (2 ^ T) = some b) (g : (¬ v = 0 → f (nI b) I L) ∧ (v = 0 → f (nI (bcN b)) I L)) : ∀ (k s : Nat), s + k = 2 ^ T → bt_Go P (d + 2) mi_M_tuned (kI f) 15 [some (vr 35 0), some (vi v), some (vi (tuI (enS (uwP T nb (I 36 0)) s))), some (vi (nI s))] [] (I, L)
  | k, s, e => by
    have hT8 := hF.2.1
    have p8 : 2 ^ T ≤ 2 ^ 8 := Nat.pow_le_pow_right (by omega) hT8
    have p256 : 2 ^ 8 = 256 := rfl
    refine ru_M_tuned_15 ?_
    rw [hF.1, nI_one (by omega)]
    refine ⟨fun z => ?_, fun z => ?_⟩
    · have := (nle (by omega) (by omega)).mp z
      have e : s = 2 ^ T := by omega
      rw [e, he]
      exact ⟨g.1, fun y => sm_bitsOf hb (g.2 y)⟩
    · have hs : ¬ 2 ^ T ≤ s := fun y => z ((nle (by omega) (by omega)).mpr y)
      obtain ⟨k, rfl⟩ : ∃ k', k = k' + 1 := ⟨k - 1, by omega⟩
      have ih := sm_tu15 hF hsy hb he g k (s + 1) (by omega)
      have h8 := bcN_le s
      rw [nI_s]
      rcases hc : enS (uwP T nb (I 36 0)) s with _ | c
      · refine ⟨fun _ => sm_isTuned hF hsy (by omega) (bP_br (fun q => ?_) (fun q => ?_)), fun q => absurd (show (-1 : Int32) < 0 by decide) q⟩
        · rw [enS_f (fun y => q y.1), hc] at ih; exact ih
        · rw [enS_t ⟨q, fun b' hb' => by rw [hc] at hb'; cases hb'⟩] at ih; exact ih
      · have hcs := (enS_lt s c hc).1
        have h8c := bcN_le c
        refine ⟨fun q => absurd (show nI c < 0 from q) (n_neg (by omega)), fun _ => sm_bitsOf (by omega) (sm_bitsOf (n := c) (by omega) ⟨fun q => ?_, fun q => sm_isTuned hF hsy (by omega) (bP_br (fun q2 => ?_) (fun q2 => ?_))⟩)⟩
        · have := (nle (by omega) (by omega)).mp q
          rw [enS_f (fun y => by have := y.2 c hc; omega), hc] at ih; exact ih
        · rw [enS_f (fun y => q2 y.1), hc] at ih; exact ih
        · have : ¬ bcN c ≤ bcN s := fun z => q ((nle (by omega) (by omega)).mpr z)
          rw [enS_t ⟨q2, fun b' hb' => by rw [hc] at hb'; cases hb'; omega⟩] at ih; exact ih
  termination_by k => k
theorem jn_tuned {G : m_I → m_L → Prop} {v : Int32} (hF : gF I T nb) (h : G I L) :
    bt_WP P (d + 6) mi_B_tuned [vr 0 0, vi v] (I, L) (kI fun x I1 L1 => bt_WP P (d + 6) mi_M_tuned [vr 35 0, vi v] (I1, L1) (kI fun y I2 L2 => x = y ∧ G I2 L2)) := by
  have hT8 := hF.1.2.1
  have p8 : 2 ^ T ≤ 2 ^ 8 := Nat.pow_le_pow_right (by omega) hT8
  have p256 : 2 ^ 8 = 256 := rfl
  have hb : ¬ (0 ≤ v ∧ v ≤ 1) → bt_WP P (d + 6) mi_M_tuned [vr 35 0, vi v] (I, L) (kI fun y I2 L2 => (-1) = y ∧ G I2 L2) := fun hv => by
    refine ru_M_tuned (sm_in ?_)
    rw [bP_f hv]
    exact ⟨(fun z => absurd rfl z), fun _ => ⟨rfl, h⟩⟩
  refine ru_B_tuned ⟨fun z => hb (fun y => absurd z (Int32.not_lt.mpr y.1)), fun z => ⟨fun z2 => ?_, fun z2 => hb (fun y => z2 y.2)⟩⟩
  have hE : uwP T nb (I 3 0) (2 ^ T - 1) := fun t ht u hu q => q.1 (by rw [Nat.testBit_two_pow_sub_one, decide_eq_true ht])
  have he := cl_end hT8 hE
  have hcl := clS_le (E := uwP T nb (I 3 0)) (all := 2 ^ T - 1) (2 ^ T) (by have := Nat.two_pow_pos T; omega)
  have e36 : enS (uwP T nb (I 36 0)) (2 ^ T) = some (clS (uwP T nb (I 3 0)) (2 ^ T - 1) (2 ^ T)) := by
    have e : uwP T nb (I 36 0) = uwP T nb (I 3 0) := by
      funext b
      apply propext
      have hp : ∀ t, t < T → I 36 0 t = I 3 0 t := fun t ht => (hF.2.2.2.1 0 t (by omega) ht).1
      unfold uwP
      constructor
      · intro q t ht u hu; rw [← hp t ht, ← hp u (by omega)]; exact q t ht u hu
      · intro q t ht u hu; rw [hp t ht, hp u (by omega)]; exact q t ht u hu
    rw [e]; exact he
  have hm : ∀ x, (¬ v = 0 → x = nI (clS (uwP T nb (I 3 0)) (2 ^ T - 1) (2 ^ T))) → (v = 0 → x = nI (bcN (clS (uwP T nb (I 3 0)) (2 ^ T - 1) (2 ^ T)))) → bt_WP P (d + 6) mi_M_tuned [vr 35 0, vi v] (I, L) (kI fun y I2 L2 => x = y ∧ G I2 L2) := fun x x1 x2 => by
    refine ru_M_tuned (sm_in ?_)
    rw [bP_t ⟨Int32.not_lt.mp z, z2⟩]
    exact ⟨fun _ => sm_tu15 hF.2.1 hF.2.2.1 (by omega) e36 ⟨fun q => ⟨x1 q, h⟩, fun q => ⟨x2 q, h⟩⟩ (2 ^ T) 0 (by omega), (fun z => absurd z (by decide))⟩
  refine ru_Fo_fewestToTune (sp_all hF.1.1 hT8 (sp_ft hF.1 ⟨fun q => hm _ (fun _ => rfl) (fun z => absurd z q), fun q => sp_bitCount (by omega) (hm _ (fun z => absurd q z) (fun _ => rfl))⟩ (2 ^ T) 0 (by omega)))
end TUN
