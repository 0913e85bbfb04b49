/-! WHAT A WALK SOUNDS LIKE: the context, both sides -/
def cx (P : bt_PT) (I : m_I) (L : m_L) (T hu bn : Nat) (nb : Nat → Nat) (X : Nat → sH) (Z : Nat → Nat) (F : lF) : Prop := gF I T nb ∧ rowC I L bn X Z ∧ gL P I F ∧ hu < 8 ∧ I 3 7 0 = nI hu ∧ I 35 0 13 = nI hu
theorem cx_of {P : bt_PT} {I : m_I} {L : m_L} {T bn : Nat} {nb : Nat → Nat} {F : lF} (hF : gF I T nb) (hS : gS I L bn) (hb : bn ≤ 50) (hL : gL P I F) : ∃ hu X Z, cx P I L T hu bn nb X Z F := by
  obtain ⟨X, Z, hR⟩ := rowC_of hS hb
  obtain ⟨hu, h1, h2, h3⟩ := hut_of hF
  exact ⟨hu, X, Z, hF, hR, hL, h1, h2, h3⟩
theorem cx_S {P : bt_PT} {I I' : m_I} {L L' : m_L} {T hu bn : Nat} {nb : Nat → Nat} {X : Nat → sH} {Z : Nat → Nat} {F : lF} (h : cx P I L T hu bn nb X Z F) (q : Scr I L I' L') : cx P I' L' T hu bn nb X Z F :=
  ⟨gF_Q h.1 (Qg_scr q (by decide)), rowC_S h.2.1 q, gL_Q h.2.2.1 (Qw_S q), h.2.2.2.1, by rw [q.1 3 7 0 rfl]; exact h.2.2.2.2.1, by rw [q.1 35 0 13 rfl]; exact h.2.2.2.2.2⟩
/-- what is heard of a sort -/
noncomputable abbrev SD (I : m_I) (F : lF) (T : Nat) (nb : Nat → Nat) (hu k : Nat) : Nat → Nat → Int32 := snd I F (frD T nb hu) T k
/-- among these bells alone -/
def amo (S : Nat → Nat → Int32) (b t m : Nat) : Int32 := if b.testBit t = true then S t m else -1
theorem amo_255 {S : Nat → Nat → Int32} {t m : Nat} (ht : t < 8) : amo S 255 t m = S t m := by unfold amo; rw [if_pos (by rw [tb255, decide_eq_true ht])]
/-- Sounds is filled -/
def flS (I : m_I) (s0 : Nat) (S : Nat → Nat → Int32) : Prop := ∀ t m, t < 8 → m < 24 → I 14 (8 * s0 + t) m = S t m
theorem cx_fill {P : bt_PT} {d : Nat} {f : m_I → m_L → Prop} {I : m_I} {L : m_L} {T hu bn k s0 : Nat} {nb : Nat → Nat} {X : Nat → sH} {Z : Nat → Nat} {F : lF} (h : cx P I L T hu bn nb X Z F) (hk : k < 4) (g : ∀ I', offS s0 I I' → flS I' s0 (SD I F T nb hu k) → f I' L) : bt_WP P (d + 6) mi_So_fill [vr 12 s0, vi (nI k)] (I, L) (kV f) :=
  sp_fill h.1.1 h.2.2.2.2.1 h.2.2.2.1 (fun m hm => (h.1.2.2.2.1 4 m (by omega) (by show m < 24; omega)).2) h.2.2.1.1 hk g
/-- both Sounds filled, one behind the other -/
theorem cx_fill2 {P : bt_PT} {d : Nat} {f : m_I → m_L → Prop} {I : m_I} {L : m_L} {T hu bn k k' : Nat} {nb : Nat → Nat} {X : Nat → sH} {Z : Nat → Nat} {F : lF} (h : cx P I L T hu bn nb X Z F) (hk : k < 4) (hk' : k' < 4) (g : ∀ I', Scr I L I' L → flS I' 0 (SD I F T nb hu k) → flS I' 1 (SD I F T nb hu k') → f I' L) : bt_WP P (d + 6) mi_So_fill [vr 12 0, vi (nI k)] (I, L) (kV fun I1 L1 => bt_WP P (d + 6) mi_So_fill [vr 12 1, vi (nI k')] (I1, L1) (kV f)) := by
  refine cx_fill h hk (fun I1 h1 h2 => ?_)
  have q1 : Scr I L I1 L := offS_Scr h1
  refine cx_fill (cx_S h q1) hk' (fun I2 h3 h4 => ?_)
  refine g I2 (Scr_tr q1 (offS_Scr h3)) (fun t m ht hm => ?_) ?_
  · rw [h3 14 _ m (by omega)]; exact h2 t m ht hm
  · rw [show SD I1 F T nb hu k' = SD I F T nb hu k' from by unfold SD; rw [snd_S q1]] at h4; exact h4
/-- the reference on its way: far is found -/
def mR (I0 I : m_I) (T : Nat) (fr : Nat → Nat) : Prop := (∀ a b c, ¬ (a = 48 ∨ a = 55 ∨ a = 56) → I a b c = I0 a b c) ∧ ∀ t, t < T → I 48 0 t = nI (fr t)
theorem mR_Scr {I0 I : m_I} {L : m_L} {T : Nat} {fr : Nat → Nat} (h : mR I0 I T fr) : Scr I0 L I L := ⟨fun k i j e => h.1 k i j (fun z => by
  rcases z with rfl | rfl | rfl <;> cases e), fun _ _ _ _ => rfl⟩
theorem cx_far {P : bt_PT} {d : Nat} {f : m_I → m_L → Prop} {I : m_I} {L : m_L} {T hu bn : Nat} {nb : Nat → Nat} {X : Nat → sH} {Z : Nat → Nat} {F : lF} (h : cx P I L T hu bn nb X Z F) (g : ∀ I', mR I I' T (frD T nb hu) → f I' L) : bt_WP P (d + 2) mi_M_findFar [vr 35 0] (I, L) (kV f) :=
  sm_findFar h.1.2.1 h.2.2.2.2.2 h.2.2.2.1 (fun I' h1 h2 => g I' ⟨fun a b c z => h1 a b c (fun y => z (Or.inl y)), h2⟩)
theorem cx_so {P : bt_PT} {d : Nat} {f : Int32 → m_I → m_L → Prop} {I0 I : m_I} {L L0 : m_L} {T hu bn k t m b : Nat} {nb : Nat → Nat} {X : Nat → sH} {Z : Nat → Nat} {F : lF} (h : cx P I0 L0 T hu bn nb X Z F) (hr : mR I0 I T (frD T nb hu)) (hk : k < 4) (ht : t < T) (hm : m < 24) (hb : b < 256) (g : ∀ I', mR I0 I' T (frD T nb hu) → f (amo (SD I0 F T nb hu k) b t m) I' L) : bt_WP P (d + 5) mi_M_soundOf [vr 35 0, vi (nI k), vi (nI t), vi (nI m), vi (nI b)] (I, L) (kI f) := by
  have q : Scr I0 L I L := mR_Scr hr
  refine sm_soundOf (fr := frD T nb hu) (F := F) (gV_Q h.1.2.2.2.1 (Qg_scr q (by decide))) h.1.1.2.1 (gL_Q h.2.2.1 (Qw_S q)) (hr.2 t ht) hk ht hm hb (fun I' h1 => ?_)
  rw [snd_S q]
  exact g I' ⟨fun a b c z => (h1 a b c (fun y => z (Or.inr y))).trans (hr.1 a b c z), fun u hu => (h1 48 0 u (by omega)).trans (hr.2 u hu)⟩
theorem cx_wso {P : bt_PT} {d : Nat} {f : Int32 → m_I → m_L → Prop} {I0 I : m_I} {L : m_L} {T hu bn k s z m b : Nat} {nb : Nat → Nat} {X : Nat → sH} {Z : Nat → Nat} {F : lF} (h : cx P I0 L T hu bn nb X Z F) (hr : mR I0 I T (frD T nb hu)) (hk : k < 4) (hs : s < 6) (hx : gS1 I0 L bn s (some (.inr 0)) z) (hw : lt' (vL L s m) T) (hm : m < 24) (hb : b < 256) (g : ∀ I', mR I0 I' T (frD T nb hu) → f (amo (SD I0 F T nb hu k) b (tn (vL L s m)) m) I' L) : bt_WP P (d + 6) mi_M_walkedSound [vr 35 0, vi (nI k), vi (nI s), vi (nI m), vi (nI b)] (I, L) (kI f) := by
  refine ru_M_walkedSound (sm_told hs (by omega) ?_)
  rw [(row_e hx).2.1 m (by omega)]
  obtain ⟨t, ht, et⟩ := hw
  have et' : (L 34 s m).toInt32 = nI t := et
  rw [et, ti_tn (by have := h.1.1.2.1; omega)] at g
  rw [et']
  exact cx_so h hr hk ht hm hb g
/-- a byte and an int -/
theorem by_64 {v : Int64} (h : byL v) : v.toInt32.toInt64 = v := by
  apply Int64.toInt_inj.mp
  rw [Int32.toInt_toInt64, by_i h]
theorem by_e1 {v : Int64} (h : byL v) (x : Int32) : lg_cmp x.toInt64 v = 0 ↔ x = v.toInt32 := by
  rw [lg_eq]
  constructor
  · intro e; rw [← e, Int32.toInt32_toInt64]
  · intro e; rw [e, by_64 h]
theorem by_e2 {v : Int64} (h : byL v) (x : Int32) : lg_cmp v x.toInt64 = 0 ↔ v.toInt32 = x := by
  rw [lg_eq]
  constructor
  · intro e; rw [e, Int32.toInt32_toInt64]
  · intro e; rw [← e, by_64 h]
theorem by_e3 {v : Int64} (h : byL v) : lg_cmp v (-1) = 0 ↔ v.toInt32 = -1 := by
  have := by_e2 h (-1)
  rw [show ((-1 : Int32)).toInt64 = (-1 : Int64) from rfl] at this
  exact this
theorem mn_i {a b : Nat} (ha : a < 2147483648) (hb : b < 2147483648) : (if nI b < nI a then nI b else nI a) = nI (min a b) := by
  by_cases q : b < a
  · rw [if_pos ((nlt hb ha).mpr q), Nat.min_eq_right (by omega)]
  · rw [if_neg (fun z => q ((nlt hb ha).mp z)), Nat.min_eq_left (by omega)]
theorem sm_bothHave {P : bt_PT} {d : Nat} {f : Int32 → m_I → m_L → Prop} {I : m_I} {L : m_L} {a b z1 z2 : Nat} {w : Int32} (ha : a < 6) (hb : b < 6) (e1 : w / 10 = nI a) (e2 : w - w / 10 * 10 = nI b) (h1 : I 67 0 a = nI z1) (h2 : I 67 0 b = nI z2) (g1 : z1 ≤ 60) (g2 : z2 ≤ 60) (h : f (nI (min (min 24 z1) (min 24 z2))) I L) : bt_WP P (d + 2) mi_M_bothHave [vr 35 0, vi w] (I, L) (kI f) := by
  refine ru_M_bothHave ?_
  rw [e2, e1]
  refine ⟨by decide, sm_minutesOf ha h1 g1 ⟨by decide, sm_minutesOf hb h2 g2 ⟨fun q => ⟨by decide, sm_minutesOf hb h2 g2 ?_⟩, fun q => ⟨by decide, sm_minutesOf ha h1 g1 ?_⟩⟩⟩⟩
  · have := (nle (by omega) (by omega)).mp q
    rw [Nat.min_eq_right this] at h; exact h
  · have : ¬ min 24 z2 ≤ min 24 z1 := fun y => q ((nle (by omega) (by omega)).mpr y)
    rw [Nat.min_eq_left (by omega)] at h; exact h
/-- the first minute of some -/
noncomputable def fsI (D : Nat → Prop) : Nat → Nat → Int32
  | _, 0 => -2
  | m, k + 1 => @ite Int32 (D m) (Classical.propDecidable _) (nI m) (fsI D (m + 1) k)
theorem fsI_t {D : Nat → Prop} {m k : Nat} (h : D m) : fsI D m (k + 1) = nI m := by unfold fsI; rw [if_pos h]
theorem fsI_f {D : Nat → Prop} {m k : Nat} (h : ¬ D m) : fsI D m (k + 1) = fsI D (m + 1) k := by
  show @ite Int32 (D m) (Classical.propDecidable _) (nI m) (fsI D (m + 1) k) = _
  rw [if_neg h]
theorem fsI_n {D : Nat → Prop} : ∀ (k m : Nat), m + k < 2147483648 → (fsI D m k = -2 ↔ ∀ i, m ≤ i → i < m + k → ¬ D i)
  | 0, m, _ => ⟨fun _ i h1 h2 => by omega, fun _ => rfl⟩
  | k + 1, m, hb => by
    by_cases q : D m
    · rw [fsI_t q]
      exact ⟨fun e => absurd (show nI m < 0 from by rw [e]; decide) (n_neg (by omega)), fun z => absurd q (z m (Nat.le_refl _) (by omega))⟩
    · rw [fsI_f q, fsI_n k (m + 1) (by omega)]
      constructor
      · intro z i h1 h2
        by_cases e : i = m
        · subst e; exact q
        · exact z i (by omega) (by omega)
      · intro z i h1 h2; exact z i (by omega) (by omega)
theorem fsI_v {D : Nat → Prop} : ∀ (k m : Nat), m + k < 2147483648 → fsI D m k = -2 ∨ ¬ fsI D m k < 0
  | 0, m, _ => Or.inl rfl
  | k + 1, m, hb => by
    by_cases q : D m
    · rw [fsI_t q]; exact Or.inr (n_neg (by omega))
    · rw [fsI_f q]; exact fsI_v k (m + 1) (by omega)
