/-! apart: joint; told apart and heard, both sides -/
theorem ab_10 : ∀ a, a < 6 → ∀ b, b < 6 → (10 * nI a + nI b) / 10 = nI a ∧ (10 * nI a + nI b) - (10 * nI a + nI b) / 10 * 10 = nI b := by decide +kernel
section APA
variable {P : bt_PT} {d : Nat} {f : Int32 → m_I → m_L → Prop} {I0 I : m_I} {L : m_L} {T hu bn : Nat} {nb : Nat → Nat} {X : Nat → sH} {Z : Nat → Nat} {F : lF}
/-- two walks are unlike in a minute -/
def unD (L : m_L) (S S' : Nat → Nat → Int32) (a b bl : Nat) : Nat → Prop := fun m => ¬ amo S bl (tn (vL L a m)) m = amo S' bl (tn (vL L b m)) m
theorem sp_fuL (h : cx P I L T hu bn nb X Z F) {a b bl s3 : Nat} {S S' : Nat → Nat → Int32} (ha : a < 6) (hb : b < 6) (xa : X a = some (.inr 0)) (xb : X b = some (.inr 0)) (wa : WK L T nb Z a) (wb : WK L T nb Z b) (hfl : flS I 0 S) (hfl' : flS I s3 S') (hbl : bl < 256) : ∀ (k m : Nat), m + k = min (min 24 (Z a)) (min 24 (Z b)) → f (fsI (unD L S S' a b bl) m k) I L → bt_Go P (d + 3) mi_B_firstUnlike (kI f) 31 [some (vr 0 0), some (vr 33 a), some (vr 33 b), some (vr 12 s3), some (vi (nI bl)), some (vi (nI (min (min 24 (Z a)) (min 24 (Z b))))), some (vi (nI m))] [] (I, L)
  | 0, m, e, g => by
    have e : m = min (min 24 (Z a)) (min 24 (Z b)) := by omega
    rw [← e]
    exact ru_B_firstUnlike_31 ⟨fun _ => g, fun q => absurd (Int32.le_refl _) q⟩
  | k + 1, m, e, g => by
    obtain ⟨-, -, -, za, ea⟩ := row_e (cx_row h ha xa)
    obtain ⟨-, -, -, zb, eb⟩ := row_e (cx_row h hb xb)
    obtain ⟨hT, hT8⟩ := cx_T h
    refine ru_B_firstUnlike_31 ⟨fun q => absurd ((nle (by omega) (by omega)).mp q) (by omega), fun _ => sp_at ea za (by omega) (sp_amo hT hT8 (WK_lt wa (m := m) (by omega)) (by omega) hbl hfl (sp_at eb zb (by omega) (sp_amo hT hT8 (WK_lt wb (m := m) (by omega)) (by omega) hbl hfl' ⟨fun q => ?_, fun q => ?_⟩)))⟩
    · rw [nI_s]
      rw [fsI_f (fun z => z q)] at g
      exact sp_fuL h ha hb xa xb wa wb hfl hfl' hbl k (m + 1) (by omega) g
    · rw [fsI_t q] at g; exact g
theorem sp_fu (h : cx P I L T hu bn nb X Z F) {a b bl s3 : Nat} {S S' : Nat → Nat → Int32} (ha : a < 6) (hb : b < 6) (xa : X a = some (.inr 0)) (xb : X b = some (.inr 0)) (wa : WK L T nb Z a) (wb : WK L T nb Z b) (hfl : flS I 0 S) (hfl' : flS I s3 S') (hbl : bl < 256) (g : f (fsI (unD L S S' a b bl) 0 (min (min 24 (Z a)) (min 24 (Z b)))) I L) : bt_WP P (d + 4) mi_B_firstUnlike [vr 0 0, vr 33 a, vr 33 b, vr 12 s3, vi (nI bl)] (I, L) (kI f) := by
  obtain ⟨-, -, -, za, ea⟩ := row_e (cx_row h ha xa)
  obtain ⟨-, -, -, zb, eb⟩ := row_e (cx_row h hb xb)
  refine ru_B_firstUnlike ⟨(fun z => by cases z), fun _ => ⟨(fun z => by cases z), fun _ => ⟨fun _ => sp_minutes ea za (sp_minutes eb zb ?_), (fun z => by cases z)⟩⟩⟩
  rw [mn_i (by omega) (by omega)]
  exact sp_fuL h ha hb xa xb wa wb hfl hfl' hbl _ 0 (by omega) g
theorem sm_unlL (h : cx P I0 L T hu bn nb X Z F) {a b k l bl : Nat} (hk : k < 4) (hl : l < 4) (ha : a < 6) (hb : b < 6) (xa : X a = some (.inr 0)) (xb : X b = some (.inr 0)) (wa : WK L T nb Z a) (wb : WK L T nb Z b) (hbl : bl < 256) : ∀ (n m : Nat) (I : m_I), m + n = min (min 24 (Z a)) (min 24 (Z b)) → mR I0 I T (frD T nb hu) → (∀ I', mR I0 I' T (frD T nb hu) → f (fsI (unD L (SD I0 F T nb hu k) (SD I0 F T nb hu l) a b bl) m n) I' L) → bt_Go P (d + 6) mi_M_unlikeIn (kI f) 3 [some (vr 35 0), some (vi (nI k)), some (vi (nI a)), some (vi (nI l)), some (vi (nI b)), some (vi (nI bl)), some (vi (nI m))] [] (I, L)
  | n, m, I, e, hr, g => by
    have q : Scr I0 L I L := mR_Scr hr
    have ra := cx_row h ha xa
    have rb := cx_row h hb xb
    obtain ⟨ka, -, -, za, -⟩ := row_e (cx_row (cx_S h q) ha xa)
    obtain ⟨kb, -, -, zb, -⟩ := row_e (cx_row (cx_S h q) hb xb)
    obtain ⟨e1, e2⟩ := ab_10 a ha b hb
    refine ru_M_unlikeIn_3 (sm_bothHave ha hb e1 e2 ka kb za zb ⟨fun z => ?_, fun z => ?_⟩)
    · have := (nle (by omega) (by omega)).mp z
      have e0 : n = 0 := by omega
      subst e0; exact g I hr
    · have hm : ¬ min (min 24 (Z a)) (min 24 (Z b)) ≤ m := fun y => z ((nle (b := m) (by omega) (by omega)).mpr y)
      obtain ⟨n, rfl⟩ : ∃ n', n = n' + 1 := ⟨n - 1, by omega⟩
      refine cx_wso h hr hk ha ra (WK_lt wa (m := m) (by omega)) (by omega) hbl (fun I1 hr1 => cx_wso h hr1 hl hb rb (WK_lt wb (m := m) (by omega)) (by omega) hbl (fun I2 hr2 => ⟨fun y => ?_, fun y => ?_⟩))
      · rw [nI_s]
        refine sm_unlL h hk hl ha hb xa xb wa wb hbl n (m + 1) I2 (by omega) hr2 (fun I' hr' => ?_)
        have := g I' hr'
        rw [fsI_f (fun z => z y)] at this; exact this
      · have := g I2 hr2
        rw [fsI_t y] at this; exact this
  termination_by n => n
theorem sm_unl (h : cx P I0 L T hu bn nb X Z F) {a b k l bl : Nat} (hk : k < 4) (hl : l < 4) (ha : a < 6) (hb : b < 6) (xa : X a = some (.inr 0)) (xb : X b = some (.inr 0)) (wa : WK L T nb Z a) (wb : WK L T nb Z b) (hbl : bl < 256) (hr : mR I0 I T (frD T nb hu)) (g : ∀ I', mR I0 I' T (frD T nb hu) → f (fsI (unD L (SD I0 F T nb hu k) (SD I0 F T nb hu l) a b bl) 0 (min (min 24 (Z a)) (min 24 (Z b)))) I' L) : bt_WP P (d + 7) mi_M_unlikeIn [vr 35 0, vi (nI k), vi (nI a), vi (nI l), vi (nI b), vi (nI bl)] (I, L) (kI f) :=
  ru_M_unlikeIn (sm_unlL h hk hl ha hb xa xb wa wb hbl _ 0 I (by omega) hr g)
theorem jn_apart {G : m_I → m_L → Prop} {kk w : Int32} (hx : cx P I L T hu bn nb X Z F) (h : ∀ I', Scr I L I' L → G I' L) :
    bt_WP P (d + 8) mi_B_apart [vr 0 0, vi kk, vi w] (I, L) (kI fun x I1 L1 => bt_WP P (d + 8) mi_M_apart [vr 35 0, vi kk, vi w] (I1, L1) (kI fun y I2 L2 => x = y ∧ G I2 L2)) := by
  have hr : G I L := h I Scr_rf
  rcases pr_c kk 4 with hk | ⟨k, l, hk, hl, hk0, k1, k2⟩
  · exact ru_B_apart (sp_isPair_out (B := 4) (by omega) hk ⟨fun _ => ru_M_apart (sm_areSorts_out hk ⟨fun _ => ⟨rfl, hr⟩, (fun z => absurd rfl z)⟩), (fun z => absurd rfl z)⟩)
  rcases pr_c w 6 with hw | ⟨a, b, ha, hb, h0, e1, e2⟩
  · exact ru_B_apart (sp_isPair_in (B := 4) (by omega) hk hl hk0 k1 k2 ⟨(fun z => absurd z (by decide)), fun _ => sp_isPair_out (B := 6) (by omega) hw ⟨(fun z => absurd rfl z), fun _ => ru_M_apart (sm_areSorts_in hk hl hk0 k1 k2 ⟨(fun z => absurd z (by decide)), fun _ => sm_areShelves_out hw ⟨(fun z => absurd rfl z), fun _ => ⟨rfl, hr⟩⟩⟩)⟩⟩)
  have pa := pow_lt256 (t := a) (T := 8) (by omega) (by omega)
  have pb := pow_lt256 (t := b) (T := 8) (by omega) (by omega)
  have pab := or_lt256 pa pb
  have hm : ∀ (I1 : m_I) (Q : Int32 → m_I → m_L → Prop), Scr I L I1 L → (¬ 0 ≤ faI (fun i => i = a ∨ i = b) X (fun _ => True) → Q (faI (fun i => i = a ∨ i = b) X (fun _ => True)) I1 L) → (X a = some (.inr 0) → X b = some (.inr 0) → (¬ WK L T nb Z a ∨ ¬ WK L T nb Z b) → Q (-5) I1 L) → (X a = some (.inr 0) → X b = some (.inr 0) → WK L T nb Z a → WK L T nb Z b → ∀ I2, mR I1 I2 T (frD T nb hu) → bt_WP P (d + 7) mi_M_unlikeIn [vr 35 0, vi (nI k), vi (nI a), vi (nI l), vi (nI b), vi (nI 255)] (I2, L) (kI Q)) → bt_WP P (d + 8) mi_M_apart [vr 35 0, vi kk, vi w] (I1, L) (kI Q) := fun I1 Q q c1 c2 c3 => by
    have hx1 := cx_S hx q
    have hR := hx1.2.1
    refine ru_M_apart (sm_areSorts_in hk hl hk0 k1 k2 ⟨(fun z => absurd z (by decide)), fun _ => sm_areShelves_in ha hb h0 e1 e2 ⟨fun _ => sm_rowsFault hR ha hb e1 e2 ⟨fun z => ⟨by decide, ?_⟩, fun z => sm_rowsFault hR ha hb e1 e2 (c1 z)⟩, (fun z => absurd z (by decide))⟩⟩)
    have h00 : faI (fun i => i = a ∨ i = b) X (fun _ => True) = 0 := Classical.byContradiction fun y => absurd (faI_lt.mpr y) (Int32.not_lt.mpr z)
    have hxx := (faI_0 h00).1
    have xa := hxx a (Or.inl rfl)
    have xb := hxx b (Or.inr rfl)
    rw [e2, e1, k2, k1]
    refine sm_isWalk hx1.1.2.1 ha (cx_row hx1 ha xa) (bP_br (fun wa => c2 xa xb (Or.inl wa)) (fun wa => ⟨by decide, sm_isWalk hx1.1.2.1 hb (cx_row hx1 hb xb) (bP_br' (fun wb => cx_far hx1 (fun I2 q3 => ⟨by decide, by decide, by decide, by decide, ru_M_every ?_⟩)) (fun wb => c2 xa xb (Or.inr wb)))⟩))
    exact bt_WP_imp (c3 xa xb wa wb I2 q3) (fun r σ y => by
      match r, y with
      | some (.inl x), y => exact y)
  refine ru_B_apart (sp_isPair_in (B := 4) (by omega) hk hl hk0 k1 k2 ⟨(fun z => absurd z (by decide)), fun _ => sp_isPair_in (B := 6) (by omega) ha hb h0 e1 e2 ⟨fun _ => ⟨by decide, by decide, ?_⟩, (fun z => absurd z (by decide))⟩⟩)
  rw [e2, e1, nI_one (t := a) (by omega), nI_one (t := b) (by omega), nI_or]
  refine sp_walksRefusal hx.1.1 hx.2.1 (by omega) ?_
  rw [faI_ext (S' := fun i => i = a ∨ i = b) (fun i => by
    rw [tb_2]
    constructor
    · rintro ⟨-, y⟩; exact y
    · rintro (rfl | rfl)
      · exact ⟨ha, Or.inl rfl⟩
      · exact ⟨hb, Or.inr rfl⟩)]
  rcases faI_c (S := fun i => i = a ∨ i = b) (X := X) (W := WK L T nb Z) with ⟨e, y⟩ | ⟨e, y1, y2⟩ | ⟨e, y1, y2⟩ | ⟨e, y1, y2⟩
  · rw [e]
    have e' : faI (fun i => i = a ∨ i = b) X (fun _ => True) = -11 := faI_11 y
    refine ⟨(fun z => absurd z (by decide)), fun _ => hm I _ Scr_rf (fun _ => ?_) (fun xa xb _ => ?_) (fun xa xb _ _ _ _ => ?_)⟩
    · rw [e']; exact ⟨rfl, hr⟩
    · obtain ⟨i, rfl | rfl, y⟩ := y
      · rw [xa] at y; cases y
      · rw [xb] at y; cases y
    · obtain ⟨i, rfl | rfl, y⟩ := y
      · rw [xa] at y; cases y
      · rw [xb] at y; cases y
  · rw [e]
    have e' : faI (fun i => i = a ∨ i = b) X (fun _ => True) = -12 := faI_12 y1 y2
    refine ⟨(fun z => absurd z (by decide)), fun _ => hm I _ Scr_rf (fun _ => ?_) (fun xa xb _ => ?_) (fun xa xb _ _ _ _ => ?_)⟩
    · rw [e']; exact ⟨rfl, hr⟩
    · obtain ⟨i, rfl | rfl, y⟩ := y2
      · exact absurd xa y
      · exact absurd xb y
    · obtain ⟨i, rfl | rfl, y⟩ := y2
      · exact absurd xa y
      · exact absurd xb y
  · rw [e]
    have e' : faI (fun i => i = a ∨ i = b) X (fun _ => True) = 0 := faI_00 y1 (fun _ _ => trivial)
    refine ⟨(fun z => absurd z (by decide)), fun _ => hm I _ Scr_rf (fun z => ?_) (fun xa xb _ => ⟨rfl, hr⟩) (fun xa xb wa wb _ _ => ?_)⟩
    · rw [e'] at z; exact absurd (by decide) z
    · obtain ⟨i, rfl | rfl, y⟩ := y2
      · exact absurd wa y
      · exact absurd wb y
  · rw [e]
    have e' : faI (fun i => i = a ∨ i = b) X (fun _ => True) = 0 := faI_00 y1 (fun _ _ => trivial)
    have xa := y1 a (Or.inl rfl)
    have xb := y1 b (Or.inr rfl)
    have wa := y2 a (Or.inl rfl)
    have wb := y2 b (Or.inr rfl)
    refine ⟨fun _ => ⟨by decide, ?_⟩, (fun z => absurd rfl z)⟩
    rw [k2, k1]
    refine bt_WP_imp (cx_fill2 (f := fun I1 L1 => L1 = L ∧ Scr I L I1 L ∧ flS I1 0 (SD I F T nb hu k) ∧ flS I1 1 (SD I F T nb hu l)) hx hk hl (fun I1 q1 q2 q3 => ⟨rfl, q1, q2, q3⟩)) (fun r σ y => ?_)
    match r, y with
    | none, y =>
      refine ⟨by decide, bt_WP_imp y (fun r σ y => ?_)⟩
      match r, σ, y with
      | none, (I1, _), ⟨rfl, q1, q2, q3⟩ =>
        have q1 : Scr I L I1 L := q1
        have q2 : flS I1 0 (SD I F T nb hu k) := q2
        have q3 : flS I1 1 (SD I F T nb hu l) := q3
        have hx1 := cx_S hx q1
        refine ⟨by decide, ?_⟩
        refine (show bt_WP P (d + 7) mi_B_shelfAt [vr 0 0, vi (nI a)] (I1, L) _ from ?_)
        refine sp_sA ha (ru_B_apart_79_b ⟨by decide, ?_⟩)
        rw [e2]
        refine sp_sA hb (ru_B_apart_87_d (sp_fu (bl := 255) (s3 := 1) hx1 ha hb xa xb wa wb q2 q3 (by omega) ?_))
        refine hm I1 _ q1 (fun z => ?_) (fun _ _ z => absurd z (fun z => z.elim (fun z => z wa) (fun z => z wb))) (fun _ _ _ _ I2 q4 => ?_)
        · rw [e'] at z; exact absurd (by decide) z
        · refine sm_unl hx1 hk hl ha hb xa xb wa wb (by omega) q4 (fun I' q5 => ⟨?_, h _ (Scr_tr q1 (mR_Scr q5))⟩)
          rw [show SD I1 F T nb hu k = SD I F T nb hu k from by unfold SD; rw [snd_S q1], show SD I1 F T nb hu l = SD I F T nb hu l from by unfold SD; rw [snd_S q1]]
end APA
