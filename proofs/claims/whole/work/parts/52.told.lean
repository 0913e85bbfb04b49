/-! sound, joint; heard at all, told apart: both sides -/
section TLD
variable {P : bt_PT} {d : Nat} {f : Int32 → m_I → m_L → Prop} {I0 I : m_I} {L : m_L} {T hu bn : Nat} {nb : Nat → Nat} {X : Nat → sH} {Z : Nat → Nat} {F : lF}
theorem sp_isMin_out {m : Int32} (hm : oob m 24) (h : f 0 I L) : bt_WP P (d + 1) mi_B_isMinute [vi m] (I, L) (kI f) := ru_B_isMinute ⟨fun _ => ⟨z01, h⟩, fun h0 => ⟨fun _ => ⟨z01, h⟩, fun h1 => absurd hm (fun z => z.elim h0 h1)⟩⟩
theorem jn_sound {G : m_I → m_L → Prop} {k t m : Int32} (hx : cx P I L T hu bn nb X Z F) (h : ∀ I', Scr I L I' L → G I' L) :
    bt_WP P (d + 7) mi_B_sound [vr 0 0, vi k, vi t, vi m] (I, L) (kI fun x I1 L1 => bt_WP P (d + 7) mi_M_sound [vr 35 0, vi k, vi t, vi m] (I1, L1) (kI fun y I2 L2 => x = y ∧ G I2 L2)) := by
  have hr : G I L := h I Scr_rf
  obtain ⟨hT, hT8⟩ := cx_T hx
  have hmT := hx.1.2.1.1
  rcases ix k 4 (by omega) with hk | ⟨k, hk, rfl⟩
  · exact ru_B_sound (sp_isSort_out hk ⟨fun _ => ru_M_sound (sm_isSort_out hk ⟨fun _ => ⟨rfl, hr⟩, (fun z => absurd rfl z)⟩), (fun z => absurd rfl z)⟩)
  rcases ix t T (by omega) with ht | ⟨t, ht, rfl⟩
  · exact ru_B_sound (sp_isSort_in hk ⟨(fun z => absurd z (by decide)), fun _ => sp_has hT (bP_br (fun _ => ru_M_sound (sm_isSort_in hk ⟨(fun z => absurd z (by decide)), fun _ => sm_isTree hmT hT8 (bP_br (fun _ => ⟨rfl, hr⟩) (fun z => absurd ht z))⟩)) (fun z => absurd ht z))⟩)
  rcases ix m 24 (by omega) with hm | ⟨m, hm, rfl⟩
  · exact ru_B_sound (sp_isSort_in hk ⟨(fun z => absurd z (by decide)), fun _ => sp_has_in hT hT8 ht ⟨(fun z => absurd z (by decide)), fun _ => sp_isMin_out hm ⟨(fun z => absurd rfl z), fun _ => ru_M_sound (sm_isSort_in hk ⟨(fun z => absurd z (by decide)), fun _ => sm_isTree hmT hT8 (bP_br (fun z => absurd (n_oob ht (by omega)) z) (fun _ => sm_isMinute (bP_br' (fun z => absurd hm z) (fun _ => ⟨rfl, hr⟩))))⟩)⟩⟩⟩)
  refine ru_B_sound (sp_isSort_in hk ⟨(fun z => absurd z (by decide)), fun _ => sp_has_in hT hT8 ht ⟨(fun z => absurd z (by decide)), fun _ => sp_isMin hm ⟨fun _ => cx_fill hx hk (fun I1 q1 q2 => ?_), (fun z => absurd z (by decide))⟩⟩⟩)
  have q : Scr I L I1 L := offS_Scr q1
  have hx1 := cx_S hx q
  refine sp_sat (cx_T hx1).1 hT8 ⟨t, ht, rfl⟩ hm q2 ?_
  refine ru_M_sound (sm_isSort_in hk ⟨(fun z => absurd z (by decide)), fun _ => sm_isTree hx1.1.2.1.1 hT8 (bP_br (fun z => absurd (n_oob ht (by omega)) z) (fun _ => sm_isMinute (bP_br' (fun _ => cx_far hx1 (fun I2 q3 => ru_M_every (cx_so (b := 255) hx1 q3 hk ht hm (by omega) (fun I3 q4 => ⟨?_, h _ (Scr_tr q (mR_Scr q4))⟩)))) (fun z => absurd (n_oob hm (by omega)) z))))⟩)
  rw [ti_tn (by omega), amo_255 (by omega), show SD I1 F T nb hu k = SD I F T nb hu k from by unfold SD; rw [snd_S q]]
/-- a walk is heard at all -/
def hsP (L : m_L) (Z : Nat → Nat) (S : Nat → Nat → Int32) (a bl : Nat) : Prop := ∃ m, m < min 24 (Z a) ∧ ¬ amo S bl (tn (vL L a m)) m = -1
/-- two walks of one sort aren't told apart -/
def alP (L : m_L) (Z : Nat → Nat) (S : Nat → Nat → Int32) (a c bl : Nat) : Prop := fsI (unD L S S a c bl) 0 (min (min 24 (Z a)) (min 24 (Z c))) = -2
def teP (L : m_L) (Z : Nat → Nat) (S : Nat → Nat → Int32) (n bl : Nat) : Prop := (∀ a, a < n → hsP L Z S a bl) ∧ ∀ a, a < n → ∀ c, c < a → ¬ alP L Z S a c bl
theorem sp_hsL (h : cx P I L T hu bn nb X Z F) {a bl : Nat} {S : Nat → Nat → Int32} (ha : a < 6) (xa : X a = some (.inr 0)) (wa : WK L T nb Z a) (hfl : flS I 0 S) (hbl : bl < 256) (g : f (bP (hsP L Z S a bl)) I L) : ∀ (k m : Nat), m + k = min 24 (Z a) → (∀ i, i < m → amo S bl (tn (vL L a i)) i = -1) → bt_Go P (d + 3) mi_B_hasSound (kI f) 8 [some (vr 0 0), some (vr 33 a), some (vi (nI bl)), some (vi (nI m))] [] (I, L)
  | k, m, e, g1 => by
    obtain ⟨-, -, -, za, ea⟩ := row_e (cx_row h ha xa)
    obtain ⟨hT, hT8⟩ := cx_T h
    refine ru_B_hasSound_8 (sp_minutes ea za ⟨fun z => ⟨z01, bP_ff g (fun y => ?_)⟩, fun z => ?_⟩)
    · have := (nle (by omega) (by omega)).mp z
      obtain ⟨i, hi, y⟩ := y
      exact y (g1 i (by omega))
    · have hm : ¬ min 24 (Z a) ≤ m := fun y => z ((nle (b := m) (by omega) (by omega)).mpr y)
      obtain ⟨k, rfl⟩ : ∃ k', k = k' + 1 := ⟨k - 1, by omega⟩
      refine sp_at ea za (by omega) (sp_amo hT hT8 (WK_lt wa (m := m) (by omega)) (by omega) hbl hfl ⟨fun y => ?_, fun y => ⟨o01, bP_ft g ⟨m, by omega, y⟩⟩⟩)
      rw [nI_s]
      refine sp_hsL h ha xa wa hfl hbl g k (m + 1) (by omega) (fun i hi => ?_)
      by_cases q : i = m
      · subst q; exact y
      · exact g1 i (by omega)
  termination_by k => k
theorem sp_hasSound (h : cx P I L T hu bn nb X Z F) {a bl : Nat} {S : Nat → Nat → Int32} (ha : a < 6) (xa : X a = some (.inr 0)) (wa : WK L T nb Z a) (hfl : flS I 0 S) (hbl : bl < 256) (g : f (bP (hsP L Z S a bl)) I L) : bt_WP P (d + 4) mi_B_hasSound [vr 0 0, vr 33 a, vi (nI bl)] (I, L) (kI f) :=
  ru_B_hasSound ⟨fun _ => sp_hsL h ha xa wa hfl hbl g _ 0 (Nat.zero_add _) (fun i hi => by omega), (fun z => by cases z)⟩
theorem sm_hsL (h : cx P I0 L T hu bn nb X Z F) {a k bl : Nat} (hk : k < 4) (ha : a < 6) (xa : X a = some (.inr 0)) (wa : WK L T nb Z a) (hbl : bl < 256) (g : ∀ I', mR I0 I' T (frD T nb hu) → f (bP (hsP L Z (SD I0 F T nb hu k) a bl)) I' L) : ∀ (n m : Nat) (I : m_I), m + n = min 24 (Z a) → mR I0 I T (frD T nb hu) → (∀ i, i < m → amo (SD I0 F T nb hu k) bl (tn (vL L a i)) i = -1) → bt_Go P (d + 6) mi_M_hasSound (kI f) 3 [some (vr 35 0), some (vi (nI k)), some (vi (nI a)), some (vi (nI bl)), some (vi (nI m))] [] (I, L)
  | n, m, I, e, hr, g1 => by
    have ra := cx_row h ha xa
    obtain ⟨ka, -, -, za, -⟩ := row_e (cx_row (cx_S h (mR_Scr (L := L) hr)) ha xa)
    refine ru_M_hasSound_3 (sm_minutesOf ha ka za ⟨fun z => ⟨z01, bP_ff (g I hr) (fun y => ?_)⟩, fun z => ?_⟩)
    · have := (nle (by omega) (by omega)).mp z
      obtain ⟨i, hi, y⟩ := y
      exact y (g1 i (by omega))
    · have hm : ¬ min 24 (Z a) ≤ m := fun y => z ((nle (b := m) (by omega) (by omega)).mpr y)
      obtain ⟨n, rfl⟩ : ∃ k', n = k' + 1 := ⟨n - 1, by omega⟩
      refine cx_wso h hr hk ha ra (WK_lt wa (m := m) (by omega)) (by omega) hbl (fun I1 hr1 => ⟨fun y => ?_, fun y => ⟨o01, bP_ft (g I1 hr1) ⟨m, by omega, y⟩⟩⟩)
      rw [nI_s]
      refine sm_hsL h hk ha xa wa hbl g n (m + 1) I1 (by omega) hr1 (fun i hi => ?_)
      by_cases q : i = m
      · subst q; exact y
      · exact g1 i (by omega)
  termination_by n => n
theorem sm_hasSound (h : cx P I0 L T hu bn nb X Z F) {a k bl : Nat} (hk : k < 4) (ha : a < 6) (xa : X a = some (.inr 0)) (wa : WK L T nb Z a) (hbl : bl < 256) (hr : mR I0 I T (frD T nb hu)) (g : ∀ I', mR I0 I' T (frD T nb hu) → f (bP (hsP L Z (SD I0 F T nb hu k) a bl)) I' L) : bt_WP P (d + 7) mi_M_hasSound [vr 35 0, vi (nI k), vi (nI a), vi (nI bl)] (I, L) (kI f) :=
  ru_M_hasSound (sm_hsL h hk ha xa wa hbl g _ 0 I (Nat.zero_add _) hr (fun i hi => by omega))
-- areTold
theorem sp_at38 (h : cx P I L T hu bn nb X Z F) {n bl a : Nat} {S : Nat → Nat → Int32} (hn : n ≤ 4) (xa : ∀ i, i < n → X i = some (.inr 0)) (wa : ∀ i, i < n → WK L T nb Z i) (hfl : flS I 0 S) (hbl : bl < 256) (ha : a < n) (hf : (∃ c, c < a ∧ alP L Z S a c bl) → f 0 I L) (g : (∀ c, c < a → ¬ alP L Z S a c bl) → bt_Go P (d + 4) mi_B_areTold (kI f) 30 [some (vr 0 0), some (vi (nI n)), some (vi (nI bl)), some (vi (nI (a + 1))), none] [] (I, L)) : ∀ (k c : Nat), c + k = a → (∀ i, i < c → ¬ alP L Z S a i bl) → bt_Go P (d + 4) mi_B_areTold (kI f) 38 [some (vr 0 0), some (vi (nI n)), some (vi (nI bl)), some (vi (nI a)), some (vi (nI c))] [] (I, L)
  | 0, c, e, g1 => by
    have e : c = a := by omega
    subst e
    refine ru_B_areTold_38 ⟨fun _ => ?_, fun q => absurd (Int32.le_refl _) q⟩
    rw [nI_s]; exact g g1
  | k + 1, c, e, g1 => by
    refine ru_B_areTold_38 ⟨fun q => absurd ((nle (by omega) (by omega)).mp q) (by omega), fun _ => sp_sA (by omega) (ru_B_areTold_50_b (sp_sA (by omega) (ru_B_areTold_56_d (sp_fu (bl := bl) h (by omega) (by omega) (xa a ha) (xa c (by omega)) (wa a ha) (wa c (by omega)) hfl hfl hbl ⟨fun q => ?_, fun q => ⟨z01, hf ⟨c, by omega, q⟩⟩⟩))))⟩
    rw [nI_s]
    refine sp_at38 h hn xa wa hfl hbl ha hf g k (c + 1) (by omega) (fun i hi => ?_)
    by_cases e : i = c
    · subst e; exact q
    · exact g1 i (by omega)
theorem sp_at30 (h : cx P I L T hu bn nb X Z F) {n bl : Nat} {S : Nat → Nat → Int32} (hn : n ≤ 4) (xa : ∀ i, i < n → X i = some (.inr 0)) (wa : ∀ i, i < n → WK L T nb Z i) (hfl : flS I 0 S) (hbl : bl < 256) (hs : ∀ a, a < n → hsP L Z S a bl) (g : f (bP (teP L Z S n bl)) I L) : ∀ (k a : Nat), a + k = n → (∀ i, i < a → ∀ c, c < i → ¬ alP L Z S i c bl) → bt_Go P (d + 4) mi_B_areTold (kI f) 30 [some (vr 0 0), some (vi (nI n)), some (vi (nI bl)), some (vi (nI a)), none] [] (I, L)
  | 0, a, e, g1 => by
    have e : a = n := by omega
    subst e
    exact ru_B_areTold_30 ⟨fun _ => ⟨o01, bP_ft g ⟨hs, g1⟩⟩, fun q => absurd (Int32.le_refl _) q⟩
  | k + 1, a, e, g1 => by
    refine ru_B_areTold_30 ⟨fun q => absurd ((nle (by omega) (by omega)).mp q) (by omega), fun _ => ?_⟩
    refine sp_at38 h hn xa wa hfl hbl (a := a) (by omega) (fun q => bP_ff g (fun z => ?_)) (fun q => sp_at30 h hn xa wa hfl hbl hs g k (a + 1) (by omega) (fun i hi c hc => ?_)) a 0 (by omega) (fun i hi => by omega)
    · obtain ⟨c, hc, q⟩ := q
      exact z.2 a (by omega) c hc q
    · by_cases e : i = a
      · subst e; exact q c hc
      · exact g1 i (by omega) c hc
theorem sp_at2 (h : cx P I L T hu bn nb X Z F) {n bl : Nat} {S : Nat → Nat → Int32} (hn : n ≤ 4) (xa : ∀ i, i < n → X i = some (.inr 0)) (wa : ∀ i, i < n → WK L T nb Z i) (hfl : flS I 0 S) (hbl : bl < 256) (g : f (bP (teP L Z S n bl)) I L) : ∀ (k a : Nat), a + k = n → (∀ i, i < a → hsP L Z S i bl) → bt_Go P (d + 4) mi_B_areTold (kI f) 2 [some (vr 0 0), some (vi (nI n)), some (vi (nI bl)), some (vi (nI a)), none] [] (I, L)
  | 0, a, e, g1 => by
    have e : a = n := by omega
    subst e
    exact ru_B_areTold_2 ⟨fun _ => sp_at30 h hn xa wa hfl hbl g1 g a 0 (by omega) (fun i hi => by omega), fun q => absurd (Int32.le_refl _) q⟩
  | k + 1, a, e, g1 => by
    refine ru_B_areTold_2 ⟨fun q => absurd ((nle (by omega) (by omega)).mp q) (by omega), fun _ => sp_sA (by omega) (ru_B_areTold_13_b (sp_hasSound h (by omega) (xa a (by omega)) (wa a (by omega)) hfl hbl (bP_br' (fun q => ?_) (fun q => ⟨z01, bP_ff g (fun z => q (z.1 a (by omega)))⟩))))⟩
    rw [nI_s]
    refine sp_at2 h hn xa wa hfl hbl g k (a + 1) (by omega) (fun i hi => ?_)
    by_cases e : i = a
    · subst e; exact q
    · exact g1 i (by omega)
theorem sp_areTold (h : cx P I L T hu bn nb X Z F) {n bl : Nat} {S : Nat → Nat → Int32} (hn : n ≤ 4) (xa : ∀ i, i < n → X i = some (.inr 0)) (wa : ∀ i, i < n → WK L T nb Z i) (hfl : flS I 0 S) (hbl : bl < 256) (g : f (bP (teP L Z S n bl)) I L) : bt_WP P (d + 5) mi_B_areTold [vr 0 0, vi (nI n), vi (nI bl)] (I, L) (kI f) :=
  ru_B_areTold (sp_at2 h hn xa wa hfl hbl g n 0 (by omega) (fun i hi => by omega))
-- areEnough
theorem sm_ae25 (h : cx P I0 L T hu bn nb X Z F) {n k bl a : Nat} (hk : k < 4) (hn : n ≤ 4) (xa : ∀ i, i < n → X i = some (.inr 0)) (wa : ∀ i, i < n → WK L T nb Z i) (hbl : bl < 256) (ha : a < n) (hf : (∃ c, c < a ∧ alP L Z (SD I0 F T nb hu k) a c bl) → ∀ I', mR I0 I' T (frD T nb hu) → f 0 I' L) (g : (∀ c, c < a → ¬ alP L Z (SD I0 F T nb hu k) a c bl) → ∀ I', mR I0 I' T (frD T nb hu) → bt_Go P (d + 7) mi_M_areEnough (kI f) 3 [some (vr 35 0), some (vi (nI k)), some (vi (nI n)), some (vi (nI bl)), some (vi (nI (a + 1))), none] [] (I', L)) : ∀ (q c : Nat) (I : m_I), c + q = a → mR I0 I T (frD T nb hu) → (∀ i, i < c → ¬ alP L Z (SD I0 F T nb hu k) a i bl) → bt_Go P (d + 7) mi_M_areEnough (kI f) 25 [some (vr 35 0), some (vi (nI k)), some (vi (nI n)), some (vi (nI bl)), some (vi (nI a)), some (vi (nI c))] [] (I, L)
  | 0, c, I, e, hr, g1 => by
    have e : c = a := by omega
    subst e
    refine ru_M_areEnough_25 ⟨fun _ => ?_, fun q => absurd (Int32.le_refl _) q⟩
    rw [nI_s]; exact g g1 I hr
  | q + 1, c, I, e, hr, g1 => by
    refine ru_M_areEnough_25 ⟨fun q => absurd ((nle (by omega) (by omega)).mp q) (by omega), fun _ => sm_unl h hk hk (by omega) (by omega) (xa a ha) (xa c (by omega)) (wa a ha) (wa c (by omega)) hbl hr (fun I1 hr1 => ?_)⟩
    have hv := fsI_v (D := unD L (SD I0 F T nb hu k) (SD I0 F T nb hu k) a c bl) (min (min 24 (Z a)) (min 24 (Z c))) 0 (by omega)
    rw [nI_s]
    refine ⟨fun y => sm_ae25 h hk hn xa wa hbl ha hf g q (c + 1) I1 (by omega) hr1 (fun i hi => ?_), fun y => ⟨z01, hf ⟨c, by omega, ?_⟩ I1 hr1⟩⟩
    · by_cases e : i = c
      · subst e; exact fun z => absurd (show (0 : Int32) ≤ -2 from z ▸ y) (by decide)
      · exact g1 i (by omega)
    · exact hv.resolve_right (fun z => y (Int32.not_lt.mp z))
theorem sm_ae3 (h : cx P I0 L T hu bn nb X Z F) {n k bl : Nat} (hk : k < 4) (hn : n ≤ 4) (xa : ∀ i, i < n → X i = some (.inr 0)) (wa : ∀ i, i < n → WK L T nb Z i) (hbl : bl < 256) (g : ∀ I', mR I0 I' T (frD T nb hu) → f (bP (teP L Z (SD I0 F T nb hu k) n bl)) I' L) : ∀ (q a : Nat) (I : m_I), a + q = n → mR I0 I T (frD T nb hu) → (∀ i, i < a → hsP L Z (SD I0 F T nb hu k) i bl ∧ ∀ c, c < i → ¬ alP L Z (SD I0 F T nb hu k) i c bl) → bt_Go P (d + 7) mi_M_areEnough (kI f) 3 [some (vr 35 0), some (vi (nI k)), some (vi (nI n)), some (vi (nI bl)), some (vi (nI a)), none] [] (I, L)
  | 0, a, I, e, hr, g1 => by
    have e : a = n := by omega
    subst e
    exact ru_M_areEnough_3 ⟨fun _ => ⟨o01, bP_ft (g I hr) ⟨fun i hi => (g1 i hi).1, fun i hi => (g1 i hi).2⟩⟩, fun q => absurd (Int32.le_refl _) q⟩
  | q + 1, a, I, e, hr, g1 => by
    refine ru_M_areEnough_3 ⟨fun q => absurd ((nle (by omega) (by omega)).mp q) (by omega), fun _ => sm_hasSound h hk (by omega) (xa a (by omega)) (wa a (by omega)) hbl hr (fun I1 hr1 => bP_br' (fun y => ?_) (fun y => ⟨z01, bP_ff (g I1 hr1) (fun z => y (z.1 a (by omega)))⟩))⟩
    refine sm_ae25 h hk hn xa wa hbl (a := a) (by omega) (fun z I2 hr2 => bP_ff (g I2 hr2) (fun w => ?_)) (fun z I2 hr2 => sm_ae3 h hk hn xa wa hbl g q (a + 1) I2 (by omega) hr2 (fun i hi => ?_)) a 0 I1 (by omega) hr1 (fun i hi => by omega)
    · obtain ⟨c, hc, z⟩ := z
      exact w.2 a (by omega) c hc z
    · by_cases e : i = a
      · subst e; exact ⟨y, z⟩
      · exact g1 i (by omega)
theorem sm_areEnough (h : cx P I0 L T hu bn nb X Z F) {n k bl : Nat} (hk : k < 4) (hn : n ≤ 4) (xa : ∀ i, i < n → X i = some (.inr 0)) (wa : ∀ i, i < n → WK L T nb Z i) (hbl : bl < 256) (hr : mR I0 I T (frD T nb hu)) (g : ∀ I', mR I0 I' T (frD T nb hu) → f (bP (teP L Z (SD I0 F T nb hu k) n bl)) I' L) : bt_WP P (d + 8) mi_M_areEnough [vr 35 0, vi (nI k), vi (nI n), vi (nI bl)] (I, L) (kI f) :=
  ru_M_areEnough (sm_ae3 h hk hn xa wa hbl g n 0 I (by omega) hr (fun i hi => by omega))
end TLD
