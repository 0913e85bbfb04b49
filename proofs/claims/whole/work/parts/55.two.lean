/-! twoAtOnce: joint -/
/-- how many of the first -/
noncomputable def cK (c : Nat → Prop) : Nat → Nat
  | 0 => 0
  | m + 1 => @ite Nat (c m) (Classical.propDecidable _) (cK c m + 1) (cK c m)
section CKK
variable {c : Nat → Prop}
theorem cK_t {m : Nat} (h : c m) : cK c (m + 1) = cK c m + 1 := by
  show @ite Nat (c m) (Classical.propDecidable _) _ _ = _
  rw [if_pos h]
theorem cK_f {m : Nat} (h : ¬ c m) : cK c (m + 1) = cK c m := by
  show @ite Nat (c m) (Classical.propDecidable _) _ _ = _
  rw [if_neg h]
theorem cK_le : ∀ m, cK c m ≤ m
  | 0 => Nat.le_refl _
  | m + 1 => by
    have := cK_le m
    by_cases q : c m
    · rw [cK_t q]; omega
    · rw [cK_f q]; omega
theorem cK_s (m : Nat) : cK c m ≤ cK c (m + 1) := by
  by_cases q : c m
  · rw [cK_t q]; omega
  · rw [cK_f q]; exact Nat.le_refl _
theorem cK_mono (m : Nat) : ∀ k, cK c m ≤ cK c (m + k)
  | 0 => Nat.le_refl _
  | k + 1 => Nat.le_trans (cK_mono m k) (cK_s (m + k))
theorem cK_0 : ∀ m, cK c m = 0 ↔ ∀ i, i < m → ¬ c i
  | 0 => ⟨fun _ i hi => by omega, fun _ => rfl⟩
  | m + 1 => by
    by_cases q : c m
    · rw [cK_t q]
      exact ⟨fun z => by omega, fun z => absurd q (z m (by omega))⟩
    · rw [cK_f q, cK_0 m]
      constructor
      · intro z i hi
        by_cases e : i = m
        · subst e; exact q
        · exact z i (by omega)
      · intro z i hi; exact z i (by omega)
theorem fsI_app : ∀ (k a : Nat), a + k < 2147483648 → ((∀ i, a ≤ i → i < a + k → ¬ c i) → c (a + k) → fsI c a (k + 1) = nI (a + k)) ∧ ((¬ ∀ i, a ≤ i → i < a + k → ¬ c i) ∨ ¬ c (a + k) → fsI c a (k + 1) = fsI c a k)
  | 0, a, _ => by
    refine ⟨fun _ h => fsI_t h, fun h => ?_⟩
    rcases h with h | h
    · exact absurd (fun i h1 h2 => by omega) h
    · have h : ¬ c a := h
      rw [fsI_f h]; rfl
  | k + 1, a, hb => by
    obtain ⟨h1, h2⟩ := fsI_app k (a + 1) (by omega)
    have e : a + 1 + k = a + (k + 1) := by omega
    by_cases q : c a
    · refine ⟨fun h _ => absurd q (h a (Nat.le_refl _) (by omega)), fun _ => ?_⟩
      rw [fsI_t q, fsI_t q]
    · rw [fsI_f q, fsI_f (k := k) q]
      rw [e] at h1 h2
      refine ⟨fun h hc => h1 (fun i a1 a2 => h i (by omega) a2) hc, fun h => h2 ?_⟩
      rcases h with h | h
      · refine Or.inl (fun z => h (fun i a1 a2 => ?_))
        by_cases ei : i = a
        · subst ei; exact q
        · exact z i (by omega) a2
      · exact Or.inr h
theorem fs_new {m : Nat} (hm : m < 2147483648) (h : c m) (h0 : cK c m = 0) : fsI c 0 (m + 1) = nI m := by
  have := (fsI_app (c := c) m 0 (by omega)).1 (fun i _ hi => (cK_0 m).mp h0 i (by omega))
  rw [Nat.zero_add] at this
  exact this h
theorem fs_old {m : Nat} (hm : m < 2147483648) (h : ¬ c m ∨ ¬ cK c m = 0) : fsI c 0 (m + 1) = fsI c 0 m := by
  refine (fsI_app (c := c) m 0 (by omega)).2 ?_
  rw [Nat.zero_add]
  rcases h with h | h
  · exact Or.inr h
  · exact Or.inl (fun z => h ((cK_0 m).mpr (fun i hi => z i (by omega) hi)))
end CKK
section TWO
variable {P : bt_PT} {d : Nat} {f : Int32 → m_I → m_L → Prop} {I0 I : m_I} {L : m_L} {T hu bn : Nat} {nb : Nat → Nat} {X : Nat → sH} {Z : Nat → Nat} {F : lF}
/-- somewhere it sounds so -/
def anP (T : Nat) (S : Nat → Nat → Int32) (m : Nat) (x : Int32) : Prop := ∃ t, t < T ∧ S t m = x
theorem sp_anyL (h : cx P I L T hu bn nb X Z F) {s0 m : Nat} {x : Int32} {S : Nat → Nat → Int32} (hfl : flS I s0 S) (hm : m < 24) (g : f (bP (anP T S m x)) I L) : ∀ (k t : Nat), t + k = T → (∀ i, i < t → ¬ S i m = x) → bt_Go P (d + 2) mi_So_anywhere (kI f) 2 [some (vr 12 s0), some (vi x), some (vi (nI m)), some (vi (nI t))] [] (I, L)
  | 0, t, e, g1 => by
    have hT8 := (cx_T h).2
    have e : t = T := by omega
    subst e
    refine ru_So_anywhere_2 (ru_Fo_size ⟨fun _ => ⟨z01, bP_ff g (fun z => ?_)⟩, fun z => absurd (by rw [(cx_T h).1]; exact Int32.le_refl _) z⟩)
    obtain ⟨i, hi, z⟩ := z
    exact g1 i hi z
  | k + 1, t, e, g1 => by
    obtain ⟨hT, hT8⟩ := cx_T h
    refine ru_So_anywhere_2 (ru_Fo_size ⟨fun z => ?_, fun _ => sp_SoAt hT hT8 (by omega) hm ?_⟩)
    · rw [hT, nle (by omega) (by omega)] at z; omega
    · rw [hfl t m (by omega) hm, nI_s]
      refine ⟨fun z => sp_anyL h hfl hm g k (t + 1) (by omega) (fun i hi => ?_), fun z => ⟨o01, bP_ft g ⟨t, by omega, z⟩⟩⟩
      by_cases q : i = t
      · subst q; exact z
      · exact g1 i (by omega)
theorem sp_any (h : cx P I L T hu bn nb X Z F) {s0 m : Nat} {x : Int32} {S : Nat → Nat → Int32} (hfl : flS I s0 S) (hm : m < 24) (g : f (bP (anP T S m x)) I L) : bt_WP P (d + 3) mi_So_anywhere [vr 12 s0, vi x, vi (nI m)] (I, L) (kI f) :=
  ru_So_anywhere (sp_anyL h hfl hm g T 0 (by omega) (fun i hi => by omega))
theorem sm_cboL (h : cx P I0 L T hu bn nb X Z F) {k m : Nat} {v : Int64} (hv : byL v) (hk : k < 4) (hm : m < 24) (g : ∀ I', mR I0 I' T (frD T nb hu) → f (bP (anP T (SD I0 F T nb hu k) m v.toInt32)) I' L) : ∀ (n t : Nat) (I : m_I), t + n = T → mR I0 I T (frD T nb hu) → (∀ i, i < t → ¬ SD I0 F T nb hu k i m = v.toInt32) → bt_Go P (d + 5) mi_M_canBeOf (kI f) 3 [some (vr 35 0), some (vi (nI k)), some (vi (nI m)), some (vl v), none, some (vi (nI t))] [] (I, L)
  | 0, t, I, e, hr, g1 => by
    have hT8 := (cx_T h).2
    have e : t = T := by omega
    subst e
    refine ru_M_canBeOf_3 ⟨fun _ => ⟨z01, bP_ff (g I hr) (fun z => ?_)⟩, fun z => absurd ?_ z⟩
    · obtain ⟨i, hi, z⟩ := z
      exact g1 i hi z
    · rw [hr.1 35 0 1 (by omega), h.1.2.1.1]; exact Int32.le_refl _
  | n + 1, t, I, e, hr, g1 => by
    have hT8 := (cx_T h).2
    refine ru_M_canBeOf_3 ⟨fun z => ?_, fun _ => ru_M_every (cx_so (b := 255) h hr hk (t := t) (by omega) hm (by omega) (fun I1 hr1 => ?_))⟩
    · rw [hr.1 35 0 1 (by omega), h.1.2.1.1, nle (by omega) (by omega)] at z; omega
    · rw [amo_255 (by omega), by_e1 hv, nI_s]
      refine ⟨fun z => sm_cboL h hv hk hm g n (t + 1) I1 (by omega) hr1 (fun i hi => ?_), fun z => ⟨o01, bP_ft (g I1 hr1) ⟨t, by omega, z⟩⟩⟩
      by_cases q : i = t
      · subst q; exact z
      · exact g1 i (by omega)
theorem sm_cbo (h : cx P I0 L T hu bn nb X Z F) {k m : Nat} {v : Int64} (hv : byL v) (hk : k < 4) (hm : m < 24) (hr : mR I0 I T (frD T nb hu)) (g : ∀ I', mR I0 I' T (frD T nb hu) → f (bP (anP T (SD I0 F T nb hu k) m v.toInt32)) I' L) : bt_WP P (d + 6) mi_M_canBeOf [vr 35 0, vi (nI k), vi (nI m), vl v] (I, L) (kI f) :=
  ru_M_canBeOf (sm_cboL h hv hk hm g T 0 I (by omega) hr (fun i hi => by omega))
/-- a minute that the second can tell and the first can't -/
def twC (L : m_L) (T : Nat) (S S' : Nat → Nat → Int32) (s : Nat) : Nat → Prop := fun m => ¬ anP T S m (vL L s m) ∧ anP T S' m (vL L s m)
theorem sp_twL (h : cx P I L T hu bn nb X Z F) {s : Nat} {v : Int32} {S S' : Nat → Nat → Int32} (hs : s < 6) (xs : X s = some (.inr 0)) (hfl : flS I 0 S) (hfl' : flS I 1 S') (g : (¬ v = 0 → f (fsI (twC L T S S' s) 0 (min 24 (Z s))) I L) ∧ (v = 0 → f (nI (cK (twC L T S S' s) (min 24 (Z s)))) I L)) : ∀ (k m : Nat), m + k = min 24 (Z s) → bt_Go P (d + 3) mi_B_twoAtOnce (kI f) 80 [some (vr 0 0), none, none, some (vi v), some (vr 33 s), none, some (vi (fsI (twC L T S S' s) 0 m)), some (vi (nI (cK (twC L T S S' s) m))), some (vi (nI m))] [] (I, L)
  | 0, m, e => by
    obtain ⟨-, -, -, za, ea⟩ := row_e (cx_row h hs xs)
    have e : m = min 24 (Z s) := by omega
    refine ru_B_twoAtOnce_80_b (sp_minutes ea za ?_)
    rw [← e] at g ⊢
    exact ⟨fun _ => g, fun q => absurd (Int32.le_refl _) q⟩
  | k + 1, m, e => by
    obtain ⟨-, -, -, za, ea⟩ := row_e (cx_row h hs xs)
    have hc := cK_le (c := twC L T S S' s) m
    have ih := sp_twL h hs xs hfl hfl' g k (m + 1) (by omega)
    refine ru_B_twoAtOnce_80_b (sp_minutes ea za ⟨fun q => absurd ((nle (by omega) (by omega)).mp q) (by omega), fun _ => sp_at ea za (by omega) (sp_any h hfl (by omega) (bP_br' (fun q => ?_) (fun q => sp_at ea za (by omega) (sp_any h hfl' (by omega) (bP_br (fun q2 => ?_) (fun q2 => ⟨fun q3 => ?_, fun q3 => ?_⟩))))))⟩)
    · have hn : ¬ twC L T S S' s m := fun z => z.1 q
      rw [nI_s]; rw [fs_old (by omega) (Or.inl hn), cK_f hn] at ih; exact ih
    · have hn : ¬ twC L T S S' s m := fun z => q2 z.2
      rw [nI_s]; rw [fs_old (by omega) (Or.inl hn), cK_f hn] at ih; exact ih
    · have hy : twC L T S S' s m := ⟨q, q2⟩
      rw [nI_s, nI_s]; rw [fs_old (by omega) (Or.inr (fun z => q3 (by rw [z]; rfl))), cK_t hy] at ih; exact ih
    · have hy : twC L T S S' s m := ⟨q, q2⟩
      have hz : cK (twC L T S S' s) m = 0 := (neq (b := 0) (by omega) (by omega)).mp q3
      rw [nI_s, nI_s]; rw [fs_new (by omega) hy hz, cK_t hy] at ih; exact ih
theorem sm_twL (h : cx P I0 L T hu bn nb X Z F) {s k l : Nat} {v kk : Int32} (hk : k < 4) (hl : l < 4) (k1 : kk / 10 = nI k) (k2 : kk - kk / 10 * 10 = nI l) (hs : s < 6) (xs : X s = some (.inr 0)) (g : ∀ I', mR I0 I' T (frD T nb hu) → (¬ v = 0 → f (fsI (twC L T (SD I0 F T nb hu k) (SD I0 F T nb hu l) s) 0 (min 24 (Z s))) I' L) ∧ (v = 0 → f (nI (cK (twC L T (SD I0 F T nb hu k) (SD I0 F T nb hu l) s) (min 24 (Z s)))) I' L)) : ∀ (m : Nat) (I : m_I), m ≤ min 24 (Z s) → mR I0 I T (frD T nb hu) → bt_Go P (d + 6) mi_M_twoAtOnce (kI f) 59 [some (vr 35 0), some (vi (nI s)), some (vi kk), some (vi v), some (vi (nI (cK (twC L T (SD I0 F T nb hu k) (SD I0 F T nb hu l) s) (min 24 (Z s)) - cK (twC L T (SD I0 F T nb hu k) (SD I0 F T nb hu l) s) m))), some (vi (fsI (twC L T (SD I0 F T nb hu k) (SD I0 F T nb hu l) s) m (min 24 (Z s) - m))), some (vi (nI m - 1))] [] (I, L)
  | 0, I, e, hr => ru_M_twoAtOnce_59 ⟨fun _ => g I hr, fun z => absurd (show (nI 0 - 1 : Int32) < 0 by decide) z⟩
  | m + 1, I, e, hr => by
    obtain ⟨-, e68, hby, za, -⟩ := row_e (cx_row (cx_S h (mR_Scr (L := L) hr)) hs xs)
    have hc := cK_le (c := twC L T (SD I0 F T nb hu k) (SD I0 F T nb hu l) s) (min 24 (Z s))
    have hmo := cK_mono (c := twC L T (SD I0 F T nb hu k) (SD I0 F T nb hu l) s) (m + 1) (min 24 (Z s) - (m + 1))
    rw [show m + 1 + (min 24 (Z s) - (m + 1)) = min 24 (Z s) by omega] at hmo
    have en : min 24 (Z s) - m = (min 24 (Z s) - (m + 1)) + 1 := by omega
    have em : nI m + (-1) = nI m - 1 := by rw [Int32.sub_eq_add_neg]
    rw [nI_pred]
    refine ru_M_twoAtOnce_59 ⟨fun z => absurd z (n_neg (by omega)), fun _ => ⟨by decide, sm_told hs (by omega) ?_⟩⟩
    rw [e68 m (by omega), em, k2, k1]
    have hno : ∀ I', mR I0 I' T (frD T nb hu) → ¬ twC L T (SD I0 F T nb hu k) (SD I0 F T nb hu l) s m → bt_Go P (d + 6) mi_M_twoAtOnce (kI f) 59 [some (vr 35 0), some (vi (nI s)), some (vi kk), some (vi v), some (vi (nI (cK (twC L T (SD I0 F T nb hu k) (SD I0 F T nb hu l) s) (min 24 (Z s)) - cK (twC L T (SD I0 F T nb hu k) (SD I0 F T nb hu l) s) (m + 1)))), some (vi (fsI (twC L T (SD I0 F T nb hu k) (SD I0 F T nb hu l) s) (m + 1) (min 24 (Z s) - (m + 1)))), some (vi (nI m - 1))] [] (I', L) := fun I' hr' hn => by
      have ih := sm_twL h hk hl k1 k2 hs xs g m I' (by omega) hr'
      rw [en, fsI_f hn] at ih
      rw [cK_f hn]; exact ih
    refine sm_cbo h (hby m (by omega)) hk (by omega) hr (fun I1 hr1 => bP_br' (fun q => hno I1 hr1 (fun z => z.1 q)) (fun q => ⟨by decide, sm_told hs (by omega) ?_⟩))
    rw [e68 m (by omega)]
    refine sm_cbo h (hby m (by omega)) hl (by omega) hr1 (fun I2 hr2 => bP_br' (fun q2 => ?_) (fun q2 => hno I2 hr2 (fun z => q2 z.2)))
    have hy : twC L T (SD I0 F T nb hu k) (SD I0 F T nb hu l) s m := ⟨q, q2⟩
    have ih := sm_twL h hk hl k1 k2 hs xs g m I2 (by omega) hr2
    rw [en, fsI_t hy] at ih
    rw [cK_t hy] at hmo ⊢
    rw [nI_s, show cK (twC L T (SD I0 F T nb hu k) (SD I0 F T nb hu l) s) (min 24 (Z s)) - (cK (twC L T (SD I0 F T nb hu k) (SD I0 F T nb hu l) s) m + 1) + 1 = cK (twC L T (SD I0 F T nb hu k) (SD I0 F T nb hu l) s) (min 24 (Z s)) - cK (twC L T (SD I0 F T nb hu k) (SD I0 F T nb hu l) s) m by omega]
    exact ih
theorem jn_two {G : m_I → m_L → Prop} {s kk v : Int32} (hx : cx P I L T hu bn nb X Z F) (h : ∀ I', Scr I L I' L → G I' L) :
    bt_WP P (d + 7) mi_B_twoAtOnce [vr 0 0, vi s, vi kk, vi v] (I, L) (kI fun x I1 L1 => bt_WP P (d + 7) mi_M_twoAtOnce [vr 35 0, vi s, vi kk, vi v] (I1, L1) (kI fun y I2 L2 => x = y ∧ G I2 L2)) := by
  have hr : G I L := h I Scr_rf
  rcases ix s 6 (by omega) with hs | ⟨s, hs, rfl⟩
  · exact ru_B_twoAtOnce (sp_sAo hs (ru_B_twoAtOnce_5 ⟨fun _ => ru_M_twoAtOnce (sm_isShelf (bP_br (fun _ => ⟨rfl, hr⟩) (fun z => absurd hs z))), (fun z => absurd rfl z)⟩))
  have hin : ∀ (I1 : m_I) (Q : Int32 → m_I → m_L → Prop), (badP kk 4 → Q (-1) I1 L) → (¬ badP kk 4 → bt_WP P (d + 6) mi_M_in [vi v, vi 0, vi 1] (I1, L) (kI fun x9 I7 N8 => (¬ x9 = 0 → (bt_WP P (d + 6) mi_M_rowFault [vr 35 0, vi (nI s)] (I7, N8) (kI fun x12 I10 N11 => (0 ≤ x12 → (bt_WP P (d + 6) mi_M_findFar [vr 35 0] (I10, N11) (kV fun I13 N14 => bt_WP P (d + 6) mi_M_minutesOf [vr 35 0, vi (nI s)] (I13, N14) (kI fun x17 I15 N16 => bt_Go P (d + 6) mi_M_twoAtOnce (kI Q) 59 [some (vr 35 0), some (vi (nI s)), some (vi kk), some (vi v), some (vi 0), some (vi (-2)), some (vi (x17 - 1))] [] (I15, N16))))) ∧ (¬ 0 ≤ x12 → (bt_WP P (d + 6) mi_M_rowFault [vr 35 0, vi (nI s)] (I10, N11) (kI fun x20 I18 N19 => Q x20 I18 N19)))))) ∧ (x9 = 0 → (Q (-1) I7 N8)))) → bt_WP P (d + 7) mi_M_twoAtOnce [vr 35 0, vi (nI s), vi kk, vi v] (I1, L) (kI Q) := fun I1 Q c1 c2 => by
    refine ru_M_twoAtOnce (sm_isShelf (bP_br (fun z => absurd (n_oob hs (by omega)) z) (fun _ => ?_)))
    rcases pr_c kk 4 with hk | ⟨k, l, hk, hl, hk0, k1, k2⟩
    · exact sm_areSorts_out hk ⟨fun _ => c1 hk, (fun z => absurd rfl z)⟩
    · refine sm_areSorts_in hk hl hk0 k1 k2 ⟨(fun z => absurd z (by decide)), fun _ => c2 (fun z => ?_)⟩
      rcases z with z | ⟨n, hn, rfl, z⟩
      · exact hk0 z
      · have e1 : nI n / 10 = nI (n / 10) := pk_div (d := 10) hn (by omega) (by omega)
        have e2 : nI n - nI n / 10 * 10 = nI (n % 10) := pk_rem (d := 10) hn (by omega) (by omega)
        rw [e2] at k2
        rw [e1] at k1
        have := (neq (by omega) (by omega)).mp k1
        have := (neq (by omega) (by omega)).mp k2
        omega
  refine ru_B_twoAtOnce (sp_sA hs (ru_B_twoAtOnce_5_b ⟨(fun z => by cases z), fun _ => ?_⟩))
  rcases pr_c kk 4 with hk | ⟨k, l, hk, hl, hk0, k1, k2⟩
  · exact sp_isPair_out (B := 4) (by omega) hk ⟨fun _ => hin _ _ (fun _ => ⟨rfl, hr⟩) (fun z => absurd hk z), (fun z => absurd rfl z)⟩
  have hnb : ¬ badP kk 4 := fun z => by
    rcases z with z | ⟨n, hn, rfl, z⟩
    · exact hk0 z
    · have e1 : nI n / 10 = nI (n / 10) := pk_div (d := 10) hn (by omega) (by omega)
      have e2 : nI n - nI n / 10 * 10 = nI (n % 10) := pk_rem (d := 10) hn (by omega) (by omega)
      rw [e2] at k2
      rw [e1] at k1
      have := (neq (by omega) (by omega)).mp k1
      have := (neq (by omega) (by omega)).mp k2
      omega
  refine sp_isPair_in (B := 4) (by omega) hk hl hk0 k1 k2 ⟨(fun z => absurd z (by decide)), fun _ => ?_⟩
  by_cases hv : 0 ≤ v ∧ v ≤ 1
  · have hm : ∀ (I1 : m_I) (Q : Int32 → m_I → m_L → Prop), Scr I L I1 L → (¬ 0 ≤ rfI (X s) → Q (rfI (X s)) I1 L) → (0 ≤ rfI (X s) → ∀ I2, mR I1 I2 T (frD T nb hu) → bt_Go P (d + 6) mi_M_twoAtOnce (kI Q) 59 [some (vr 35 0), some (vi (nI s)), some (vi kk), some (vi v), some (vi 0), some (vi (-2)), some (vi (nI (min 24 (Z s)) - 1))] [] (I2, L)) → bt_WP P (d + 7) mi_M_twoAtOnce [vr 35 0, vi (nI s), vi kk, vi v] (I1, L) (kI Q) := fun I1 Q q c1 c2 => by
      have hx1 := cx_S hx q
      refine hin I1 Q (fun z => absurd z hnb) (fun _ => sm_in ?_)
      rw [bP_t hv]
      refine ⟨fun _ => sm_rowFault hs (hx1.2.1.2 s hs) hx1.2.1.1 ⟨fun z => cx_far hx1 (fun I2 q2 => ?_), fun z => sm_rowFault hs (hx1.2.1.2 s hs) hx1.2.1.1 (c1 z)⟩, (fun z => absurd z (by decide))⟩
      have xs := (rf_le _).mp z
      have hx2 := cx_S hx1 (mR_Scr (L := L) q2)
      obtain ⟨ks, -, -, zs, -⟩ := row_e (cx_row hx2 hs xs)
      exact sm_minutesOf hs ks zs (c2 z I2 q2)
    refine ⟨fun z => absurd z (Int32.not_lt.mpr hv.1), fun _ => ⟨fun _ => ?_, fun z => absurd hv.2 z⟩⟩
    rw [nI_one (t := s) (by omega)]
    have ps := pow_lt256 (t := s) (T := 8) (by omega) (by omega)
    refine sp_rowsRefusal hx.2.1 (by omega) ?_
    rw [faI_ext (S' := fun i => i = s) (fun i => by
      rw [tb_1]
      exact ⟨fun z => z.2, fun z => ⟨by omega, z⟩⟩)]
    rcases faI_1 (X := X) (W := fun _ => True) (s := s) with ⟨y1, y2⟩ | ⟨y1, xs, y2⟩
    · rw [y2]
      exact ⟨fun z => absurd (show (0 : Int32) < 0 from z ▸ y1) (by decide), fun _ => hm I _ Scr_rf (fun _ => ⟨rfl, hr⟩) (fun z => absurd y1 (Int32.not_lt.mpr z))⟩
    · have y3 : faI (fun i => i = s) X (fun _ => True) = 0 := by
        rcases y2 with ⟨-, y⟩ | ⟨y, -⟩
        · exact y
        · exact absurd trivial y
      rw [y3]
      refine ⟨fun _ => ⟨by decide, ?_⟩, (fun z => absurd rfl z)⟩
      rw [k2, k1]
      refine bt_WP_imp (cx_fill2 (f := fun I1 L1 => L1 = L ∧ Scr I L I1 L ∧ flS I1 0 (SD I F T nb hu k) ∧ flS I1 1 (SD I F T nb hu l)) hx hk hl (fun I1 q1 q2 q3 => ⟨rfl, q1, q2, q3⟩)) (fun r σ y => ?_)
      match r, y with
      | none, y =>
        refine ⟨by decide, bt_WP_imp y (fun r σ y => ?_)⟩
        match r, σ, y with
        | none, (I1, _), ⟨rfl, q1, q2, q3⟩ =>
          have q1 : Scr I L I1 L := q1
          have q2 : flS I1 0 (SD I F T nb hu k) := q2
          have q3 : flS I1 1 (SD I F T nb hu l) := q3
          have hx1 := cx_S hx q1
          refine sp_twL hx1 hs xs q2 q3 ?_ (min 24 (Z s)) 0 (by omega)
          have hgo : ∀ x, ((¬ v = 0 → x = fsI (twC L T (SD I F T nb hu k) (SD I F T nb hu l) s) 0 (min 24 (Z s))) ∧ (v = 0 → x = nI (cK (twC L T (SD I F T nb hu k) (SD I F T nb hu l) s) (min 24 (Z s))))) → bt_WP P (d + 7) mi_M_twoAtOnce [vr 35 0, vi (nI s), vi kk, vi v] (I1, L) (kI fun y I2 L2 => x = y ∧ G I2 L2) := fun x ex => by
            refine hm I1 _ q1 (fun z => absurd ((rf_le _).mpr xs) z) (fun _ I2 q4 => ?_)
            have hl' := sm_twL (d := d) (f := fun y I2 L2 => x = y ∧ G I2 L2) (v := v) hx1 hk hl k1 k2 hs xs (fun I' q5 => by
              rw [show SD I1 F T nb hu k = SD I F T nb hu k from by unfold SD; rw [snd_S q1], show SD I1 F T nb hu l = SD I F T nb hu l from by unfold SD; rw [snd_S q1]]
              exact ⟨fun z => ⟨ex.1 z, h _ (Scr_tr q1 (mR_Scr q5))⟩, fun z => ⟨ex.2 z, h _ (Scr_tr q1 (mR_Scr q5))⟩⟩) (min 24 (Z s)) I2 (Nat.le_refl _) q4
            rw [Nat.sub_self, Nat.sub_self] at hl'
            exact hl'
          exact ⟨fun z => hgo _ ⟨fun _ => rfl, fun z' => absurd z' z⟩, fun z => hgo _ ⟨fun z' => absurd z z', fun _ => rfl⟩⟩
  · have hb : bt_WP P (d + 7) mi_M_twoAtOnce [vr 35 0, vi (nI s), vi kk, vi v] (I, L) (kI fun y I2 L2 => (-1) = y ∧ G I2 L2) := by
      refine hin I _ (fun z => absurd z hnb) (fun _ => sm_in ?_)
      rw [bP_f hv]
      exact ⟨(fun z => absurd rfl z), fun _ => ⟨rfl, hr⟩⟩
    exact ⟨fun _ => hb, fun z => ⟨fun z2 => absurd ⟨Int32.not_lt.mp z, z2⟩ hv, fun _ => hb⟩⟩
end TWO
