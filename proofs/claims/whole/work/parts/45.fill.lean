/-! SOUNDS: fill, at, among -/
section FILL
variable {P : bt_PT} {d : Nat} {f : m_I → m_L → Prop} {I0 : m_I} {L : m_L} {T k s0 hu : Nat} {nb fr : Nat → Nat} {F : lF}
theorem snd_1 {I : m_I} {t m : Nat} (ht : t < T) (h : I 3 3 t = 1 ∧ I 3 2 t ≤ I 3 5 k) (g : F (I 3 1 t) (nI (fr t)) (I 3 4 m) (I 3 0 t) (I 3 6 0) (nI k)) : snd I F fr T k t m = I 3 0 t := by unfold snd; rw [if_pos ⟨ht, h, g⟩]
theorem snd_0 {I : m_I} {t m : Nat} (h : ¬ (t < T ∧ (I 3 3 t = 1 ∧ I 3 2 t ≤ I 3 5 k) ∧ F (I 3 1 t) (nI (fr t)) (I 3 4 m) (I 3 0 t) (I 3 6 0) (nI k))) : snd I F fr T k t m = -1 := by unfold snd; rw [if_neg h]
theorem sp_f20 (hF : iF I0 T nb) (hW : ∀ m, m < 24 → lt' (I0 3 4 m) 10) (hL : lawC P I0 F) (hk : k < 4) (h : ∀ I, offS s0 I0 I → (∀ t m, t < 8 → m < 24 → I 14 (8 * s0 + t) m = snd I0 F fr T k t m) → f I L) :
    ∀ (n t : Nat) (I : m_I), t + n = 8 → sdI I0 I s0 T t 0 fr (snd I0 F fr T k) → bt_Go P (d + 5) mi_So_fill (kV f) 20 [some (vr 12 s0), some (vi (nI k)), some (vi (I0 3 6 0)), some (vi (nI t)), none, none, none] [] (I, L)
  | 0, t, I, e, hI => by
    have e : t = 8 := by omega
    subst e
    exact ru_So_fill_20 ⟨fun _ => h I hI.1 (fun u m hu hm => hI.2.2 u m hu hm (by omega)), fun q => absurd (show (8 : Int32) ≤ nI 8 by decide) q⟩
  | n + 1, t, I, e, hI => by
    have hT8 := hF.2.1
    have hcT : I 1 0 4 = nI T := (hI.1 1 0 4 (by omega)).trans hF.1
    have h3 : ∀ b c, I 3 b c = I0 3 b c := fun b c => hI.1 3 b c (by omega)
    have htail : ∀ (rv pv lv dv : Int32), (∀ m, m < 24 → ¬ rv = 0 → F lv dv (I0 3 4 m) pv (I0 3 6 0) (nI k) → snd I0 F fr T k t m = pv) → (∀ m, m < 24 → (rv = 0 ∨ ¬ F lv dv (I0 3 4 m) pv (I0 3 6 0) (nI k)) → snd I0 F fr T k t m = -1) →
        bt_WP P (d + 5) mi_JA_fillI [vr 15 s0, vi (-1)] (ui (ui (ui (ui (ui I 7 0 9 lv) 7 0 10 dv) 7 0 12 pv) 7 0 13 (I0 3 6 0)) 7 0 14 (nI k), L) (kV fun I31 N32 => bt_Go P (d + 5) mi_So_fill (kV f) 106 [some (vr 12 s0), some (vi (nI k)), some (vi (I0 3 6 0)), some (vi (nI t)), some (vi rv), some (vi pv), some (vi 0)] [] (I31, N32)) := fun rv pv lv dv c1 c0 => by
      refine ru_JA_fillI_b (sp_fill15 (I0 := ui (ui (ui (ui (ui I 7 0 9 lv) 7 0 10 dv) 7 0 12 pv) 7 0 13 (I0 3 6 0)) 7 0 14 (nI k)) (fun I' g1 g2 => ?_) 10 0 _ rfl (fun i hi => by omega) (fun _ _ _ _ => rfl))
      have g3 : ∀ a b c, ¬ (a = 15 ∧ b = s0) → ¬ (a = 7 ∧ 8 ≤ c ∧ c ≤ 14) → I' a b c = I a b c := fun a b c z1 z2 => by
        rw [g2 a b c z1]
        by_cases q : a = 7
        · rw [ui_j (by omega), ui_j (by omega), ui_j (by omega), ui_j (by omega), ui_j (by omega)]
        · rw [ui_k q, ui_k q, ui_k q, ui_k q, ui_k q]
      refine sp_f106 hF hL hW (by omega) c1 c0 (fun I2 h2 => sp_f20 hF hW hL hk h n (t + 1) I2 (by omega) h2) 24 0 I' rfl ⟨fun a b c z => ?_, fun u hu => ?_, fun u m hu hm hh => ?_⟩ ?_ ?_ ?_ ?_ ?_ (fun w hw => Or.inl (g1 w hw))
      · rw [g3 a b c (by omega) (by omega)]; exact hI.1 a b c z
      · rw [g3 5 0 u (by omega) (by omega)]; exact hI.2.1 u hu
      · rw [g3 14 _ m (by omega) (by omega)]; exact hI.2.2 u m hu hm hh
      · rw [g2 7 0 9 (by omega), ui_j (by decide), ui_j (by decide), ui_j (by decide), ui_j (by decide), ui_same]
      · rw [g2 7 0 10 (by omega), ui_j (by decide), ui_j (by decide), ui_j (by decide), ui_same]
      · rw [g2 7 0 12 (by omega), ui_j (by decide), ui_j (by decide), ui_same]
      · rw [g2 7 0 13 (by omega), ui_j (by decide), ui_same]
      · rw [g2 7 0 14 (by omega), ui_same]
    refine ru_So_fill_20 ⟨fun q => absurd ((nle (a := 8) (by omega) (by omega)).mp q) (by omega), fun _ => sp_has hcT (bP_br (fun q => ?_) (fun q => ?_))⟩
    · have q' : oob (nI t) T := Classical.byContradiction q
      have hnt : ¬ t < T := fun z => n_oob z (by omega) q'
      refine sp_get_out (w := 0) hcT (by omega) q' (sp_get_out (w := 1) hcT (by omega) q' (sp_farMeasured_out hcT q' (ru_La_ask (htail 0 0 0 9 (fun m hm z => absurd rfl z) (fun m hm _ => snd_0 (fun z => hnt z.1))))))
    · obtain ⟨t', ht', et⟩ := (lt_oob (by omega)).mpr q
      have et' : t = t' := (neq (by omega) (by omega)).mp et
      subst et'
      have hfar : I 5 0 t = nI (fr t) := hI.2.1 t ht'
      have hgo : ∀ rv : Int32, (¬ rv = 0 ↔ (I0 3 3 t = 1 ∧ I0 3 2 t ≤ I0 3 5 k)) → bt_WP P (d + 5) mi_Fo_get [vr 1 0, vi 0, vi (nI t)] (I, L) (kI fun x22 I20 N21 => bt_WP P (d + 5) mi_Fo_get [vr 1 0, vi 1, vi (nI t)] (I20, N21) (kI fun x25 I23 N24 => bt_WP P (d + 5) mi_Fo_farMeasured [vr 1 0, vi (nI t)] (I23, N24) (kI fun x28 I26 N27 => bt_WP P (d + 5) mi_La_ask [vr 7 0, vi x25, vi x28, vi x22, vi (I0 3 6 0), vi (nI k)] (I26, N27) (kV fun I29 N30 => bt_WP P (d + 5) mi_JA_fillI [vr 15 s0, vi (-1)] (I29, N30) (kV fun I31 N32 => bt_Go P (d + 5) mi_So_fill (kV f) 106 [some (vr 12 s0), some (vi (nI k)), some (vi (I0 3 6 0)), some (vi (nI t)), some (vi rv), some (vi x22), some (vi 0)] [] (I31, N32)))))) := fun rv hrv => by
        refine sp_get (w := 0) hcT hT8 (by omega) ht' (sp_get (w := 1) hcT hT8 (by omega) ht' (sp_farMeasured hcT hT8 ht' (ru_La_ask ?_)))
        rw [hfar, h3 0 t, h3 1 t]
        refine htail rv _ _ _ (fun m hm z g => snd_1 ht' (hrv.mp z) g) (fun m hm z => snd_0 (fun y => ?_))
        rcases z with z | z
        · exact hrv.mpr y.2.1 z
        · exact z y.2.2
      refine sp_rings hcT hT8 ht' hk ?_
      rw [h3 3 t, h3 2 t, h3 5 k]
      exact bP_br (fun g => hgo 0 ⟨fun z => absurd rfl z, fun z => absurd z g⟩) (fun g => hgo 1 ⟨fun _ => g, fun _ => (by decide)⟩)
theorem sp_fill (hF : iF I0 T nb) (hhu : I0 3 7 0 = nI hu) (hu8 : hu < 8) (hW : ∀ m, m < 24 → lt' (I0 3 4 m) 10) (hL : lawC P I0 F) (hk : k < 4) (h : ∀ I, offS s0 I0 I → (∀ t m, t < 8 → m < 24 → I 14 (8 * s0 + t) m = snd I0 F (frD T nb hu) T k t m) → f I L) : bt_WP P (d + 6) mi_So_fill [vr 12 s0, vi (nI k)] (I0, L) (kV f) := by
  refine ru_So_fill (sp_get (w := 6) (t := 0) hF.1 hF.2.1 (by omega) (by show 0 < 1; omega) (sp_measureFar hF hhu hu8 (fun I1 h1 h2 => ?_)))
  exact sp_f20 (fr := frD T nb hu) hF hW hL hk h 8 0 I1 rfl ⟨fun a b c z => h1 a b c (fun y => z (Or.inl y)), h2, fun u n hu hn hh => by omega⟩
end FILL
theorem sp_isMin {P : bt_PT} {d : Nat} {f : Int32 → m_I → m_L → Prop} {I : m_I} {L : m_L} {m : Nat} (hm : m < 24) (h : f 1 I L) : bt_WP P (d + 1) mi_B_isMinute [vi (nI m)] (I, L) (kI f) := ru_B_isMinute ⟨fun q => absurd q (n_neg (by omega)), fun _ => ⟨fun q => absurd ((nle (a := 24) (by omega) (by omega)).mp q) (by omega), fun _ => ⟨o01, h⟩⟩⟩
theorem sp_SoAt {P : bt_PT} {d : Nat} {f : Int32 → m_I → m_L → Prop} {I : m_I} {L : m_L} {T s0 t m : Nat} (hT : I 1 0 4 = nI T) (hT8 : T ≤ 8) (ht : t < T) (hm : m < 24) (h : f (I 14 (8 * s0 + t) m) I L) : bt_WP P (d + 2) mi_So_at [vr 12 s0, vi (nI t), vi (nI m)] (I, L) (kI f) := by
  refine ru_So_at (sp_has_in hT hT8 ht ⟨(fun z => absurd z (by decide)), fun _ => sp_isMin hm ⟨(fun z => absurd z (by decide)), fun _ => ⟨ti_in (by omega) (by omega), ti_in hm (by omega), ?_⟩⟩⟩)
  rw [ti_tn (by omega), ti_tn (by omega)]; exact h
theorem sp_SoAmong {P : bt_PT} {d : Nat} {f : Int32 → m_I → m_L → Prop} {I : m_I} {L : m_L} {T s0 t m b : Nat} (hT : I 1 0 4 = nI T) (hT8 : T ≤ 8) (ht : t < T) (hm : m < 24) (hb : b < 256) (h : f (if b.testBit t = true then I 14 (8 * s0 + t) m else -1) I L) : bt_WP P (d + 3) mi_So_among [vr 12 s0, vi (nI b), vi (nI t), vi (nI m)] (I, L) (kI f) := by
  refine ru_So_among ?_
  rw [nI_bit (by omega) (by omega)]
  refine bP_br (fun g => ?_) (fun g => sp_SoAt hT hT8 ht hm ?_)
  · rw [if_neg g] at h; exact h
  · rw [if_pos g] at h; exact h
