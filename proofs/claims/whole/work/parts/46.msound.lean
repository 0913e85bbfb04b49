/-! SOUNDS: the reference; sound, joint -/
/-- the values of the forest, as the reference has them -/
theorem sm_isHeard {P : bt_PT} {d : Nat} {f : Int32 → m_I → m_L → Prop} {I : m_I} {L : m_L} {T k t m : Nat} {fr : Nat → Nat} {F : lF} (hV : gV I T) (hT8 : T ≤ 8) (hL : gL P I F) (hfar : I 48 0 t = nI (fr t)) (hk : k < 4) (ht : t < T) (hm : m < 24) (h : ∀ I', (∀ a b c, ¬ (a = 55 ∨ a = 56) → I' a b c = I a b c) → f (bP (F (I 3 1 t) (nI (fr t)) (I 3 4 m) (I 3 0 t) (I 3 6 0) (nI k))) I' L) : bt_WP P (d + 4) mi_M_isHeard [vr 35 0, vi (nI k), vi (nI t), vi (nI m)] (I, L) (kI f) := by
  have vt : vp_in (nI t) 8 := ti_in (by omega) (by omega)
  have vm : vp_in (nI m) 24 := ti_in hm (by omega)
  have e37 : I 37 0 t = I 3 1 t := (hV 1 t (by omega) ht).1
  have e36 : I 36 0 t = I 3 0 t := (hV 0 t (by omega) ht).1
  have e42 : I 42 0 m = I 3 4 m := (hV 4 m (by omega) (by show m < 24; omega)).1
  have e12 : I 35 0 12 = I 3 6 0 := (hV 6 0 (by omega) (by show 0 < 1; omega)).1
  have t0 : tn 0 = 0 := rfl
  have t1 : tn 1 = 1 := rfl
  have t2 : tn 2 = 2 := rfl
  have t3 : tn 3 = 3 := rfl
  have t4 : tn 4 = 4 := rfl
  have t5 : tn 5 = 5 := rfl
  have v6 : ∀ i : Nat, i < 6 → vp_in (nI i) 6 := fun i hi => ti_in hi (by omega)
  refine ru_M_isHeard ?_
  rw [ti_tn (n := t) (by omega), ti_tn (n := m) (by omega), t0, t1, t2, t3, t4, t5]
  simp (disch := decide) only [ui_k, ui_same]
  rw [e37, e36, e42, e12, hfar]
  rcases hL.2 with ⟨h1, h2⟩ | ⟨h1, h2⟩
  · refine ⟨fun z => absurd h1 z, fun _ => ⟨vt, vt, vm, by decide, fun q => ⟨Or.inl trivial, ?_⟩, fun q => ⟨Or.inr trivial, ?_⟩⟩⟩
    · exact bP_ff (h I (fun _ _ _ _ => rfl)) (fun g => (h2 _ _ _ _ _ _).mp g q)
    · exact bP_ft (h I (fun _ _ _ _ => rfl)) ((h2 _ _ _ _ _ _).mpr q)
  · refine ⟨fun _ => ⟨vt, v6 0 (by omega), vt, v6 1 (by omega), vm, v6 2 (by omega), vt, v6 3 (by omega), v6 4 (by omega), v6 5 (by omega), ?_⟩, fun z => absurd z h1⟩
    refine h2 _ _ _ _ ?_ (fun I' v g1 g2 => ?_)
    · refine Qw_S (L := L) (L' := L) ?_
      exact Scr_ui (Scr_ui (Scr_ui (Scr_ui (Scr_ui (Scr_ui Scr_rf rfl) rfl) rfl) rfl) rfl) rfl
    · have g3 := h I' (fun a b c z => by
        rw [g1 a b c (fun y => z (Or.inr y)), ui_k (fun y => z (Or.inl y)), ui_k (fun y => z (Or.inl y)), ui_k (fun y => z (Or.inl y)), ui_k (fun y => z (Or.inl y)), ui_k (fun y => z (Or.inl y)), ui_k (fun y => z (Or.inl y))])
      simp (disch := decide) only [ui_j, ui_same] at g2
      exact ⟨fun q => ⟨Or.inl trivial, bP_ff g3 (fun y => (g2.mpr y) q)⟩, fun q => ⟨Or.inr trivial, bP_ft g3 (g2.mp q)⟩⟩
theorem sm_soundOf {P : bt_PT} {d : Nat} {f : Int32 → m_I → m_L → Prop} {I : m_I} {L : m_L} {T k t m b : Nat} {fr : Nat → Nat} {F : lF} (hV : gV I T) (hT8 : T ≤ 8) (hL : gL P I F) (hfar : I 48 0 t = nI (fr t)) (hk : k < 4) (ht : t < T) (hm : m < 24) (hb : b < 256) (h : ∀ I', (∀ a b c, ¬ (a = 55 ∨ a = 56) → I' a b c = I a b c) → f (if b.testBit t = true then snd I F fr T k t m else -1) I' L) : bt_WP P (d + 5) mi_M_soundOf [vr 35 0, vi (nI k), vi (nI t), vi (nI m), vi (nI b)] (I, L) (kI f) := by
  have vt : vp_in (nI t) 8 := ti_in (by omega) (by omega)
  have e39 : I 39 0 t = I 3 3 t := (hV 3 t (by omega) ht).1
  have e38 : I 38 0 t = I 3 2 t := (hV 2 t (by omega) ht).1
  have e36 : I 36 0 t = I 3 0 t := (hV 0 t (by omega) ht).1
  have e43 : I 43 0 k = I 3 5 k := (hV 5 k (by omega) (by show k < 4; omega)).1
  have h1 := h I (fun _ _ _ _ => rfl)
  have hno : snd I F fr T k t m = -1 ∨ ¬ b.testBit t = true → f (-1) I L := fun q => by
    by_cases g : b.testBit t = true
    · rw [if_pos g, q.resolve_right (fun z => z g)] at h1; exact h1
    · rw [if_neg g] at h1; exact h1
  refine ru_M_soundOf ⟨vt, ?_⟩
  rw [ti_tn (n := t) (by omega), ti_tn (n := k) (by omega), e39, nI_bit (by omega) (by omega), e43, e38]
  refine ⟨fun q => hno (Or.inl (snd_0 (fun z => q z.2.1.1))), fun q1 => ⟨fun q => hno (Or.inr (fun z => q (bP_t z))), fun q2 => ⟨vt, ti_in hk (by omega), fun q => hno (Or.inl (snd_0 (fun z => absurd z.2.1.2 (Int32.not_le.mpr q)))), fun q3 => sm_isHeard hV hT8 hL hfar hk ht hm (fun I' g => ?_)⟩⟩⟩
  have h2 := h I' g
  rw [if_pos (bP_1.mp q2)] at h2
  rw [show I' 36 0 t = I 3 0 t from (g 36 0 t (by omega)).trans e36]
  refine bP_br (fun w => ?_) (fun w => ⟨vt, ?_⟩)
  · rw [snd_0 (fun z => w z.2.2)] at h2; exact h2
  · rw [snd_1 ht ⟨q1, Int32.not_lt.mp q3⟩ w] at h2; exact h2
theorem snd_S {I I' : m_I} {L L' : m_L} {F : lF} {fr : Nat → Nat} {T : Nat} (h : Scr I L I' L') : snd I' F fr T = snd I F fr T := by
  funext k t m
  unfold snd
  rw [h.1 3 3 t rfl, h.1 3 2 t rfl, h.1 3 5 k rfl, h.1 3 1 t rfl, h.1 3 4 m rfl, h.1 3 0 t rfl, h.1 3 6 0 rfl]
/-- a sound is none or a pitch -/
theorem snd_v {I : m_I} {F : lF} {fr : Nat → Nat} {T k t m : Nat} (hV : gV I T) (ht : t < T) : snd I F fr T k t m = -1 ∨ lt' (snd I F fr T k t m) 10 := by
  by_cases q : t < T ∧ (I 3 3 t = 1 ∧ I 3 2 t ≤ I 3 5 k) ∧ F (I 3 1 t) (nI (fr t)) (I 3 4 m) (I 3 0 t) (I 3 6 0) (nI k)
  · rw [snd_1 ht q.2.1 q.2.2]; exact Or.inr (hV 0 t (by omega) ht).2
  · exact Or.inl (snd_0 q)
