/-! CHANGES: what a change leaves, both sides -/
theorem uc_k {I : m_I} {k i a b c : Nat} {g : Nat → Int32} (h : a ≠ k) : uc I k i g a b c = I a b c := by unfold uc; rw [if_neg h]
theorem uc_same (I : m_I) (k i c : Nat) (g : Nat → Int32) : uc I k i g k i c = g c := by unfold uc; rw [if_pos rfl, if_pos rfl]
/-- the four rows of the changes behind an added one: e the place, s how far the older ones moved -/
def chN (r : Nat) (I I' : m_I) (e s : Nat) (a1 a2 a3 a4 : Int32) : Prop := (∀ k, k < e → I' r 0 k = I r 0 (k + s) ∧ I' (r + 1) 0 k = I (r + 1) 0 (k + s) ∧ I' (r + 2) 0 k = I (r + 2) 0 (k + s) ∧ I' (r + 3) 0 k = I (r + 3) 0 (k + s)) ∧ I' r 0 e = a1 ∧ I' (r + 1) 0 e = a2 ∧ I' (r + 2) 0 e = a3 ∧ I' (r + 3) 0 e = a4
theorem sp_add {P : bt_PT} {d : Nat} {f : m_I → m_L → Prop} {I : m_I} {L : m_L} {dn : Nat} {a1 a2 a3 a4 : Int32} (hd : I 19 0 4 = nI dn) (h40 : dn ≤ 40) (h : ∀ I' e s, e < 40 → e + s = dn → (s = 0 ∨ (s = 1 ∧ dn = 40)) → (dn < 40 → s = 0) → chN 20 I I' e s a1 a2 a3 a4 → I' 19 0 4 = nI (e + 1) → I' 19 0 5 = nI (e + 1) → (∀ a b c, a ≠ 19 → ¬ (20 ≤ a ∧ a ≤ 23) → I' a b c = I a b c) → f I' L) : bt_WP P (d + 2) mi_Ch_add [vr 19 0, vi a1, vi a2, vi a3, vi a4] (I, L) (kV f) := by
  refine ru_Ch_add ?_
  have l40 : nI dn < 40 ↔ dn < 40 := nlt (b := 40) (by omega) (by omega)
  refine ⟨fun q => ?_, fun q => ru_Ch_dropOldest ?_⟩
  · rw [hd, l40] at q
    simp (disch := first | decide | omega) only [ui_k, ui_same, hd, ti_tn, nI_s]
    have hv : vp_in (nI dn) 40 := ti_in q (by omega)
    refine ⟨hv, hv, hv, hv, h _ dn 0 q rfl (Or.inl rfl) (fun _ => rfl) ⟨fun k hk => ?_, ?_, ?_, ?_, ?_⟩ ?_ ?_ (fun a b c h1 h2 => ?_)⟩
    · have hne : k ≠ dn := by omega
      refine ⟨?_, ?_, ?_, ?_⟩ <;> simp (disch := first | decide | assumption) only [ui_k, ui_j, ui_same, Nat.add_zero]
    · simp (disch := first | decide | assumption) only [ui_k, ui_j, ui_same]
    · simp (disch := first | decide | assumption) only [ui_k, ui_j, ui_same]
    · simp (disch := first | decide | assumption) only [ui_k, ui_j, ui_same]
    · simp (disch := first | decide | assumption) only [ui_k, ui_j, ui_same]
    · simp (disch := first | decide | assumption) only [ui_k, ui_j, ui_same]
    · simp (disch := first | decide | assumption) only [ui_k, ui_j, ui_same]
    · simp (disch := first | assumption | omega) only [ui_k]
  · rw [hd, l40] at q
    have ed : dn = 40 := by omega
    have t0 : tn 0 = 0 := by decide
    have t1 : tn 1 = 1 := by decide
    have t39 : tn 39 = 39 := by decide
    have hb : (¬ (1 : Int32) < 0 ∧ ¬ (0 : Int32) < 0 ∧ ¬ (39 : Int32) < 0 ∧ tn 1 + tn 39 ≤ 40 ∧ tn 0 + tn 39 ≤ 40) := ⟨by decide, by decide, by decide, by rw [t1, t39]; decide, by rw [t0, t39]; decide⟩
    refine ⟨hb, hb, hb, hb, ?_⟩
    simp (disch := first | decide | omega) only [ui_k, ui_same, uc_k, uc_same, t0, t1, t39]
    have hv : vp_in 39 40 := ti_in (n := 39) (by omega) (by omega)
    have e39 : (39 : Int32) + 1 = nI (39 + 1) := by decide
    rw [e39]
    refine ⟨hv, hv, hv, hv, h _ 39 1 (by omega) (by omega) (Or.inr ⟨rfl, ed⟩) (fun z => by omega) ⟨fun k hk => ?_, ?_, ?_, ?_, ?_⟩ ?_ ?_ (fun a b c h1 h2 => ?_)⟩
    · have hne : k ≠ 39 := by omega
      have hc : ∀ g : Nat → Int32, va_cpy g g 1 0 39 k = g (k + 1) := fun g => by
        unfold va_cpy; rw [if_pos (by omega), Nat.sub_zero, Nat.add_comm]
      refine ⟨?_, ?_, ?_, ?_⟩ <;> simp (disch := first | decide | assumption) only [ui_k, ui_j, ui_same, uc_k, uc_same, hc]
      all_goals (unfold va_cpy; rw [if_pos (by omega), Nat.sub_zero, Nat.add_comm]; simp (disch := first | decide | assumption) only [uc_k])
    · simp (disch := first | decide | assumption) only [ui_k, ui_j, ui_same]
    · simp (disch := first | decide | assumption) only [ui_k, ui_j, ui_same]
    · simp (disch := first | decide | assumption) only [ui_k, ui_j, ui_same]
    · simp (disch := first | decide | assumption) only [ui_k, ui_j, ui_same]
    · simp (disch := first | decide | assumption) only [ui_k, ui_j, ui_same]
    · simp (disch := first | decide | assumption) only [ui_k, ui_j, ui_same]
    · simp (disch := first | assumption | omega) only [ui_k, uc_k]
/-- the reference's rows moved by one as far as a place -/
def mvd (I I' : m_I) (n : Nat) : Prop := (∀ k, k < n → I' 44 0 k = I 44 0 (k + 1) ∧ I' 45 0 k = I 45 0 (k + 1) ∧ I' 46 0 k = I 46 0 (k + 1) ∧ I' 47 0 k = I 47 0 (k + 1)) ∧ (∀ k, n ≤ k → I' 44 0 k = I 44 0 k ∧ I' 45 0 k = I 45 0 k ∧ I' 46 0 k = I 46 0 k ∧ I' 47 0 k = I 47 0 k) ∧ ∀ a b c, ¬ (44 ≤ a ∧ a ≤ 47) → I' a b c = I a b c
theorem sm_mvd {P : bt_PT} {d : Nat} {f : Int32 → m_I → m_L → Prop} {L : m_L} {I0 : m_I} {x1 x2 x3 x4 : Int32} (h : ∀ I', mvd I0 I' 39 → bt_Go P d mi_M_changes (kI f) 34 [some (vr 35 0), some (vi x1), some (vi x2), some (vi x3), some (vi x4), some (vi (nI 40))] [] (I', L)) : ∀ (m n : Nat) (I : m_I), n + m = 39 → mvd I0 I n → bt_Go P d mi_M_changes (kI f) 34 [some (vr 35 0), some (vi x1), some (vi x2), some (vi x3), some (vi x4), some (vi (nI (n + 1)))] [] (I, L)
  | 0, n, I, e, h1 => by
    have e : n = 39 := by omega
    subst e
    exact h I h1
  | m + 1, n, I, e, h1 => by
    have l40 : (40 : Int32) ≤ nI (n + 1) ↔ 40 ≤ n + 1 := nle (a := 40) (by omega) (by omega)
    refine ru_M_changes_34 ⟨fun z => absurd (l40.mp z) (by omega), fun _ => ?_⟩
    rw [nI_pred, ti_tn (by omega), ti_tn (by omega), nI_s]
    have hv : vp_in (nI (n + 1)) 40 := ti_in (by omega) (by omega)
    have hv' : vp_in (nI n) 40 := ti_in (by omega) (by omega)
    refine ⟨hv, hv', hv, hv', hv, hv', hv, hv', sm_mvd h m (n + 1) _ (by omega) ⟨fun k hk => ?_, fun k hk => ?_, fun a b c ha => ?_⟩⟩
    · by_cases q : k = n
      · subst q
        have := h1.2.1 (k + 1) (by omega)
        simp (disch := first | decide | assumption) only [ui_k, ui_j, ui_same]; exact this
      · simp (disch := first | decide | assumption) only [ui_k, ui_j, ui_same]; exact h1.1 k (by omega)
    · have q : k ≠ n := by omega
      simp (disch := first | decide | assumption) only [ui_k, ui_j, ui_same]; exact h1.2.1 k (by omega)
    · simp (disch := first | assumption | omega) only [ui_k]; exact h1.2.2 a b c ha
theorem sm_changes {P : bt_PT} {d : Nat} {f : Int32 → m_I → m_L → Prop} {I : m_I} {L : m_L} {T dn k t : Nat} {v : Int32} (hT : T ≤ 8) (hk : k < 8) (ht : t < slN T k) (hd : I 35 0 14 = nI dn) (h40 : dn ≤ 40) (h0 : mv I k t = v → f v I L) (h : ¬ mv I k t = v → ∀ I' e s, e < 40 → e + s = dn → (s = 0 ∨ (s = 1 ∧ dn = 40)) → (dn < 40 → s = 0) → chN 44 I I' e s (nI k) (nI t) (mv I k t) v → I' 35 0 14 = nI (e + 1) → I' 35 0 15 = 0 → (∀ a b c, ¬ (a = 35 ∧ (c = 14 ∨ c = 15)) → ¬ (44 ≤ a ∧ a ≤ 47) → I' a b c = I a b c) → f (mv I k t) (ui I' (mk k) 0 (mj k t) v) L) : bt_WP P (d + 2) mi_M_changes [vr 35 0, vi (nI k), vi (nI t), vi v] (I, L) (kI f) := by
  refine ru_M_changes (sm_valueAt hT hk ht ⟨fun q => ?_, fun q => by rw [q]; exact h0 q⟩)
  have e40 : nI dn = 40 ↔ dn = 40 := neq (b := 40) (by omega) (by omega)
  simp (disch := first | decide | omega) only [ui_j, hd]
  refine ⟨fun q2 => ?_, fun q2 => ?_⟩
  · have hlt : dn < 40 := by
      have h50 : ¬ dn = 40 := (fun z => q2 (e40.mpr z))
      omega
    simp (disch := first | decide | omega) only [ui_k, ui_j, ui_same, hd, ti_tn, nI_s]
    have hv : vp_in (nI dn) 40 := ti_in hlt (by omega)
    refine ⟨hv, hv, hv, hv, sm_lays hT hk ht ?_⟩
    refine h q _ dn 0 hlt rfl (Or.inl rfl) (fun _ => rfl) ⟨fun k hk => ?_, ?_, ?_, ?_, ?_⟩ ?_ ?_ (fun a b c h1 h2 => ?_)
    · have hne : k ≠ dn := by omega
      refine ⟨?_, ?_, ?_, ?_⟩ <;> simp (disch := first | decide | assumption) only [ui_k, ui_j, ui_same, Nat.add_zero]
    · simp (disch := first | decide | assumption) only [ui_k, ui_j, ui_same]
    · simp (disch := first | decide | assumption) only [ui_k, ui_j, ui_same]
    · simp (disch := first | decide | assumption) only [ui_k, ui_j, ui_same]
    · simp (disch := first | decide | assumption) only [ui_k, ui_j, ui_same]
    · simp (disch := first | decide | assumption) only [ui_k, ui_j, ui_same]
    · simp (disch := first | decide | assumption) only [ui_k, ui_j, ui_same]
    · by_cases q35 : a = 35
      · have n14 : c ≠ 14 := fun z => h1 ⟨q35, Or.inl z⟩
        have n15 : c ≠ 15 := fun z => h1 ⟨q35, Or.inr z⟩
        subst q35
        simp (disch := first | assumption | omega) only [ui_k, ui_j]
      · simp (disch := first | assumption | omega) only [ui_k]
  · have ed : dn = 40 := e40.mp q2
    refine sm_mvd (I0 := ui I 35 0 15 0) (fun I' hI => ?_) 39 0 _ rfl ⟨fun k hk => by omega, fun k _ => ⟨rfl, rfl, rfl, rfl⟩, fun _ _ _ _ => rfl⟩
    have l40 : (40 : Int32) ≤ nI 40 := by decide
    refine ru_M_changes_34 ⟨fun _ => ?_, fun z => absurd l40 z⟩
    have hd' : I' 35 0 14 = nI 40 := by rw [hI.2.2 35 0 14 (by decide), ui_j (by decide), hd, ed]
    have e39 : nI 40 - 1 = nI 39 := nI_pred 39
    simp (disch := first | decide | omega) only [ui_k, ui_j, ui_same, hd', ti_tn, nI_s, e39]
    have hv : vp_in (nI 39) 40 := ti_in (by omega) (by omega)
    refine ⟨hv, hv, hv, hv, sm_lays hT hk ht ?_⟩
    refine h q _ 39 1 (by omega) (by omega) (Or.inr ⟨rfl, ed⟩) (fun z => by omega) ⟨fun k hk => ?_, ?_, ?_, ?_, ?_⟩ ?_ ?_ (fun a b c h1 h2 => ?_)
    · have hne : k ≠ 39 := by omega
      have := hI.1 k hk
      refine ⟨?_, ?_, ?_, ?_⟩ <;> simp (disch := first | decide | assumption) only [ui_k, ui_j, ui_same, this.1, this.2.1, this.2.2.1, this.2.2.2]
    · simp (disch := first | decide | assumption) only [ui_k, ui_j, ui_same]
    · simp (disch := first | decide | assumption) only [ui_k, ui_j, ui_same]
    · simp (disch := first | decide | assumption) only [ui_k, ui_j, ui_same]
    · simp (disch := first | decide | assumption) only [ui_k, ui_j, ui_same]
    · simp (disch := first | decide | assumption) only [ui_k, ui_j, ui_same]
    · simp (disch := first | decide | assumption) only [ui_k, ui_j, ui_same]
      rw [hI.2.2 35 0 15 (by decide), ui_same]
    · by_cases q35 : a = 35
      · have n14 : c ≠ 14 := fun z => h1 ⟨q35, Or.inl z⟩
        have n15 : c ≠ 15 := fun z => h1 ⟨q35, Or.inr z⟩
        subst q35
        simp (disch := first | assumption | omega) only [ui_k, ui_j]
        rw [hI.2.2 35 b c (by decide), ui_j n15]
      · simp (disch := first | assumption | omega) only [ui_k]
        rw [hI.2.2 a b c h2, ui_k q35]
