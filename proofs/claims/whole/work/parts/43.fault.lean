/-! WALKS AND BOOKS REFUSED: both sides -/
def rowC (I : m_I) (L : m_L) (bn : Nat) (X : Nat → sH) (Z : Nat → Nat) : Prop := bn ≤ 50 ∧ ∀ s, s < 6 → gS1 I L bn s (X s) (Z s)
theorem rowC_of {I : m_I} {L : m_L} {bn : Nat} (h : gS I L bn) (hb : bn ≤ 50) : ∃ X Z, rowC I L bn X Z := by
  have c1 : ∀ s, ∃ x : sH × Nat, s < 6 → gS1 I L bn s x.1 x.2 := fun s => by
    by_cases q : s < 6
    · obtain ⟨x, z, h1⟩ := h s q
      exact ⟨(x, z), fun _ => h1⟩
    · exact ⟨(none, 0), fun z => absurd z q⟩
  exact ⟨fun s => (Classical.choose (c1 s)).1, fun s => (Classical.choose (c1 s)).2, hb, fun s hs => Classical.choose_spec (c1 s) hs⟩
theorem rowC_Q {I I' : m_I} {L L' : m_L} {bn : Nat} {X : Nat → sH} {Z : Nat → Nat} (h : rowC I L bn X Z) (q : Qg 5 I I') (ql : Ql L L') : rowC I' L' bn X Z := ⟨h.1, fun s hs => gS1_Q (h.2 s hs) q ql⟩
theorem rowC_S {I I' : m_I} {L L' : m_L} {bn : Nat} {X : Nat → sH} {Z : Nat → Nat} (h : rowC I L bn X Z) (q : Scr I L I' L') : rowC I' L' bn X Z := rowC_Q h (Qg_scr q (by decide)) q.2
def vL (L : m_L) (s : Nat) : Nat → Int32 := fun m => (L 34 s m).toInt32
def WK (L : m_L) (T : Nat) (nb : Nat → Nat) (Z : Nat → Nat) (s : Nat) : Prop := isW T nb (vL L s) (min 24 (Z s))
/-- what some shelves lack -/
noncomputable def faI (S : Nat → Prop) (X : Nat → sH) (W : Nat → Prop) : Int32 := @ite Int32 (∃ i, S i ∧ X i = none) (Classical.propDecidable _) (-11) (@ite Int32 (∃ i, S i ∧ ¬ X i = some (.inr 0)) (Classical.propDecidable _) (-12) (@ite Int32 (∃ i, S i ∧ ¬ W i) (Classical.propDecidable _) (-5) 0))
section FAI
variable {S S' : Nat → Prop} {X : Nat → sH} {W : Nat → Prop}
theorem faI_11 (h : ∃ i, S i ∧ X i = none) : faI S X W = -11 := by unfold faI; rw [if_pos h]
theorem faI_12 (h1 : ¬ ∃ i, S i ∧ X i = none) (h : ∃ i, S i ∧ ¬ X i = some (.inr 0)) : faI S X W = -12 := by unfold faI; rw [if_neg h1, if_pos h]
theorem faI_5 (h : ∀ i, S i → X i = some (.inr 0)) (h1 : ∃ i, S i ∧ ¬ W i) : faI S X W = -5 := by
  unfold faI
  rw [if_neg (fun z => by obtain ⟨i, a, b⟩ := z; rw [h i a] at b; cases b), if_neg (fun z => by obtain ⟨i, a, b⟩ := z; exact b (h i a)), if_pos h1]
theorem faI_00 (h : ∀ i, S i → X i = some (.inr 0)) (h1 : ∀ i, S i → W i) : faI S X W = 0 := by
  unfold faI
  rw [if_neg (fun z => by obtain ⟨i, a, b⟩ := z; rw [h i a] at b; cases b), if_neg (fun z => by obtain ⟨i, a, b⟩ := z; exact b (h i a)), if_neg (fun z => by obtain ⟨i, a, b⟩ := z; exact b (h1 i a))]
theorem faI_c : (faI S X W = -11 ∧ ∃ i, S i ∧ X i = none) ∨ (faI S X W = -12 ∧ (¬ ∃ i, S i ∧ X i = none) ∧ ∃ i, S i ∧ ¬ X i = some (.inr 0)) ∨ (faI S X W = -5 ∧ (∀ i, S i → X i = some (.inr 0)) ∧ ∃ i, S i ∧ ¬ W i) ∨ (faI S X W = 0 ∧ (∀ i, S i → X i = some (.inr 0)) ∧ ∀ i, S i → W i) := by
  by_cases q1 : ∃ i, S i ∧ X i = none
  · exact Or.inl ⟨faI_11 q1, q1⟩
  · by_cases q2 : ∃ i, S i ∧ ¬ X i = some (.inr 0)
    · exact Or.inr (Or.inl ⟨faI_12 q1 q2, q1, q2⟩)
    · have q3 : ∀ i, S i → X i = some (.inr 0) := fun i hi => Classical.byContradiction fun z => q2 ⟨i, hi, z⟩
      by_cases q4 : ∃ i, S i ∧ ¬ W i
      · exact Or.inr (Or.inr (Or.inl ⟨faI_5 q3 q4, q3, q4⟩))
      · have q5 : ∀ i, S i → W i := fun i hi => Classical.byContradiction fun z => q4 ⟨i, hi, z⟩
        exact Or.inr (Or.inr (Or.inr ⟨faI_00 q3 q5, q3, q5⟩))
theorem faI_lt : faI S X W < 0 ↔ ¬ faI S X W = 0 := by
  rcases faI_c (S := S) (X := X) (W := W) with ⟨e, -⟩ | ⟨e, -⟩ | ⟨e, -⟩ | ⟨e, -⟩ <;> rw [e] <;> decide
theorem faI_0 (h : faI S X W = 0) : (∀ i, S i → X i = some (.inr 0)) ∧ ∀ i, S i → W i := by
  rcases faI_c (S := S) (X := X) (W := W) with ⟨e, -⟩ | ⟨e, -⟩ | ⟨e, -⟩ | ⟨e, h1⟩
  · rw [e] at h; exact absurd h (by decide)
  · rw [e] at h; exact absurd h (by decide)
  · rw [e] at h; exact absurd h (by decide)
  · exact h1
theorem faI_ext (h : ∀ i, S i ↔ S' i) : faI S X W = faI S' X W := by
  have e : S = S' := funext fun i => propext (h i)
  rw [e]
end FAI
theorem rf_lt (x : sH) : rfI x < 0 ↔ ¬ x = some (.inr 0) := by
  rcases x with _ | b | k
  · exact ⟨(fun _ e => by cases e), fun _ => (by show (-11 : Int32) < 0; decide)⟩
  · exact ⟨(fun _ e => by cases e), fun _ => (by show (-12 : Int32) < 0; decide)⟩
  · cases k with
    | zero => exact ⟨fun z => absurd z (by show ¬ (0 : Int32) < 0; decide), fun z => absurd rfl z⟩
    | succ k => exact ⟨(fun _ e => by cases e), fun _ => (by show (-12 : Int32) < 0; decide)⟩
theorem rf_le (x : sH) : 0 ≤ rfI x ↔ x = some (.inr 0) := by
  rw [← Int32.not_lt, rf_lt]; exact Classical.not_not
theorem faI_1 {X : Nat → sH} {W : Nat → Prop} {s : Nat} : (rfI (X s) < 0 ∧ faI (fun i => i = s) X W = rfI (X s)) ∨ (¬ rfI (X s) < 0 ∧ X s = some (.inr 0) ∧ ((W s ∧ faI (fun i => i = s) X W = 0) ∨ (¬ W s ∧ faI (fun i => i = s) X W = -5))) := by
  by_cases q : X s = some (.inr 0)
  · right
    have h : ∀ i, i = s → X i = some (.inr 0) := fun i e => by rw [e]; exact q
    refine ⟨fun z => (rf_lt _).mp z q, q, ?_⟩
    by_cases w : W s
    · exact Or.inl ⟨w, faI_00 h (fun i e => by rw [e]; exact w)⟩
    · exact Or.inr ⟨w, faI_5 h ⟨s, rfl, w⟩⟩
  · left
    refine ⟨(rf_lt _).mpr q, ?_⟩
    by_cases w : X s = none
    · rw [faI_11 (S := fun i => i = s) ⟨s, rfl, w⟩, w]; rfl
    · rw [faI_12 (S := fun i => i = s) (fun z => by obtain ⟨i, a, b⟩ := z; rw [a] at b; exact w b) ⟨s, rfl, q⟩]
      rcases hx : X s with _ | b | k
      · exact absurd hx w
      · rfl
      · cases k with
        | zero => exact absurd hx q
        | succ k => rfl
theorem rr_fa (X : Nat → sH) (b : Nat) : rrI X b 6 = faI (fun i => i < 6 ∧ b.testBit i = true) X (fun _ => True) := by
  unfold rrI faI
  have e1 : (∃ i, i < 6 ∧ b.testBit i = true ∧ X i = none) ↔ ∃ i, (i < 6 ∧ b.testBit i = true) ∧ X i = none := ⟨fun ⟨i, a, c, e⟩ => ⟨i, ⟨a, c⟩, e⟩, fun ⟨i, ⟨a, c⟩, e⟩ => ⟨i, a, c, e⟩⟩
  have e2 : (∃ i, i < 6 ∧ b.testBit i = true ∧ ¬ X i = some (.inr 0)) ↔ ∃ i, (i < 6 ∧ b.testBit i = true) ∧ ¬ X i = some (.inr 0) := ⟨fun ⟨i, a, c, e⟩ => ⟨i, ⟨a, c⟩, e⟩, fun ⟨i, ⟨a, c⟩, e⟩ => ⟨i, a, c, e⟩⟩
  have e3 : ¬ ∃ i, (i < 6 ∧ b.testBit i = true) ∧ ¬ True := fun ⟨i, a, c⟩ => c trivial
  by_cases q1 : ∃ i, i < 6 ∧ b.testBit i = true ∧ X i = none
  · rw [if_pos q1, if_pos (e1.mp q1)]
  · rw [if_neg q1, if_neg (fun z => q1 (e1.mpr z))]
    by_cases q2 : ∃ i, i < 6 ∧ b.testBit i = true ∧ ¬ X i = some (.inr 0)
    · rw [if_pos q2, if_pos (e2.mp q2)]
    · rw [if_neg q2, if_neg (fun z => q2 (e2.mpr z)), if_neg e3]
theorem sp_rowsRefusal {P : bt_PT} {d : Nat} {f : Int32 → m_I → m_L → Prop} {I : m_I} {L : m_L} {bn b : Nat} {X : Nat → sH} {Z : Nat → Nat} (hR : rowC I L bn X Z) (hb64 : b < 2147483648) (h : f (faI (fun i => i < 6 ∧ b.testBit i = true) X (fun _ => True)) I L) : bt_WP P (d + 3) mi_B_rowsRefusal [vr 0 0, vi (nI b)] (I, L) (kI f) := by
  have e0 : rrI X b 0 = 0 := by
    unfold rrI
    rw [if_neg (fun z => by obtain ⟨i, a, -⟩ := z; omega), if_neg (fun z => by obtain ⟨i, a, -⟩ := z; omega)]
  have hgo := sp_rrL (P := P) (d := d) (f := f) (X := X) (fun s hs => ⟨Z s, hR.2 s hs⟩) hR.1 hb64 (by rw [rr_fa]; exact h) 6 0 rfl (fun z => by obtain ⟨i, a, -⟩ := z; omega)
  rw [e0] at hgo
  exact ru_B_rowsRefusal hgo
theorem sp_wRL {P : bt_PT} {d : Nat} {f : Int32 → m_I → m_L → Prop} {I : m_I} {L : m_L} {bn b T : Nat} {nb : Nat → Nat} {X : Nat → sH} {Z : Nat → Nat} (hF : iF I T nb) (hR : rowC I L bn X Z) (hb64 : b < 2147483648) (h5 : (∃ i, (i < 6 ∧ b.testBit i = true) ∧ ¬ WK L T nb Z i) → f (-5) I L) (h0 : (∀ i, i < 6 → b.testBit i = true → WK L T nb Z i) → f 0 I L) :
    ∀ (k n : Nat), n + k = 6 → (∀ i, i < n → b.testBit i = true → WK L T nb Z i) → bt_Go P (d + 4) mi_B_walksRefusal (kI f) 8 [some (vr 0 0), some (vi (nI b)), some (vi 0), some (vi (nI n))] [] (I, L)
  | 0, n, e, h1 => by
    have e : n = 6 := by omega
    subst e
    exact ru_B_walksRefusal_8 ⟨fun _ => h0 h1, fun q => absurd (show (6 : Int32) ≤ nI 6 by decide) q⟩
  | k + 1, n, e, h1 => by
    have l6 : (6 : Int32) ≤ nI n ↔ 6 ≤ n := nle (a := 6) (by omega) (by omega)
    refine ru_B_walksRefusal_8 ⟨fun q => absurd (l6.mp q) (by omega), fun _ => ⟨(fun z => absurd rfl z), fun _ => ?_⟩⟩
    rw [nI_bit (by omega) hb64, nI_s]
    have hx := hR.2 n (by omega)
    refine bP_br (fun hbit => ?_) (fun hbit => sp_sA (by omega) (ru_B_walksRefusal_32_b (sp_isWalk hF hx.2.2.2.1 hx.1 ?_)))
    · refine sp_wRL hF hR hb64 h5 h0 k (n + 1) (by omega) (fun i hi hb => ?_)
      by_cases q : i = n
      · subst q; exact absurd hb hbit
      · exact h1 i (by omega) hb
    · rw [nI_s]
      refine bP_br' (fun w => ?_) (fun w => ?_)
      · refine sp_wRL hF hR hb64 h5 h0 k (n + 1) (by omega) (fun i hi hb => ?_)
        by_cases q : i = n
        · subst q; exact w
        · exact h1 i (by omega) hb
      · have h5' := h5 ⟨n, ⟨by omega, hbit⟩, w⟩
        exact ru_B_walksRefusal_8 ⟨fun _ => h5', fun _ => ⟨fun _ => h5', fun z => absurd z (by decide)⟩⟩
theorem sp_walksRefusal {P : bt_PT} {d : Nat} {f : Int32 → m_I → m_L → Prop} {I : m_I} {L : m_L} {bn b T : Nat} {nb : Nat → Nat} {X : Nat → sH} {Z : Nat → Nat} (hF : iF I T nb) (hR : rowC I L bn X Z) (hb64 : b < 2147483648) (h : f (faI (fun i => i < 6 ∧ b.testBit i = true) X (WK L T nb Z)) I L) : bt_WP P (d + 5) mi_B_walksRefusal [vr 0 0, vi (nI b)] (I, L) (kI f) := by
  refine ru_B_walksRefusal (sp_rowsRefusal (d := d + 1) hR hb64 ?_)
  have hno : ∀ v : Int32, ¬ v = 0 → f v I L → bt_Go P (d + 4) mi_B_walksRefusal (kI f) 8 [some (vr 0 0), some (vi (nI b)), some (vi v), some (vi 0)] [] (I, L) := fun v hv hf => ru_B_walksRefusal_8 ⟨fun _ => hf, fun _ => ⟨fun _ => hf, fun z => absurd z hv⟩⟩
  rcases faI_c (S := fun i => i < 6 ∧ b.testBit i = true) (X := X) (W := fun _ => True) with ⟨e, h1⟩ | ⟨e, h1, h2⟩ | ⟨e, h1, i, hi, h2⟩ | ⟨e, h1, h2⟩
  · rw [faI_11 h1] at h; rw [e]; exact hno _ (by decide) h
  · rw [faI_12 h1 h2] at h; rw [e]; exact hno _ (by decide) h
  · exact absurd trivial h2
  · rw [e]
    exact sp_wRL hF hR hb64 (fun q => by rw [faI_5 h1 q] at h; exact h) (fun q => by rw [faI_00 h1 (fun i hi => q i hi.1 hi.2)] at h; exact h) 6 0 rfl (fun i hi => by omega)
