/-! rowsRefusal: the first side -/
/-- what the shelves of these bits below a bound lack -/
noncomputable def rrI (X : Nat → sH) (b n : Nat) : Int32 := @ite Int32 (∃ i, i < n ∧ b.testBit i = true ∧ X i = none) (Classical.propDecidable _) (-11) (@ite Int32 (∃ i, i < n ∧ b.testBit i = true ∧ ¬ X i = some (.inr 0)) (Classical.propDecidable _) (-12) 0)
theorem sp_rrL {P : bt_PT} {d : Nat} {f : Int32 → m_I → m_L → Prop} {I : m_I} {L : m_L} {bn b : Nat} {X : Nat → sH} (hX : ∀ s, s < 6 → ∃ z, gS1 I L bn s (X s) z) (hb : bn ≤ 50) (hb64 : b < 2147483648) (h : f (rrI X b 6) I L) :
    ∀ (k n : Nat), n + k = 6 → (¬ ∃ i, i < n ∧ b.testBit i = true ∧ X i = none) → bt_Go P (d + 2) mi_B_rowsRefusal (kI f) 4 [some (vr 0 0), some (vi (nI b)), some (vi (rrI X b n)), some (vi (nI n)), none] [] (I, L)
  | 0, n, e, h1 => by
    have e : n = 6 := by omega
    subst e
    exact ru_B_rowsRefusal_4 ⟨fun _ => h, fun q => absurd (show (6 : Int32) ≤ nI 6 by decide) q⟩
  | k + 1, n, e, h1 => by
    have l6 : (6 : Int32) ≤ nI n ↔ 6 ≤ n := nle (a := 6) (by omega) (by omega)
    refine ru_B_rowsRefusal_4 ⟨fun q => absurd (l6.mp q) (by omega), fun _ => sp_sA (by omega) (ru_B_rowsRefusal_15_b ⟨(fun z => by cases z), fun _ => ?_⟩)⟩
    obtain ⟨z, hx⟩ := hX n (by omega)
    rw [nI_bit (by omega) hb64, nI_s]
    have hgo : ∀ v, v = rrI X b (n + 1) → (¬ ∃ i, i < n + 1 ∧ b.testBit i = true ∧ X i = none) → bt_Go P (d + 2) mi_B_rowsRefusal (kI f) 4 [some (vr 0 0), some (vi (nI b)), some (vi v), some (vi (nI (n + 1))), none] [] (I, L) := fun v ev hv => by
      subst ev; exact sp_rrL hX hb hb64 h k (n + 1) (by omega) hv
    have same : (b.testBit n = true → X n = some (.inr 0)) → rrI X b n = rrI X b (n + 1) ∧ ¬ ∃ i, i < n + 1 ∧ b.testBit i = true ∧ X i = none := fun hs => by
      have hv : ¬ ∃ i, i < n + 1 ∧ b.testBit i = true ∧ X i = none := by
        rintro ⟨i, hi, hb', hn⟩
        by_cases q : i = n
        · subst q; rw [hs hb'] at hn; cases hn
        · exact h1 ⟨i, by omega, hb', hn⟩
      refine ⟨?_, hv⟩
      unfold rrI
      rw [if_neg h1, if_neg hv]
      have key : (∃ i, i < n ∧ b.testBit i = true ∧ ¬ X i = some (.inr 0)) ↔ ∃ i, i < n + 1 ∧ b.testBit i = true ∧ ¬ X i = some (.inr 0) := by
        constructor
        · rintro ⟨i, hi, q⟩; exact ⟨i, by omega, q⟩
        · rintro ⟨i, hi, q1, q2⟩
          by_cases q : i = n
          · subst q; exact absurd (hs q1) q2
          · exact ⟨i, by omega, q1, q2⟩
      by_cases q : ∃ i, i < n ∧ b.testBit i = true ∧ ¬ X i = some (.inr 0)
      · rw [if_pos q, if_pos (key.mp q)]
      · rw [if_neg q, if_neg (fun z => q (key.mpr z))]
    refine bP_br' (fun hbit => sp_isEmpty hx hb (bP_br (fun q1 => sp_isBytes hx (bP_br' (fun q2 => ?_) (fun q2 => ?_))) (fun q1 => ?_))) (fun hbit => ?_)
    · obtain ⟨s1, s2⟩ := same (fun _ => q2)
      exact hgo _ s1 s2
    · have hv : ¬ ∃ i, i < n + 1 ∧ b.testBit i = true ∧ X i = none := by
        rintro ⟨i, hi, hb', hn⟩
        by_cases q : i = n
        · subst q; exact q1 hn
        · exact h1 ⟨i, by omega, hb', hn⟩
      refine hgo _ ?_ hv
      unfold rrI
      rw [if_neg hv, if_pos ⟨n, by omega, hbit, q2⟩]
    · unfold rrI at h
      rw [if_pos ⟨n, by omega, hbit, q1⟩] at h; exact h
    · obtain ⟨s1, s2⟩ := same (fun z => absurd z hbit)
      exact hgo _ s1 s2
