/-! WALKS: the question whether a row is one, the first side -/
/-- the trees open in a minute -/
def opN (T : Nat) (nb : Nat → Nat) (val : Nat → Int32) (m : Nat) : Nat := if m = 0 then 2 ^ T - 1 else nb (tn (val (m - 1))) ||| 2 ^ tn (val (m - 1))
def isW (T : Nat) (nb : Nat → Nat) (val : Nat → Int32) (n : Nat) : Prop := ∀ m, m < n → lt' (val m) T ∧ (opN T nb val m).testBit (tn (val m)) = true
theorem sp_isWalkL {P : bt_PT} {d : Nat} {f : Int32 → m_I → m_L → Prop} {I : m_I} {L : m_L} {j z T : Nat} {nb : Nat → Nat} (hF : iF I T nb) (hz : I 33 j 3 = nI z) (h60 : z ≤ 60) (h : f (bP (isW T nb (fun m => (L 34 j m).toInt32) (min 24 z))) I L) :
    ∀ (k m : Nat), m + k = min 24 z → isW T nb (fun m => (L 34 j m).toInt32) m → bt_Go P (d + 3) mi_B_isWalk (kI f) 16 [some (vr 0 0), some (vr 33 j), some (vi (nI (opN T nb (fun m => (L 34 j m).toInt32) m))), some (vi (nI m)), none] [] (I, L)
  | 0, m, e, h1 => by
    have e : m = min 24 z := by omega
    refine ru_B_isWalk_16 (sp_minutes hz h60 ?_)
    rw [← e] at h ⊢
    exact ⟨fun _ => ⟨o01, bP_ft h h1⟩, fun q => absurd (Int32.le_refl _) q⟩
  | k + 1, m, e, h1 => by
    have hT8 := hF.2.1
    have hm : m < min 24 z := by omega
    have hno : ¬ (lt' ((L 34 j m).toInt32) T ∧ (opN T nb (fun m => (L 34 j m).toInt32) m).testBit (tn ((L 34 j m).toInt32)) = true) → ((0 : Int32) = 0 ∨ (0 : Int32) = 1) ∧ f 0 I L := fun q => ⟨z01, bP_ff h (fun w => q (w m hm))⟩
    refine ru_B_isWalk_16 (sp_minutes hz h60 ⟨fun q => absurd ((nle (by omega) (by omega)).mp q) (by omega), fun _ => sp_at hz h60 (by omega) (sp_has hF.1 (bP_br (fun q => hno (fun w => absurd ((lt_oob (by omega)).mp w.1) q)) (fun q => ?_)))⟩)
    obtain ⟨t, ht, et⟩ := (lt_oob (by omega)).mpr q
    have etn : tn ((L 34 j m).toInt32) = t := by rw [et, ti_tn (by omega)]
    have hop : opN T nb (fun m => (L 34 j m).toInt32) m < 256 := by
      unfold opN
      by_cases q0 : m = 0
      · rw [if_pos q0]
        have h2 : 2 ^ T ≤ 2 ^ 8 := Nat.pow_le_pow_right (by omega) hT8
        have : 2 ^ 8 = 256 := rfl
        omega
      · rw [if_neg q0]
        obtain ⟨⟨u, hu, eu⟩, -⟩ := h1 (m - 1) (by omega)
        have eu' : (L 34 j (m - 1)).toInt32 = nI u := eu
        show nb (tn ((L 34 j (m - 1)).toInt32)) ||| 2 ^ tn ((L 34 j (m - 1)).toInt32) < 256
        rw [eu', ti_tn (by omega)]
        exact or_lt256 (iF_lt hF u) (pow_lt256 hu hT8)
    rw [etn] at hno
    rw [et, nI_bit (by omega) (by omega)]
    refine bP_br' (fun w => ?_) (fun w => hno (fun v => w v.2))
    refine sp_around hF ht ?_
    have eo : opN T nb (fun m => (L 34 j m).toInt32) (m + 1) = nb t ||| 2 ^ t := by
      unfold opN
      rw [if_neg (by omega)]
      show nb (tn ((L 34 j m).toInt32)) ||| 2 ^ tn ((L 34 j m).toInt32) = _
      rw [etn]
    rw [← eo, nI_s]
    refine sp_isWalkL hF hz h60 h k (m + 1) (by omega) (fun m' hm' => ?_)
    by_cases q1 : m' = m
    · subst q1
      exact ⟨⟨t, ht, et⟩, by show (opN _ _ _ _).testBit (tn ((L 34 j m').toInt32)) = true; rw [etn]; exact w⟩
    · exact h1 m' (by omega)
theorem sp_isWalk {P : bt_PT} {d : Nat} {f : Int32 → m_I → m_L → Prop} {I : m_I} {L : m_L} {j z T : Nat} {nb : Nat → Nat} (hF : iF I T nb) (hz : I 33 j 3 = nI z) (h60 : z ≤ 60) (h : f (bP (isW T nb (fun m => (L 34 j m).toInt32) (min 24 z))) I L) : bt_WP P (d + 4) mi_B_isWalk [vr 0 0, vr 33 j] (I, L) (kI f) :=
  ru_B_isWalk ⟨fun _ => sp_all hF.1 hF.2.1 (sp_isWalkL hF hz h60 h (min 24 z) 0 (by omega) (fun m hm => by omega)), (fun z => by cases z)⟩
