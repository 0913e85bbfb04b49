/-! THE REFERENCE: rows as walks and books -/
/-- what rowFault tells -/
def rfI : sH → Int32
  | none => -11
  | some (.inr 0) => 0
  | _ => -12
theorem ho_2 {x : sH} {bn : Nat} (hb : bn ≤ 50) (h1 : ∀ k, x = some (.inr k) → k < 5) (h2 : ∀ b, x = some (.inl b) → b < bn) : hoI x = -2 ↔ x = some (.inr 0) := by
  rcases x with _ | b | k
  · exact ⟨fun e => absurd e (by decide), fun e => by cases e⟩
  · have := h2 b rfl
    refine ⟨fun e => ?_, fun e => by cases e⟩
    have e' : nI b = -2 := e
    exact absurd (show nI b < 0 from by rw [e']; decide) (n_neg (by omega))
  · have hk := h1 k rfl
    refine ⟨fun e => ?_, fun e => by cases e; rfl⟩
    have := (ho_in k 0 hk (by omega)).mp (e.trans (by decide))
    rw [this]
theorem sm_rowFault {P : bt_PT} {d : Nat} {f : Int32 → m_I → m_L → Prop} {I : m_I} {L L' : m_L} {bn s z : Nat} {x : sH} (hs : s < 6) (hx : gS1 I L bn s x z) (hb : bn ≤ 50) (h : f (rfI x) I L') : bt_WP P (d + 1) mi_M_rowFault [vr 35 0, vi (nI s)] (I, L') (kI f) := by
  have vs : vp_in (nI s) 6 := ti_in hs (by omega)
  have h1 := gS1_ho hx hb
  have h2 := ho_2 (x := x) hb (fun k e => (hx.2.2.2.2.2.1 k e).1) hx.2.2.2.2.2.2
  refine ru_M_rowFault ⟨vs, ?_⟩
  rw [ti_tn (by omega), hx.2.2.2.2.1]
  refine ⟨fun e => ⟨vs, fun e2 => ?_, fun e2 => ?_⟩, fun e => ?_⟩
  · rcases x with _ | b | k
    · exact absurd rfl e
    · exact h
    · cases k with
      | zero => exact absurd rfl e2
      | succ k => exact h
  · have := h2.mp e2
    subst this; exact h
  · have := h1.mp e
    subst this; exact h
theorem sm_minutesOf {P : bt_PT} {d : Nat} {f : Int32 → m_I → m_L → Prop} {I : m_I} {L : m_L} {s z : Nat} (hs : s < 6) (hz : I 67 0 s = nI z) (h60 : z ≤ 60) (h : f (nI (min 24 z)) I L) : bt_WP P (d + 1) mi_M_minutesOf [vr 35 0, vi (nI s)] (I, L) (kI f) := by
  have vs : vp_in (nI s) 6 := ti_in hs (by omega)
  have l24 : (24 : Int32) ≤ nI z ↔ 24 ≤ z := nle (a := 24) (by omega) (by omega)
  refine ru_M_minutesOf ⟨vs, ?_⟩
  rw [ti_tn (by omega), hz]
  refine ⟨fun e => ?_, fun e => ⟨vs, ?_⟩⟩
  · rw [Nat.min_eq_left (l24.mp e)] at h; exact h
  · rw [Nat.min_eq_right (by have h50 : ¬ 24 ≤ z := (fun q => e (l24.mpr q)); omega)] at h; exact h
theorem sm_told {P : bt_PT} {d : Nat} {f : Int64 → m_I → m_L → Prop} {I : m_I} {L : m_L} {s m : Nat} (hs : s < 6) (hm : m < 60) (h : f (L 68 0 (60 * s + m)) I L) : bt_WP P (d + 1) mi_M_told [vr 35 0, vi (nI s), vi (nI m)] (I, L) (kL f) := by
  refine ru_M_told ?_
  rw [nI_60 hs, ti_tn (by omega)]
  exact ⟨ti_in (by omega) (by omega), h⟩
theorem sm_mayGo {P : bt_PT} {d : Nat} {f : Int32 → m_I → m_L → Prop} {I : m_I} {L : m_L} {T a b : Nat} {nb : Nat → Nat} (hF : jF I T nb) (ha : a < T) (hb : b < 31) (h : f (bP ((nb a ||| 2 ^ a).testBit b = true)) I L) : bt_WP P (d + 2) mi_M_mayGo [vr 35 0, vi (nI a), vi (nI b)] (I, L) (kI f) := by
  have hT8 := hF.2.1
  have key : (nb a ||| 2 ^ a).testBit b = true ↔ (a = b ∨ (nb a).testBit b = true) := by
    rw [Nat.testBit_or, Nat.testBit_two_pow, Bool.or_eq_true, decide_eq_true_iff]; exact Or.comm
  rw [bP_c key] at h
  refine ru_M_mayGo ⟨fun e => ⟨o01, bP_ft h (Or.inl ((neq (by omega) (by omega)).mp e))⟩, fun e => sm_areBeside hF ha hb (bP_br (fun q => ⟨z01, bP_ff h (fun z => ?_)⟩) (fun q => ⟨o01, bP_ft h (Or.inr q)⟩))⟩
  rcases z with z | z
  · exact e (by rw [z])
  · exact q z
