/-! WHAT THE CONSTRUCTORS LEAVE -/
def I0 : m_I := fun k i j => if k = 3 then (if i = 4 then 2 else if i = 5 then 5 else 0) else if k = 42 then 2 else if k = 43 then 5 else if k = 35 then (if j = 39 then -1 else 0) else if k = 33 then (if j = 1 then -1 else if j = 2 then -1 else 0) else if k = 66 then -1 else 0
def L0 : m_L := fun _ _ _ => 0
theorem lt_z {n : Nat} (h : 0 < n) : lt' 0 n := ⟨0, h, rfl⟩
theorem wq_init (P : bt_PT) : wQ P I0 L0 := by
  refine ⟨0, fun _ => 0, 0, 0, 0, 0, 0, dfL, ?_, ?_, ?_, ?_, ?_, ?_, ?_⟩
  · refine ⟨?_, ?_, fun a b => ?_, fun k t hk ht => ?_, ?_⟩
    · exact ⟨rfl, by omega, fun t ht => ⟨rfl, by show 0 < 2 ^ 0; decide⟩, fun t _ => rfl⟩
    · exact ⟨rfl, by omega, fun t ht => absurd ht (Nat.not_lt_zero _), fun t => by show 0 < 2 ^ 0; decide, fun t => by show 0 < 256; omega⟩
    · show (0 : Nat).testBit b = (0 : Nat).testBit a
      rw [Nat.zero_testBit, Nat.zero_testBit]
    · have hk' : k = 0 ∨ k = 1 ∨ k = 2 ∨ k = 3 ∨ k = 4 ∨ k = 5 ∨ k = 6 ∨ k = 7 := by omega
      rcases hk' with rfl | rfl | rfl | rfl | rfl | rfl | rfl | rfl
      · exact absurd ht (Nat.not_lt_zero _)
      · exact absurd ht (Nat.not_lt_zero _)
      · exact absurd ht (Nat.not_lt_zero _)
      · exact absurd ht (Nat.not_lt_zero _)
      · exact ⟨rfl, 2, by decide, rfl⟩
      · exact ⟨rfl, 5, by decide, rfl⟩
      · exact ⟨rfl, 0, by decide, rfl⟩
      · exact ⟨rfl, 0, by decide, rfl⟩
    · exact ⟨fun t ht => absurd ht (Nat.not_lt_zero _), fun t _ _ => rfl, rfl, ⟨0, by omega, rfl⟩, rfl⟩
  · exact ⟨Nat.le_refl _, by omega, rfl, rfl, rfl, rfl, fun k hk => absurd hk (Nat.not_lt_zero _)⟩
  · exact Or.inl ⟨rfl, rfl⟩
  · exact ⟨by omega, rfl, rfl, fun b hb => absurd hb (Nat.not_lt_zero _), by omega, rfl, rfl, fun i hi => absurd hi (Nat.not_lt_zero _)⟩
  · intro s hs
    exact ⟨none, 0, by omega, rfl, rfl, rfl, rfl, (fun k e => by cases e), (fun b e => by cases e)⟩
  · exact ⟨by omega, rfl, rfl, fun j hj => absurd hj (Nat.not_lt_zero _)⟩
  · refine ⟨fun d f I' L w q g => ?_, Or.inl ⟨rfl, fun l d w p s k => Iff.rfl⟩⟩
    have e7 : ui I' 7 0 11 w 7 0 7 = 0 := by rw [ui_j (by decide), q.2.1]; rfl
    refine ru_La_hears ?_
    rw [e7, ui_same, ui_j (c := 9) (by decide), ui_j (c := 10) (by decide), ui_j (c := 13) (by decide)]
    have hfr : ∀ a b c, ¬ (a = 11 ∨ (a = 7 ∧ (c = 8 ∨ c = 11))) → ui I' 7 0 11 w a b c = I' a b c := fun x y c z => by
      by_cases q7 : x = 7
      · exact ui_j (by omega)
      · exact ui_k q7
    have g' := g _ hfr
    refine ⟨(fun z => absurd rfl z), fun _ => ⟨by decide, fun z => ?_, fun z => ?_⟩⟩
    · rw [bP_f (show ¬ dfL (I' 7 0 9) (I' 7 0 10) w (I' 7 0 12) (I' 7 0 13) (I' 7 0 14) from fun y => y z)] at g'
      exact ⟨z01, g'⟩
    · rw [bP_t (show dfL (I' 7 0 9) (I' 7 0 10) w (I' 7 0 12) (I' 7 0 13) (I' 7 0 14) from z)] at g'
      exact ⟨o01, g'⟩
