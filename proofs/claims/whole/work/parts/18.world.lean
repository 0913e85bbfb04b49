/-! THE WORLD: what the cells of the class and those of the reference both tell -/
/-- what a shelf holds: nothing, a body (left), a row of a sort (right) -/
abbrev sH : Type := Option (Nat ⊕ Nat)
def hbI : sH → Int32
  | some (.inl n) => nI n
  | _ => -1
def rsI : sH → Int32
  | some (.inr s) => nI s
  | _ => -1
def hoI : sH → Int32
  | none => -1
  | some (.inl n) => nI n
  | some (.inr s) => -2 - nI s
/-- the reference's cell of a thing that mend() names -/
def mv (I : m_I) (k t : Nat) : Int32 := match k with
  | 0 => I 36 0 t
  | 1 => I 37 0 t
  | 2 => I 38 0 t
  | 3 => I 39 0 t
  | 4 => I 42 0 t
  | 5 => I 43 0 t
  | 6 => I 35 0 12
  | _ => I 35 0 13
/-- an int is a number below a bound -/
def lt' (x : Int32) (n : Nat) : Prop := ∃ m, m < n ∧ x = nI m
/-- values of the forest -/
def gV (I : m_I) (T : Nat) : Prop := ∀ k t, k < 8 → t < slN T k → mv I k t = I 3 k t ∧ lt' (I 3 k t) (mxN k)
/-- how often each tree was heard; paths; walks -/
def gH (I : m_I) (T : Nat) : Prop := (∀ t, t < T → I 41 0 t = I 6 0 t) ∧ (∀ t, T ≤ t → t < 8 → I 6 0 t = 0) ∧ I 35 0 8 = I 1 0 5 ∧ lt' (I 1 0 5) 15 ∧ I 35 0 9 = I 1 0 6
def gF (I : m_I) (T : Nat) (nb : Nat → Nat) : Prop := iF I T nb ∧ jF I T nb ∧ (∀ a b, (nb a).testBit b = (nb b).testBit a) ∧ gV I T ∧ gH I T
/-- an entry of the changes -/
def gE (I : m_I) (T k : Nat) : Prop := I 44 0 k = I 20 0 k ∧ I 45 0 k = I 21 0 k ∧ I 46 0 k = I 22 0 k ∧ I 47 0 k = I 23 0 k ∧ ∃ a b, I 20 0 k = nI a ∧ I 21 0 k = nI b ∧ a < 8 ∧ b < slN T a ∧ lt' (I 22 0 k) (mxN a) ∧ lt' (I 23 0 k) (mxN a)
def gC (I : m_I) (T dn kp : Nat) : Prop := dn ≤ kp ∧ kp ≤ 40 ∧ I 19 0 4 = nI dn ∧ I 19 0 5 = nI kp ∧ I 35 0 14 = nI dn ∧ I 35 0 15 = nI (kp - dn) ∧ ∀ k, k < kp → gE I T k
/-- a tree of the image -/
def gJ (I : m_I) (t : Nat) : Prop := I 60 0 t = I 25 0 t ∧ I 61 0 t = I 26 0 t ∧ I 62 0 t = I 27 0 t ∧ I 63 0 t = I 28 0 t ∧ lt' (I 25 0 t) 10 ∧ lt' (I 26 0 t) 10 ∧ lt' (I 27 0 t) 2
def gI (I : m_I) (T : Nat) : Prop := (I 24 0 4 = 0 ∧ I 35 0 39 = -1) ∨ ∃ n, n ≤ T ∧ I 24 0 4 = 1 ∧ I 24 0 5 = nI n ∧ I 35 0 39 = nI n ∧ I 35 0 40 = I 24 0 6 ∧ ∀ t, t < n → gJ I t
def gB (I : m_I) (bn rn : Nat) : Prop := bn ≤ 50 ∧ I 29 0 2 = nI bn ∧ I 35 0 45 = nI bn ∧ (∀ b, b < bn → I 64 0 b = I 30 0 b ∧ lt' (I 30 0 b) 8) ∧ rn < 1000 ∧ I 29 0 3 = nI rn ∧ I 35 0 47 = nI rn ∧ ∀ i, i < rn → i < 24 → I 65 0 i = I 31 0 i
/-- a byte as a long -/
def byL (x : Int64) : Prop := -128 ≤ x.toInt ∧ x.toInt ≤ 127
/-- one shelf -/
def gS1 (I : m_I) (L : m_L) (bn s : Nat) (x : sH) (z : Nat) : Prop := z ≤ 60 ∧ I 33 s 1 = hbI x ∧ I 33 s 2 = rsI x ∧ I 33 s 3 = nI z ∧ I 66 0 s = hoI x ∧ (∀ k, x = some (.inr k) → k < 5 ∧ I 67 0 s = nI z ∧ (∀ j, j < 60 → L 68 0 (60 * s + j) = L 34 s j) ∧ (k = 0 → ∀ j, j < 60 → byL (L 34 s j))) ∧ ∀ b, x = some (.inl b) → b < bn
def gS (I : m_I) (L : m_L) (bn : Nat) : Prop := ∀ s, s < 6 → ∃ x z, gS1 I L bn s x z
/-- the group of a cell: 0 scratch, 1 forest, 2 changes, 3 image, 4 bodies, 5 shelves, 6 tape and law, 7 what never changes -/
def gp (k j : Nat) : Nat :=
  if sc k 0 j then 0
  else if k == 35 then (if j == 1 || j == 8 || j == 9 || j == 12 || j == 13 then 1 else if j == 14 || j == 15 then 2 else if j == 39 || j == 40 then 3 else if j == 45 || j == 47 then 4 else if j == 22 || j == 34 then 6 else 7)
  else if k == 1 || k == 3 || k == 4 || k == 6 || (36 ≤ k && k ≤ 43) then 1
  else if (19 ≤ k && k ≤ 23) || (44 ≤ k && k ≤ 47) then 2
  else if (24 ≤ k && k ≤ 28) || (60 ≤ k && k ≤ 63) then 3
  else if (29 ≤ k && k ≤ 31) || k == 64 || k == 65 then 4
  else if k == 33 || k == 66 || k == 67 then 5
  else if k == 7 || k == 8 || k == 10 || (49 ≤ k && k ≤ 54) then 6
  else 7
/-- the cells of a group are as before -/
def Qg (g : Nat) (I I' : m_I) : Prop := ∀ k i j, gp k j = g → I' k i j = I k i j
theorem Qg_rf {g : Nat} {I : m_I} : Qg g I I := fun _ _ _ _ => rfl
theorem Qg_tr {g : Nat} {I I' I'' : m_I} (h : Qg g I I') (h' : Qg g I' I'') : Qg g I I'' := fun k i j e => (h' k i j e).trans (h k i j e)
theorem Qg_ui {g : Nat} {I I' : m_I} {k i j : Nat} {v : Int32} (h : Qg g I I') (hg : gp k j ≠ g) : Qg g I (ui I' k i j v) := fun a b c e => by
  have hne : ¬ (a = k ∧ b = i ∧ c = j) := fun z => by obtain ⟨rfl, rfl, rfl⟩ := z; exact hg e
  unfold ui
  by_cases h1 : a = k
  · by_cases h2 : b = i
    · by_cases h3 : c = j
      · exact absurd ⟨h1, h2, h3⟩ hne
      · rw [if_pos h1, if_pos h2, if_neg h3]; exact h a b c e
    · rw [if_pos h1, if_neg h2]; exact h a b c e
  · rw [if_neg h1]; exact h a b c e
theorem gp_sc {k i j : Nat} (h : sc k i j = true) : gp k j = 0 := by
  have : sc k 0 j = true := h
  unfold gp; rw [if_pos this]
theorem Qg_scr {g : Nat} {I I' : m_I} {L L' : m_L} (h : Scr I L I' L') (hg : g ≠ 0) : Qg g I I' := fun k i j e => by
  apply h.1
  cases hs : sc k i j with
  | false => rfl
  | true => rw [gp_sc hs] at e; exact absurd e.symm hg
theorem gV_Q {I I' : m_I} {T : Nat} (h : gV I T) (q : Qg 1 I I') : gV I' T := fun k t hk ht => by
  have e : mv I' k t = mv I k t := by
    unfold mv; split
    · exact q 36 0 t rfl
    · exact q 37 0 t rfl
    · exact q 38 0 t rfl
    · exact q 39 0 t rfl
    · exact q 42 0 t rfl
    · exact q 43 0 t rfl
    · exact q 35 0 12 rfl
    · exact q 35 0 13 rfl
  rw [e, q 3 k t rfl]; exact h k t hk ht
theorem gH_Q {I I' : m_I} {T : Nat} (h : gH I T) (q : Qg 1 I I') : gH I' T := by
  obtain ⟨h1, h2, h3, h4, h5⟩ := h
  refine ⟨fun t ht => ?_, fun t h8 ht => ?_, ?_, ?_, ?_⟩
  · rw [q 41 0 t rfl, q 6 0 t rfl]; exact h1 t ht
  · rw [q 6 0 t rfl]; exact h2 t h8 ht
  · rw [q 35 0 8 rfl, q 1 0 5 rfl]; exact h3
  · rw [q 1 0 5 rfl]; exact h4
  · rw [q 35 0 9 rfl, q 1 0 6 rfl]; exact h5
theorem iF_Q {I I' : m_I} {T : Nat} {nb : Nat → Nat} (h : iF I T nb) (q : Qg 1 I I') : iF I' T nb := ⟨by rw [q 1 0 4 rfl]; exact h.1, h.2.1, fun t ht => by rw [q 4 0 t rfl]; exact h.2.2.1 t ht, h.2.2.2⟩
theorem jF_Q {I I' : m_I} {T : Nat} {nb : Nat → Nat} (h : jF I T nb) (q : Qg 1 I I') : jF I' T nb := ⟨by rw [q 35 0 1 rfl]; exact h.1, h.2.1, fun t ht => by rw [q 40 0 t rfl]; exact h.2.2.1 t ht, h.2.2.2⟩
theorem gF_Q {I I' : m_I} {T : Nat} {nb : Nat → Nat} (h : gF I T nb) (q : Qg 1 I I') : gF I' T nb := ⟨iF_Q h.1 q, jF_Q h.2.1 q, h.2.2.1, gV_Q h.2.2.2.1 q, gH_Q h.2.2.2.2 q⟩
theorem gE_Q {I I' : m_I} {T k : Nat} (h : gE I T k) (q : Qg 2 I I') : gE I' T k := by
  unfold gE
  rw [q 20 0 k rfl, q 21 0 k rfl, q 22 0 k rfl, q 23 0 k rfl, q 44 0 k rfl, q 45 0 k rfl, q 46 0 k rfl, q 47 0 k rfl]; exact h
theorem gC_Q {I I' : m_I} {T dn kp : Nat} (h : gC I T dn kp) (q : Qg 2 I I') : gC I' T dn kp := by
  obtain ⟨h1, h2, h3, h4, h5, h6, h7⟩ := h
  exact ⟨h1, h2, by rw [q 19 0 4 rfl]; exact h3, by rw [q 19 0 5 rfl]; exact h4, by rw [q 35 0 14 rfl]; exact h5, by rw [q 35 0 15 rfl]; exact h6, fun k hk => gE_Q (h7 k hk) q⟩
theorem gI_Q {I I' : m_I} {T : Nat} (h : gI I T) (q : Qg 3 I I') : gI I' T := by
  unfold gI gJ at h ⊢
  simp only [q 24 0 4 rfl, q 24 0 5 rfl, q 24 0 6 rfl, q 35 0 39 rfl, q 35 0 40 rfl, q 25 0 _ rfl, q 26 0 _ rfl, q 27 0 _ rfl, q 28 0 _ rfl, q 60 0 _ rfl, q 61 0 _ rfl, q 62 0 _ rfl, q 63 0 _ rfl]
  exact h
theorem gB_Q {I I' : m_I} {bn rn : Nat} (h : gB I bn rn) (q : Qg 4 I I') : gB I' bn rn := by
  unfold gB at h ⊢
  simp only [q 29 0 2 rfl, q 29 0 3 rfl, q 35 0 45 rfl, q 35 0 47 rfl, q 64 0 _ rfl, q 30 0 _ rfl, q 65 0 _ rfl, q 31 0 _ rfl]
  exact h
/-- the longs of the shelves are as before -/
def Ql (L L' : m_L) : Prop := ∀ k i j, scl k = false → L' k i j = L k i j
theorem Ql_rf {L : m_L} : Ql L L := fun _ _ _ _ => rfl
theorem gS1_Q {I I' : m_I} {L L' : m_L} {bn s z : Nat} {x : sH} (h : gS1 I L bn s x z) (q : Qg 5 I I') (ql : Ql L L') : gS1 I' L' bn s x z := by
  unfold gS1 at h ⊢
  simp only [q 33 s 1 rfl, q 33 s 2 rfl, q 33 s 3 rfl, q 66 0 s rfl, q 67 0 s rfl, ql 34 s _ rfl, ql 68 0 _ rfl]
  exact h
theorem gS_Q {I I' : m_I} {L L' : m_L} {bn : Nat} (h : gS I L bn) (q : Qg 5 I I') (ql : Ql L L') : gS I' L' bn := fun s hs => by
  obtain ⟨x, z, h1⟩ := h s hs
  exact ⟨x, z, gS1_Q h1 q ql⟩
