/-! NUMBERS: what the rules' conditions need -/
theorem ti_lt (a b : Int32) : a < b ↔ a.toInt < b.toInt := Int32.lt_iff_toInt_lt
theorem ti_le (a b : Int32) : a ≤ b ↔ a.toInt ≤ b.toInt := Int32.le_iff_toInt_le
theorem ti_eq (a b : Int32) : a = b ↔ a.toInt = b.toInt := Int32.toInt_inj.symm
theorem ti_nI {n : Nat} (h : n < 2147483648) : (nI n).toInt = (n : Int) := nI_toInt h
theorem ti_tn {n : Nat} (h : n < 2147483648) : tn (nI n) = n := nI_clamp h
theorem ti_in {n N : Nat} (h : n < N) (hN : N < 2147483648) : vp_in (nI n) N := vp_in_nI h hN
theorem nlt {a b : Nat} (ha : a < 2147483648) (hb : b < 2147483648) : nI a < nI b ↔ a < b := nI_ltI ha hb
theorem nle {a b : Nat} (ha : a < 2147483648) (hb : b < 2147483648) : nI a ≤ nI b ↔ a ≤ b := nI_leI ha hb
theorem neq {a b : Nat} (ha : a < 2147483648) (hb : b < 2147483648) : nI a = nI b ↔ a = b := nI_eq ha hb
/-- an int against a bound: below 0, not below the bound, or one of the numbers -/
theorem ix (x : Int32) (n : Nat) (hn : n < 2147483648) : x < 0 ∨ nI n ≤ x ∨ ∃ j : Nat, j < n ∧ x = nI j := pk_ix x hn
theorem nofI (n : Nat) : Int32.ofNat n = nI n := rfl
theorem test_a {t T : Nat} (h : t < T) (hT : T ≤ 8) : ¬ (nI T ≤ nI t) ∧ ¬ (nI t < 0) := by
  constructor
  · rw [nle (by omega) (by omega)]; omega
  · rw [ti_lt, ti_nI (by omega)]; simp; 
theorem test_b (x : Int32) (h : x < 5) (h2 : ¬ x < 0) : x ≤ 7 := by
  simp only [ti_lt, ti_le, Int32.reduceToInt] at *
  omega
def hasV (n x : Int32) : Int32 := if x < 0 then 0 else if n ≤ x then 0 else 1
theorem test_c {P : bt_PT} {d : Nat} {f : Int32 → m_I → m_L → Prop} {I : m_I} {L : m_L} {a1 : Int32} (h : f (hasV (I 1 0 4) a1) I L) : bt_WP P (d + 1) mi_Fo_has [vr 1 0, vi a1] (I, L) (kI f) := by
  refine ru_Fo_has ?_
  unfold hasV at h
  split at h
  · simp_all
  · split at h <;> simp_all
