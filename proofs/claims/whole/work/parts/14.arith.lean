/-! NUMBERS: what the rules' conditions need -/
theorem ti_lt (a b : Int32) : a < b ↔ a.toInt < b.toInt := Int32.lt_iff_toInt_lt
theorem ti_le (a b : Int32) : a ≤ b ↔ a.toInt ≤ b.toInt := Int32.le_iff_toInt_le
theorem ti_eq (a b : Int32) : a = b ↔ a.toInt = b.toInt := Int32.toInt_inj.symm
theorem ti_nI {n : Nat} (h : n < 2147483648) : (nI n).toInt = (n : Int) := nI_toInt h
theorem ti_tn {n : Nat} (h : n < 2147483648) : tn (nI n) = n := nI_clamp h
theorem ti_in {n N : Nat} (h : n < N) (hN : N < 2147483648) : vp_in (nI n) N := vp_in_nI h hN
theorem nlt {a b : Nat} (ha : a < 2147483648) (hb : b < 2147483648) : nI a < nI b ↔ a < b := nI_ltI ha hb
theorem nle {a b : Nat} (ha : a < 2147483648) (hb : b < 2147483648) : nI a ≤ nI b ↔ a ≤ b := nI_leI ha hb
theorem neq {a b : Nat} (ha : a < 2147483648) (hb : b < 2147483648) : nI a = nI b ↔ a = b := nI_eq ha hb
/-- an int isn't one of the numbers below a bound -/
def oob (x : Int32) (n : Nat) : Prop := x < 0 ∨ nI n ≤ x
theorem ix (x : Int32) (n : Nat) (hn : n < 2147483648) : oob x n ∨ ∃ j : Nat, j < n ∧ x = nI j := by
  rcases pk_ix x hn with h | h | h
  · exact Or.inl (Or.inl h)
  · exact Or.inl (Or.inr h)
  · exact Or.inr h
theorem n_oob {t n : Nat} (h : t < n) (hn : n < 2147483648) : ¬ oob (nI t) n := by
  rintro (q | q)
  · exact nI_pos (by omega) q
  · rw [nle hn (by omega)] at q; omega
theorem n_neg {t : Nat} (h : t < 2147483648) : ¬ nI t < 0 := nI_pos h
theorem oobL {x : Int32} {n : Nat} (h : x < 0) : oob x n := Or.inl h
theorem oobR {x : Int32} {n : Nat} (h : nI n ≤ x) : oob x n := Or.inr h
/-- not below 0 and below a bound -/
theorem in_of {x : Int32} {n : Nat} (hn : n < 2147483648) (h1 : ¬ x < 0) (h2 : ¬ nI n ≤ x) : ∃ j : Nat, j < n ∧ x = nI j := by
  rcases ix x n hn with h | h
  · rcases h with h | h
    · exact absurd h h1
    · exact absurd h h2
  · exact h
/-- a truth as an int -/
noncomputable def bP (p : Prop) : Int32 := @ite Int32 p (Classical.propDecidable p) 1 0
theorem bP_t {p : Prop} (h : p) : bP p = 1 := by unfold bP; rw [if_pos h]
theorem bP_f {p : Prop} (h : ¬ p) : bP p = 0 := by unfold bP; rw [if_neg h]
theorem bP_0 {p : Prop} : bP p = 0 ↔ ¬ p := by
  by_cases h : p
  · rw [bP_t h]; exact ⟨fun e => absurd e (by decide), fun e => absurd h e⟩
  · rw [bP_f h]; exact ⟨fun _ => h, fun _ => rfl⟩
theorem bP_1 {p : Prop} : bP p = 1 ↔ p := by
  by_cases h : p
  · rw [bP_t h]; exact ⟨fun _ => h, fun _ => rfl⟩
  · rw [bP_f h]; exact ⟨fun e => absurd e (by decide), fun e => absurd e h⟩
theorem bP_01 (p : Prop) : bP p = 0 ∨ bP p = 1 := by
  by_cases h : p
  · exact Or.inr (bP_t h)
  · exact Or.inl (bP_f h)
theorem bP_c {p q : Prop} (h : p ↔ q) : bP p = bP q := by rw [propext h]
/-- the two branches of a test of a truth -/
theorem bP_br {p A B : Prop} (h0 : ¬ p → A) (h1 : p → B) : (bP p = 0 → A) ∧ (¬ bP p = 0 → B) := ⟨fun e => h0 (bP_0.mp e), fun e => h1 (Classical.byContradiction fun z => e (bP_f z))⟩
theorem bP_br' {p A B : Prop} (h1 : p → B) (h0 : ¬ p → A) : (¬ bP p = 0 → B) ∧ (bP p = 0 → A) := ⟨fun e => h1 (Classical.byContradiction fun z => e (bP_f z)), fun e => h0 (bP_0.mp e)⟩
theorem bP_ff {p : Prop} {f : Int32 → m_I → m_L → Prop} {I : m_I} {L : m_L} (h : f (bP p) I L) (hp : ¬ p) : f 0 I L := bP_f hp ▸ h
theorem bP_ft {p : Prop} {f : Int32 → m_I → m_L → Prop} {I : m_I} {L : m_L} (h : f (bP p) I L) (hp : p) : f 1 I L := bP_t hp ▸ h
theorem z01 : ((0 : Int32) = 0 ∨ (0 : Int32) = 1) := Or.inl rfl
theorem o01 : ((1 : Int32) = 0 ∨ (1 : Int32) = 1) := Or.inr rfl
-- memory
theorem ui_same (I : m_I) (k i j : Nat) (v : Int32) : ui I k i j v k i j = v := by simp [ui]
theorem ui_k {I : m_I} {k i j a b c : Nat} {v : Int32} (h : a ≠ k) : ui I k i j v a b c = I a b c := by simp [ui, h]
theorem ui_i {I : m_I} {k i j a b c : Nat} {v : Int32} (h : b ≠ i) : ui I k i j v a b c = I a b c := by
  unfold ui; by_cases h1 : a = k
  · rw [if_pos h1, if_neg h]
  · rw [if_neg h1]
theorem ui_j {I : m_I} {k i j a b c : Nat} {v : Int32} (h : c ≠ j) : ui I k i j v a b c = I a b c := by
  unfold ui; by_cases h1 : a = k
  · by_cases h2 : b = i
    · rw [if_pos h1, if_pos h2, if_neg h]
    · rw [if_pos h1, if_neg h2]
  · rw [if_neg h1]
theorem ul_same (I : m_L) (k i j : Nat) (v : Int64) : ul I k i j v k i j = v := by simp [ul]
theorem ul_k {I : m_L} {k i j a b c : Nat} {v : Int64} (h : a ≠ k) : ul I k i j v a b c = I a b c := by simp [ul, h]
/-- scratch: what no later call reads before it is written anew -/
def sc (k i j : Nat) : Bool := k == 5 || k == 9 || k == 11 || k == 14 || k == 15 || k == 18 || (k == 7 && (j == 5 || j == 6 || (8 ≤ j && j ≤ 14))) || (k == 29 && j == 4)
  || k == 48 || k == 55 || k == 56 || k == 59 || (k == 35 && (j == 23 || j == 24 || j == 25 || j == 26 || j == 38)) || ((k == 50 || k == 51) && 130 ≤ j) || (k == 52 && j == 1) || ((k == 53 || k == 54) && 61 ≤ j)
def scl (k : Nat) : Bool := k == 57 || k == 58 || k == 69
def Scr (I : m_I) (L : m_L) (I' : m_I) (L' : m_L) : Prop := (∀ k i j, sc k i j = false → I' k i j = I k i j) ∧ ∀ k i j, scl k = false → L' k i j = L k i j
theorem Scr_rf {I : m_I} {L : m_L} : Scr I L I L := ⟨fun _ _ _ _ => rfl, fun _ _ _ _ => rfl⟩
theorem Scr_tr {I I' I'' : m_I} {L L' L'' : m_L} (h : Scr I L I' L') (h' : Scr I' L' I'' L'') : Scr I L I'' L'' := ⟨fun k i j e => (h'.1 k i j e).trans (h.1 k i j e), fun k i j e => (h'.2 k i j e).trans (h.2 k i j e)⟩
theorem Scr_sy {I I' : m_I} {L L' : m_L} (h : Scr I L I' L') : Scr I' L' I L := ⟨fun k i j e => (h.1 k i j e).symm, fun k i j e => (h.2 k i j e).symm⟩
theorem Scr_ui {I I' : m_I} {L L' : m_L} {k i j : Nat} {v : Int32} (h : Scr I L I' L') (hs : sc k i j = true) : Scr I L (ui I' k i j v) L' := ⟨fun a b c e => by
  have hne : ¬ (a = k ∧ b = i ∧ c = j) := fun z => by obtain ⟨rfl, rfl, rfl⟩ := z; rw [hs] at e; cases e
  unfold ui
  by_cases h1 : a = k
  · by_cases h2 : b = i
    · by_cases h3 : c = j
      · exact absurd ⟨h1, h2, h3⟩ hne
      · rw [if_pos h1, if_pos h2, if_neg h3]; exact h.1 a b c e
    · rw [if_pos h1, if_neg h2]; exact h.1 a b c e
  · rw [if_neg h1]; exact h.1 a b c e, h.2⟩
theorem Scr_ul {I I' : m_I} {L L' : m_L} {k i j : Nat} {v : Int64} (h : Scr I L I' L') (hs : scl k = true) : Scr I L I' (ul L' k i j v) := ⟨h.1, fun a b c e => by
  have hne : a ≠ k := fun z => by subst z; rw [hs] at e; cases e
  rw [ul_k hne]; exact h.2 a b c e⟩
/-- the same update of both -/
theorem Scr_bo {I I' : m_I} {L L' : m_L} (k i j : Nat) (v : Int32) (h : Scr I L I' L') : Scr (ui I k i j v) L (ui I' k i j v) L' := ⟨fun a b c e => by
  unfold ui
  by_cases h1 : a = k
  · by_cases h2 : b = i
    · by_cases h3 : c = j
      · rw [if_pos h1, if_pos h2, if_pos h3, if_pos h1, if_pos h2, if_pos h3]
      · rw [if_pos h1, if_pos h2, if_neg h3, if_pos h1, if_pos h2, if_neg h3]; exact h.1 a b c e
    · rw [if_pos h1, if_neg h2, if_pos h1, if_neg h2]; exact h.1 a b c e
  · rw [if_neg h1, if_neg h1]; exact h.1 a b c e, h.2⟩
-- bits of small numbers
theorem s_l5 : ∀ n, n < 32 → ((nI n &&& 31).toBitVec.smod 32).toNat = n := by decide +kernel
theorem nI_bv (n : Nat) : (nI n).toBitVec = BitVec.ofNat 32 n := rfl
theorem nI_or (a b : Nat) : nI a ||| nI b = nI (a ||| b) := by
  apply Int32.toBitVec_inj.mp
  rw [Int32.toBitVec_or, nI_bv, nI_bv, nI_bv]
  apply BitVec.eq_of_getLsbD_eq
  intro i hi
  simp [hi]
theorem nI_and (a b : Nat) : nI a &&& nI b = nI (a &&& b) := by
  apply Int32.toBitVec_inj.mp
  rw [Int32.toBitVec_and, nI_bv, nI_bv, nI_bv]
  apply BitVec.eq_of_getLsbD_eq
  intro i hi
  simp [hi]
theorem nI_shl {a t : Nat} (ht : t < 31) (h : a * 2 ^ t < 4294967296) : nI a <<< (nI t &&& 31) = nI (a * 2 ^ t) := pk_shlN _ t (s_l5 t (by omega)) h
theorem nI_one {t : Nat} (ht : t < 31) : (1 : Int32) <<< (nI t &&& 31) = nI (2 ^ t) := by
  have h : 2 ^ t < 2 ^ 31 := Nat.pow_lt_pow_right (by omega) ht
  have h2 := nI_shl (a := 1) ht (by omega)
  rw [Nat.one_mul] at h2
  exact h2
theorem nI_shr {a t : Nat} (ht : t < 31) (h : a < 2147483648) : nI a >>> (nI t &&& 31) = nI (a / 2 ^ t) := pk_shrN h _ t (s_l5 t (by omega))
theorem nI_bit {a t : Nat} (ht : t < 31) (h : a < 2147483648) : (nI a >>> (nI t &&& 31)) &&& 1 = bP (a.testBit t = true) := by
  rw [nI_shr ht h, pk_andN (n := a / 2 ^ t) (by have := Nat.div_le_self a (2 ^ t); omega) 1 (by decide)]
  rw [Nat.testBit_eq_decide_div_mod_eq]
  rcases Nat.mod_two_eq_zero_or_one (a / 2 ^ t) with q | q
  · rw [show 2 ^ 1 = 2 from rfl, q, bP_f (by simp [q])]; rfl
  · rw [show 2 ^ 1 = 2 from rfl, q, bP_t (by simp [q])]; rfl
theorem nI_andn {a b : Nat} (ha : a < 256) (hb : b < 256) : nI a &&& (nI b ^^^ (-1)) = nI (a &&& (b ^^^ 255)) := by
  apply Int32.toBitVec_inj.mp
  rw [Int32.toBitVec_and, Int32.toBitVec_xor, nI_bv, nI_bv, nI_bv]
  have e : (-1 : Int32).toBitVec = BitVec.allOnes 32 := by decide
  rw [e]
  apply BitVec.eq_of_getLsbD_eq
  intro i hi
  have h255 : Nat.testBit 255 i = decide (i < 8) := by
    have := Nat.testBit_two_pow_sub_one 8 i
    simpa using this
  have hab : 8 ≤ i → a.testBit i = false := fun h => Nat.testBit_lt_two_pow (Nat.lt_of_lt_of_le ha (by
    have : 2 ^ 8 ≤ 2 ^ i := Nat.pow_le_pow_right (by omega) h
    exact this))
  simp only [BitVec.getLsbD_and, BitVec.getLsbD_xor, BitVec.getLsbD_ofNat, BitVec.getLsbD_allOnes, Nat.testBit_and, Nat.testBit_xor, h255, hi, decide_true, Bool.true_and]
  by_cases h8 : i < 8
  · rw [decide_eq_true h8]
  · rw [hab (by omega)]; rfl
theorem pow_lt256 {t T : Nat} (h : t < T) (hT : T ≤ 8) : 2 ^ t < 256 := by
  have h1 : 2 ^ t < 2 ^ 8 := Nat.pow_lt_pow_right (by omega) (by omega)
  exact h1
theorem or_lt256 {a b : Nat} (ha : a < 256) (hb : b < 256) : a ||| b < 256 := Nat.or_lt_two_pow (n := 8) ha hb
theorem and_lt256 {a b : Nat} (ha : a < 256) : a &&& b < 256 := Nat.lt_of_le_of_lt Nat.and_le_left ha
theorem nI_s (t : Nat) : nI t + 1 = nI (t + 1) := nI_1 t
