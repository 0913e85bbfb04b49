/-! SHELVES: both sides -/
theorem i_0 : (0 : Int32).toInt = 0 := rfl
theorem i_m1 : (-1 : Int32).toInt = -1 := rfl
theorem i_m2 : (-2 : Int32).toInt = -2 := rfl
theorem i_m3 : (-3 : Int32).toInt = -3 := rfl
theorem i_m5 : (-5 : Int32).toInt = -5 := rfl
theorem i_m11 : (-11 : Int32).toInt = -11 := rfl
theorem i_m12 : (-12 : Int32).toInt = -12 := rfl
theorem i_m13 : (-13 : Int32).toInt = -13 := rfl
theorem i_m14 : (-14 : Int32).toInt = -14 := rfl
theorem i_m100 : (-100 : Int32).toInt = -100 := rfl
theorem i_sub1 {n : Nat} (h : n < 2147483648) : (nI n - 1).toInt = (n : Int) - 1 := by
  cases n with
  | zero => decide
  | succ n => rw [nI_pred, ti_nI (by omega)]; omega
theorem i_sub {x y : Int32} (h1 : -2147483648 ≤ x.toInt - y.toInt) (h2 : x.toInt - y.toInt < 2147483648) : (x - y).toInt = x.toInt - y.toInt := by
  rw [Int32.toInt_sub, Int.bmod_eq_of_le (by omega) (by omega)]
theorem i_add {x y : Int32} (h1 : -2147483648 ≤ x.toInt + y.toInt) (h2 : x.toInt + y.toInt < 2147483648) : (x + y).toInt = x.toInt + y.toInt := by
  rw [Int32.toInt_add, Int.bmod_eq_of_le (by omega) (by omega)]
theorem i_ne1 {n : Nat} (h : n < 2147483648) : ¬ nI n = -1 := fun e => by
  have := congrArg Int32.toInt e
  rw [ti_nI h, i_m1] at this; omega
theorem i_m1n : (-1 : Int32) < 0 := by decide
theorem sp_sAo {P : bt_PT} {d : Nat} {f : Option (Nat × Nat) → m_I → m_L → Prop} {I : m_I} {L : m_L} {s : Int32} (hs : oob s 6) (h : f none I L) : bt_WP P (d + 1) mi_B_shelfAt [vr 0 0, vi s] (I, L) (kR f) :=
  ru_B_shelfAt ⟨fun _ => h, fun h1 => ⟨fun _ => h, fun h2 => absurd hs (fun z => z.elim h1 h2)⟩⟩
theorem sp_sA {P : bt_PT} {d : Nat} {f : Option (Nat × Nat) → m_I → m_L → Prop} {I : m_I} {L : m_L} {j : Nat} (hj : j < 6) (h : f (some (33, j)) I L) : bt_WP P (d + 1) mi_B_shelfAt [vr 0 0, vi (nI j)] (I, L) (kR f) :=
  ru_B_shelfAt ⟨fun h1 => absurd h1 (n_neg (by omega)), fun _ => ⟨fun h2 => absurd h2 (by rw [show Int32.ofNat 6 = nI 6 from rfl, nle (by omega) (by omega)]; omega), fun _ => ⟨ti_in (by omega) (by omega), by rw [ti_tn (by omega)]; exact h⟩⟩⟩
theorem sp_isEmpty {P : bt_PT} {d : Nat} {f : Int32 → m_I → m_L → Prop} {I : m_I} {L : m_L} {bn j z : Nat} {x : sH} (hS : gS1 I L bn j x z) (hb : bn ≤ 50) (h : f (bP (x = none)) I L) : bt_WP P (d + 1) mi_Sh_isEmpty [vr 33 j] (I, L) (kI f) := by
  refine ru_Sh_isEmpty ?_
  rw [hS.2.1, hS.2.2.1]
  rcases x with _ | b | k
  · exact ⟨(fun z => absurd z (by decide)), fun _ => ⟨(fun z => absurd rfl z), fun _ => ⟨o01, bP_ft h rfl⟩⟩⟩
  · have := hS.2.2.2.2.2.2 b rfl
    exact ⟨fun _ => ⟨z01, bP_ff h (fun e => by cases e)⟩, fun e => absurd e (fun q => q (Int32.not_lt.mp (n_neg (by omega))))⟩
  · have := (hS.2.2.2.2.2.1 k rfl).1
    exact ⟨fun e => absurd e (show ¬ (0 : Int32) ≤ -1 by decide), fun _ => ⟨fun _ => ⟨z01, bP_ff h (fun e => by cases e)⟩, fun e => absurd e (i_ne1 (by omega))⟩⟩
/-- it holds a row -/
def rowH (x : sH) : Prop := ∃ k, x = some (.inr k)
theorem sp_isRow {P : bt_PT} {d : Nat} {f : Int32 → m_I → m_L → Prop} {I : m_I} {L : m_L} {bn j z : Nat} {x : sH} (hS : gS1 I L bn j x z) (h : f (bP (rowH x)) I L) : bt_WP P (d + 1) mi_Sh_isRow [vr 33 j] (I, L) (kI f) := by
  refine ru_Sh_isRow ?_
  rw [hS.2.2.1]
  rcases x with _ | b | k
  · exact ⟨fun _ => ⟨z01, bP_ff h (fun e => by obtain ⟨k, e⟩ := e; cases e)⟩, (fun z => absurd rfl z)⟩
  · exact ⟨fun _ => ⟨z01, bP_ff h (fun e => by obtain ⟨k, e⟩ := e; cases e)⟩, (fun z => absurd rfl z)⟩
  · have := (hS.2.2.2.2.2.1 k rfl).1
    exact ⟨fun e => absurd e (i_ne1 (by omega)), fun _ => ⟨o01, bP_ft h ⟨k, rfl⟩⟩⟩
theorem sp_isBytes {P : bt_PT} {d : Nat} {f : Int32 → m_I → m_L → Prop} {I : m_I} {L : m_L} {bn j z : Nat} {x : sH} (hS : gS1 I L bn j x z) (h : f (bP (x = some (.inr 0))) I L) : bt_WP P (d + 1) mi_Sh_isBytes [vr 33 j] (I, L) (kI f) := by
  refine ru_Sh_isBytes ?_
  rw [hS.2.2.1]
  rcases x with _ | b | k
  · exact ⟨fun _ => ⟨z01, bP_ff h (fun e => by cases e)⟩, fun e => absurd e (show ¬ (-1 : Int32) = 0 by decide)⟩
  · exact ⟨fun _ => ⟨z01, bP_ff h (fun e => by cases e)⟩, fun e => absurd e (show ¬ (-1 : Int32) = 0 by decide)⟩
  · have := (hS.2.2.2.2.2.1 k rfl).1
    rcases Nat.eq_zero_or_pos k with q | q
    · subst q; exact ⟨fun e => absurd rfl e, fun _ => ⟨o01, bP_ft h rfl⟩⟩
    · exact ⟨fun _ => ⟨z01, bP_ff h (fun e => by cases e; omega)⟩, fun e => absurd ((neq (b := 0) (by omega) (by omega)).mp e) (by omega)⟩
/-- a stretch lies in a row of a size -/
def plN (z : Nat) (a n : Int32) : Prop := 0 ≤ a.toInt ∧ 0 ≤ n.toInt ∧ a.toInt + n.toInt ≤ z
theorem sp_hasPlaces {P : bt_PT} {d : Nat} {f : Int32 → m_I → m_L → Prop} {I : m_I} {L : m_L} {j z : Nat} {a n : Int32} (hz : I 33 j 3 = nI z) (h60 : z ≤ 60) (h : f (bP (plN z a n)) I L) : bt_WP P (d + 1) mi_Sh_hasPlaces [vr 33 j, vi a, vi n] (I, L) (kI f) := by
  refine ru_Sh_hasPlaces ?_
  rw [hz]
  refine ⟨fun h1 => ⟨z01, bP_ff h (fun q => ?_)⟩, fun h1 => ⟨fun h2 => ⟨z01, bP_ff h (fun q => ?_)⟩, fun h2 => ⟨fun h3 => ⟨z01, bP_ff h (fun q => ?_)⟩, fun h3 => ?_⟩⟩⟩
  · rw [ti_lt, i_0] at h1; have := q.1; omega
  · rw [ti_lt, i_0] at h2; have := q.2.1; omega
  · rw [ti_lt, ti_nI (by omega)] at h3; have := q.2.2; have := q.1; omega
  · rw [ti_lt, i_0] at h1 h2; rw [ti_lt, ti_nI (by omega)] at h3
    have e : (nI z - n).toInt = (z : Int) - n.toInt := by
      rw [i_sub (by rw [ti_nI (by omega)]; omega) (by rw [ti_nI (by omega)]; omega), ti_nI (by omega)]
    refine ⟨fun h4 => ⟨z01, bP_ff h (fun q => ?_)⟩, fun h4 => ⟨o01, bP_ft h ⟨by omega, by omega, ?_⟩⟩⟩
    · rw [ti_lt, e] at h4; have := q.2.2; omega
    · rw [ti_lt, e] at h4; omega
theorem pl_1 {z : Nat} (hz : z ≤ 60) {i : Int32} : plN z i 1 ↔ ¬ oob i z := by
  have e1 : (1 : Int32).toInt = 1 := rfl
  unfold plN oob
  rw [ti_lt, ti_le, ti_nI (by omega), e1, i_0]
  omega
theorem sp_read {P : bt_PT} {d : Nat} {f : Int64 → m_I → m_L → Prop} {I : m_I} {L : m_L} {j z : Nat} {i : Nat} (hz : I 33 j 3 = nI z) (h60 : z ≤ 60) (hi : i < z) (h : f (L 34 j i) I L) : bt_WP P (d + 2) mi_Sh_read [vr 33 j, vi (nI i)] (I, L) (kL f) :=
  ru_Sh_read (sp_hasPlaces hz h60 (by
    rw [bP_t ((pl_1 h60).mpr (n_oob hi (by omega)))]
    exact ⟨(fun z => absurd z (by decide)), fun _ => ⟨ti_in (by omega) (by omega), by rw [ti_tn (by omega)]; exact h⟩⟩))
theorem sp_at {P : bt_PT} {d : Nat} {f : Int32 → m_I → m_L → Prop} {I : m_I} {L : m_L} {j z : Nat} {i : Nat} (hz : I 33 j 3 = nI z) (h60 : z ≤ 60) (hi : i < z) (h : f (L 34 j i).toInt32 I L) : bt_WP P (d + 3) mi_Sh_at [vr 33 j, vi (nI i)] (I, L) (kI f) :=
  ru_Sh_at (sp_read hz h60 hi h)
theorem sp_minutes {P : bt_PT} {d : Nat} {f : Int32 → m_I → m_L → Prop} {I : m_I} {L : m_L} {j z : Nat} (hz : I 33 j 3 = nI z) (h60 : z ≤ 60) (h : f (nI (min 24 z)) I L) : bt_WP P (d + 1) mi_Sh_minutes [vr 33 j] (I, L) (kI f) := by
  refine ru_Sh_minutes ?_
  rw [hz]
  have e24 : (24 : Int32) < nI z ↔ 24 < z := nlt (a := 24) (by omega) (by omega)
  by_cases q : 24 < z
  · rw [if_pos (e24.mpr q)]; rw [Nat.min_eq_left (by omega)] at h; exact h
  · rw [if_neg (fun e => q (e24.mp e))]; rw [Nat.min_eq_right (by omega)] at h; exact h
/-- what the reference's holds tells -/
theorem ho_e {x : sH} {bn : Nat} (hb : bn ≤ 50) (h1 : ∀ k, x = some (.inr k) → k < 5) (h2 : ∀ b, x = some (.inl b) → b < bn) : hoI x = -1 ↔ x = none := by
  rcases x with _ | b | k
  · exact ⟨fun _ => rfl, fun _ => rfl⟩
  · have := h2 b rfl
    exact ⟨fun e => absurd e (i_ne1 (by omega)), fun e => by cases e⟩
  · have := h1 k rfl
    have hk : ∀ k, k < 5 → ¬ (-2 : Int32) - nI k = -1 := by decide +kernel
    exact ⟨fun e => absurd e (hk k this), fun e => by cases e⟩
theorem ho_r {x : sH} {bn : Nat} (hb : bn ≤ 50) (h1 : ∀ k, x = some (.inr k) → k < 5) (h2 : ∀ b, x = some (.inl b) → b < bn) (hx : ¬ x = none) : hoI x < 0 ↔ rowH x := by
  rcases x with _ | b | k
  · exact absurd rfl hx
  · have := h2 b rfl
    exact ⟨fun e => absurd e (n_neg (by omega)), fun e => by obtain ⟨k, e⟩ := e; cases e⟩
  · have := h1 k rfl
    have hk : ∀ k, k < 5 → (-2 : Int32) - nI k < 0 := by decide +kernel
    exact ⟨fun _ => ⟨k, rfl⟩, fun _ => hk k this⟩
