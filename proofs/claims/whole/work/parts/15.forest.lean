/-! THE CLASS, 1: Forest, but for its searches -/
theorem sp_has {P : bt_PT} {d : Nat} {f : Int32 → m_I → m_L → Prop} {I : m_I} {L : m_L} {T : Nat} {x : Int32} (hT : I 1 0 4 = nI T) (h : f (bP (¬ oob x T)) I L) : bt_WP P (d + 1) mi_Fo_has [vr 1 0, vi x] (I, L) (kI f) := by
  refine ru_Fo_has ?_
  rw [hT]
  exact ⟨fun h1 => ⟨z01, bP_ff h (fun z => z (oobL h1))⟩, fun h1 => ⟨fun h2 => ⟨z01, bP_ff h (fun z => z (oobR h2))⟩, fun h2 => ⟨o01, bP_ft h (fun z => z.elim h1 h2)⟩⟩⟩
theorem sp_has_in {P : bt_PT} {d : Nat} {f : Int32 → m_I → m_L → Prop} {I : m_I} {L : m_L} {T t : Nat} (hT : I 1 0 4 = nI T) (hT8 : T ≤ 8) (ht : t < T) (h : f 1 I L) : bt_WP P (d + 1) mi_Fo_has [vr 1 0, vi (nI t)] (I, L) (kI f) :=
  sp_has hT (by rw [bP_t (n_oob ht (by omega))]; exact h)
/-- how many numbers there are for what mend() names -/
def slN (T w : Nat) : Nat := if w < 4 then T else if w = 4 then 24 else if w = 5 then 4 else 1
theorem sp_slots {P : bt_PT} {d : Nat} {f : Int32 → m_I → m_L → Prop} {I : m_I} {L : m_L} {T w : Nat} (hT : I 1 0 4 = nI T) (hw : w < 8) (h : f (nI (slN T w)) I L) : bt_WP P (d + 1) mi_Fo_slots [vr 1 0, vi (nI w)] (I, L) (kI f) := by
  refine ru_Fo_slots ?_
  rw [hT]
  have hc : w = 0 ∨ w = 1 ∨ w = 2 ∨ w = 3 ∨ w = 4 ∨ w = 5 ∨ w = 6 ∨ w = 7 := by omega
  rcases hc with rfl | rfl | rfl | rfl | rfl | rfl | rfl | rfl <;> (repeat (first | exact ⟨fun _ => h, fun z => absurd rfl z⟩ | refine ⟨fun z => absurd z (by decide), fun _ => ?_⟩))
theorem sp_slots_out {P : bt_PT} {d : Nat} {f : Int32 → m_I → m_L → Prop} {I : m_I} {L : m_L} {x : Int32} (hx : oob x 8) (h : f 0 I L) : bt_WP P (d + 1) mi_Fo_slots [vr 1 0, vi x] (I, L) (kI f) := by
  refine ru_Fo_slots ?_
  have hn : ∀ w, w < 8 → ¬ x = nI w := fun w hw e => n_oob hw (by omega) (e ▸ hx)
  exact ⟨fun e => absurd e (hn 0 (by omega)), fun _ => ⟨fun e => absurd e (hn 1 (by omega)), fun _ => ⟨fun e => absurd e (hn 2 (by omega)), fun _ => ⟨fun e => absurd e (hn 3 (by omega)), fun _ => ⟨fun e => absurd e (hn 4 (by omega)), fun _ => ⟨fun e => absurd e (hn 5 (by omega)), fun _ => ⟨fun e => absurd e (hn 6 (by omega)), fun _ => ⟨fun e => absurd e (hn 7 (by omega)), fun _ => h⟩⟩⟩⟩⟩⟩⟩⟩
theorem slN_le {T w : Nat} (h : T ≤ 8) : slN T w ≤ 24 := by unfold slN; split <;> (try split) <;> (try split) <;> omega
theorem sp_isSlot {P : bt_PT} {d : Nat} {f : Int32 → m_I → m_L → Prop} {I : m_I} {L : m_L} {T w : Nat} {x : Int32} (hT : I 1 0 4 = nI T) (hw : w < 8) (h : f (bP (¬ oob x (slN T w))) I L) : bt_WP P (d + 2) mi_Fo_isSlot [vr 1 0, vi (nI w), vi x] (I, L) (kI f) := by
  refine ru_Fo_isSlot ⟨fun h1 => ⟨z01, bP_ff h (fun z => z (oobL h1))⟩, fun h1 => sp_slots hT hw ?_⟩
  exact ⟨fun h2 => ⟨z01, bP_ff h (fun z => z (oobR h2))⟩, fun h2 => ⟨o01, bP_ft h (fun z => z.elim h1 h2)⟩⟩
theorem sp_isSlot_out {P : bt_PT} {d : Nat} {f : Int32 → m_I → m_L → Prop} {I : m_I} {L : m_L} {w x : Int32} (hw : oob w 8) (h : f 0 I L) : bt_WP P (d + 2) mi_Fo_isSlot [vr 1 0, vi w, vi x] (I, L) (kI f) := by
  refine ru_Fo_isSlot ⟨fun h1 => ⟨z01, h⟩, fun h1 => sp_slots_out hw ?_⟩
  exact ⟨fun h2 => ⟨z01, h⟩, fun h2 => absurd (Int32.not_lt.mp h1) h2⟩
theorem sp_get {P : bt_PT} {d : Nat} {f : Int32 → m_I → m_L → Prop} {I : m_I} {L : m_L} {T w t : Nat} (hT : I 1 0 4 = nI T) (hT8 : T ≤ 8) (hw : w < 8) (ht : t < slN T w) (h : f (I 3 w t) I L) : bt_WP P (d + 3) mi_Fo_get [vr 1 0, vi (nI w), vi (nI t)] (I, L) (kI f) := by
  have h24 := slN_le (w := w) hT8
  refine ru_Fo_get (sp_isSlot hT hw ?_)
  rw [bP_t (n_oob ht (by omega))]
  refine ⟨fun e => absurd e (by decide), fun _ => ⟨ti_in (by omega) (by omega), ti_in (by omega) (by omega), ?_⟩⟩
  rw [ti_tn (by omega), ti_tn (by omega)]
  exact h
theorem sp_get_out {P : bt_PT} {d : Nat} {f : Int32 → m_I → m_L → Prop} {I : m_I} {L : m_L} {T w : Nat} {x : Int32} (hT : I 1 0 4 = nI T) (hw : w < 8) (hx : oob x (slN T w)) (h : f 0 I L) : bt_WP P (d + 3) mi_Fo_get [vr 1 0, vi (nI w), vi x] (I, L) (kI f) := by
  refine ru_Fo_get (sp_isSlot hT hw ?_)
  rw [bP_f (fun z => z hx)]
  exact ⟨fun _ => h, fun e => absurd rfl e⟩
theorem sp_set {P : bt_PT} {d : Nat} {f : m_I → m_L → Prop} {I : m_I} {L : m_L} {T w t : Nat} {v : Int32} (hT : I 1 0 4 = nI T) (hT8 : T ≤ 8) (hw : w < 8) (ht : t < slN T w) (h : f (ui I 3 w t v) L) : bt_WP P (d + 3) mi_Fo_set [vr 1 0, vi (nI w), vi (nI t), vi v] (I, L) (kV f) := by
  have h24 := slN_le (w := w) hT8
  refine ru_Fo_set (sp_isSlot hT hw ?_)
  rw [bP_t (n_oob ht (by omega))]
  refine ⟨fun e => absurd e (by decide), fun _ => ⟨ti_in (by omega) (by omega), ti_in (by omega) (by omega), ?_⟩⟩
  rw [ti_tn (by omega), ti_tn (by omega)]
  exact h
/-- what mend() lets a thing be -/
def mxN (w : Nat) : Nat := if w = 3 then 2 else if w = 7 then 8 else 10
theorem sp_mayBe {P : bt_PT} {d : Nat} {f : Int32 → m_I → m_L → Prop} {I : m_I} {L : m_L} {w : Nat} {v : Int32} (hw : w < 8) (h : f (bP (¬ oob v (mxN w))) I L) : bt_WP P (d + 1) mi_Fo_mayBe [vr 1 0, vi (nI w), vi v] (I, L) (kI f) := by
  refine ru_Fo_mayBe ⟨fun h1 => absurd h1 (n_neg (by omega)), fun _ => ⟨fun h1 => absurd h1 (by rw [show Int32.ofNat 8 = nI 8 from rfl, nle (by omega) (by omega)]; omega), fun _ => ⟨fun h1 => ⟨z01, bP_ff h (fun z => z (oobL h1))⟩, fun h1 => ⟨ti_in hw (by omega), ?_⟩⟩⟩⟩
  rw [ti_tn (by omega)]
  have hv : ∀ w, w < 8 → bt_SV 0 w = nI (mxN w - 1) ∧ 0 < mxN w ∧ mxN w ≤ 10 := by decide +kernel
  obtain ⟨e1, e2, e3⟩ := hv w hw
  rw [e1]
  have key : nI (mxN w) ≤ v ↔ nI (mxN w - 1) < v := by
    rw [ti_le, ti_lt, ti_nI (by omega), ti_nI (by omega)]; omega
  exact ⟨fun h2 => ⟨z01, bP_ff h (fun z => z (oobR (key.mpr h2)))⟩, fun h2 => ⟨o01, bP_ft h (fun z => z.elim h1 (fun q => h2 (key.mp q)))⟩⟩
theorem sp_mayBe_out {P : bt_PT} {d : Nat} {f : Int32 → m_I → m_L → Prop} {I : m_I} {L : m_L} {w v : Int32} (hw : oob w 8) (h : f 0 I L) : bt_WP P (d + 1) mi_Fo_mayBe [vr 1 0, vi w, vi v] (I, L) (kI f) := by
  refine ru_Fo_mayBe ⟨fun h1 => ⟨z01, h⟩, fun h1 => ⟨fun h2 => ⟨z01, h⟩, fun h2 => ?_⟩⟩
  exact absurd hw (fun z => z.elim h1 h2)
/-- the forest's shape: T trees, nb t the neighbours' bits -/
def iF (I : m_I) (T : Nat) (nb : Nat → Nat) : Prop := I 1 0 4 = nI T ∧ T ≤ 8 ∧ (∀ t, t < 8 → I 4 0 t = nI (nb t) ∧ nb t < 2 ^ T) ∧ ∀ t, T ≤ t → nb t = 0
theorem iF_lt {I : m_I} {T : Nat} {nb : Nat → Nat} (h : iF I T nb) (t : Nat) : nb t < 256 := by
  rcases Nat.lt_or_ge t 8 with q | q
  · have h1 := (h.2.2.1 t q).2
    have h2 : 2 ^ T ≤ 2 ^ 8 := Nat.pow_le_pow_right (by omega) h.2.1
    have : 2 ^ 8 = 256 := rfl
    omega
  · rw [h.2.2.2 t (by have := h.2.1; omega)]; omega
theorem sp_all {P : bt_PT} {d : Nat} {f : Int32 → m_I → m_L → Prop} {I : m_I} {L : m_L} {T : Nat} (hT : I 1 0 4 = nI T) (hT8 : T ≤ 8) (h : f (nI (2 ^ T - 1)) I L) : bt_WP P (d + 1) mi_Fo_all [vr 1 0] (I, L) (kI f) := by
  refine ru_Fo_all ?_
  rw [hT, nI_one (by omega), show (1 : Int32) = nI 1 from rfl, pk_sub (Nat.one_le_two_pow)]
  exact h
theorem sp_around {P : bt_PT} {d : Nat} {f : Int32 → m_I → m_L → Prop} {I : m_I} {L : m_L} {T t : Nat} {nb : Nat → Nat} (hF : iF I T nb) (ht : t < T) (h : f (nI (nb t ||| 2 ^ t)) I L) : bt_WP P (d + 2) mi_Fo_around [vr 1 0, vi (nI t)] (I, L) (kI f) := by
  have hT8 := hF.2.1
  refine ru_Fo_around (sp_has_in hF.1 hT8 ht ⟨fun e => absurd e (by decide), fun _ => ⟨ti_in (by omega) (by omega), ?_⟩⟩)
  rw [ti_tn (by omega), (hF.2.2.1 t (by omega)).1, nI_one (by omega), nI_or]
  exact h
theorem sp_heardOf {P : bt_PT} {d : Nat} {f : Int32 → m_I → m_L → Prop} {I : m_I} {L : m_L} {T t : Nat} (hT : I 1 0 4 = nI T) (hT8 : T ≤ 8) (ht : t < T) (h : f (I 6 0 t) I L) : bt_WP P (d + 2) mi_Fo_heardOf [vr 1 0, vi (nI t)] (I, L) (kI f) := by
  refine ru_Fo_heardOf (sp_has_in hT hT8 ht ⟨fun e => absurd e (by decide), fun _ => ⟨ti_in (by omega) (by omega), ?_⟩⟩)
  rw [ti_tn (by omega)]; exact h
theorem sp_heardOf_out {P : bt_PT} {d : Nat} {f : Int32 → m_I → m_L → Prop} {I : m_I} {L : m_L} {T : Nat} {x : Int32} (hT : I 1 0 4 = nI T) (hx : oob x T) (h : f 0 I L) : bt_WP P (d + 2) mi_Fo_heardOf [vr 1 0, vi x] (I, L) (kI f) :=
  ru_Fo_heardOf (sp_has hT (by rw [bP_f (fun z => z hx)]; exact ⟨fun _ => h, fun e => absurd rfl e⟩))
theorem sp_setHeard {P : bt_PT} {d : Nat} {f : m_I → m_L → Prop} {I : m_I} {L : m_L} {T t : Nat} {v : Int32} (hT : I 1 0 4 = nI T) (hT8 : T ≤ 8) (ht : t < T) (h : f (ui I 6 0 t v) L) : bt_WP P (d + 2) mi_Fo_setHeard [vr 1 0, vi (nI t), vi v] (I, L) (kV f) := by
  refine ru_Fo_setHeard (sp_has_in hT hT8 ht ⟨fun e => absurd e (by decide), fun _ => ⟨ti_in (by omega) (by omega), ?_⟩⟩)
  rw [ti_tn (by omega)]; exact h
theorem sp_setHeard_out {P : bt_PT} {d : Nat} {f : m_I → m_L → Prop} {I : m_I} {L : m_L} {T : Nat} {x v : Int32} (hT : I 1 0 4 = nI T) (hx : oob x T) (h : f I L) : bt_WP P (d + 2) mi_Fo_setHeard [vr 1 0, vi x, vi v] (I, L) (kV f) :=
  ru_Fo_setHeard (sp_has hT (by rw [bP_f (fun z => z hx)]; exact ⟨fun _ => h, fun e => absurd rfl e⟩))
theorem sp_addHeard {P : bt_PT} {d : Nat} {f : m_I → m_L → Prop} {I : m_I} {L : m_L} {T t : Nat} (hT : I 1 0 4 = nI T) (hT8 : T ≤ 8) (ht : t < T) (h : f (ui I 6 0 t (I 6 0 t + 1)) L) : bt_WP P (d + 3) mi_Fo_addHeard [vr 1 0, vi (nI t)] (I, L) (kV f) :=
  ru_Fo_addHeard (sp_heardOf hT hT8 ht (sp_setHeard hT hT8 ht h))
theorem sp_farMeasured {P : bt_PT} {d : Nat} {f : Int32 → m_I → m_L → Prop} {I : m_I} {L : m_L} {T t : Nat} (hT : I 1 0 4 = nI T) (hT8 : T ≤ 8) (ht : t < T) (h : f (I 5 0 t) I L) : bt_WP P (d + 2) mi_Fo_farMeasured [vr 1 0, vi (nI t)] (I, L) (kI f) := by
  refine ru_Fo_farMeasured (sp_has_in hT hT8 ht ⟨fun e => absurd e (by decide), fun _ => ⟨ti_in (by omega) (by omega), ?_⟩⟩)
  rw [ti_tn (by omega)]; exact h
theorem sp_farMeasured_out {P : bt_PT} {d : Nat} {f : Int32 → m_I → m_L → Prop} {I : m_I} {L : m_L} {T : Nat} {x : Int32} (hT : I 1 0 4 = nI T) (hx : oob x T) (h : f 9 I L) : bt_WP P (d + 2) mi_Fo_farMeasured [vr 1 0, vi x] (I, L) (kI f) :=
  ru_Fo_farMeasured (sp_has hT (by rw [bP_f (fun z => z hx)]; exact ⟨fun _ => h, fun e => absurd rfl e⟩))
theorem sp_rings {P : bt_PT} {d : Nat} {f : Int32 → m_I → m_L → Prop} {I : m_I} {L : m_L} {T t k : Nat} (hT : I 1 0 4 = nI T) (hT8 : T ≤ 8) (ht : t < T) (hk : k < 4) (h : f (bP (I 3 3 t = 1 ∧ I 3 2 t ≤ I 3 5 k)) I L) : bt_WP P (d + 4) mi_Fo_rings [vr 1 0, vi (nI k), vi (nI t)] (I, L) (kI f) := by
  refine ru_Fo_rings (sp_get (w := 3) hT hT8 (by omega) (by simpa [slN] using ht) ⟨fun h1 => ⟨z01, bP_ff h (fun z => h1 z.1)⟩, fun h1 => sp_get (w := 2) hT hT8 (by omega) (by simpa [slN] using ht) (sp_get (w := 5) hT hT8 (by omega) (by simpa [slN] using hk) ?_)⟩)
  exact ⟨fun h2 => ⟨z01, bP_ff h (fun z => absurd z.2 (Int32.not_le.mpr h2))⟩, fun h2 => ⟨o01, bP_ft h ⟨h1, Int32.not_lt.mp h2⟩⟩⟩
/-- the bells that are there, among the first trees -/
def thB (I : m_I) : Nat → Nat
  | 0 => 0
  | t + 1 => thB I t ||| (if I 3 3 t = 1 then 2 ^ t else 0)
theorem thB_lt {I : m_I} : ∀ t, t ≤ 8 → thB I t < 256
  | 0, _ => (by show 0 < 256; omega)
  | t + 1, h => by
    unfold thB
    refine or_lt256 (thB_lt t (by omega)) ?_
    split
    · exact pow_lt256 (T := t + 1) (by omega) h
    · omega
theorem sp_bells_4 {P : bt_PT} {d : Nat} {f : Int32 → m_I → m_L → Prop} {I : m_I} {L : m_L} {T : Nat} (hT : I 1 0 4 = nI T) (hT8 : T ≤ 8) (h01 : ∀ t, t < T → I 3 3 t = 0 ∨ I 3 3 t = 1) (h : f (nI (thB I T)) I L) : ∀ (n t : Nat), t + n = T → bt_Go P (d + 3) mi_Fo_bellsThere (kI f) 4 [some (vr 1 0), some (vi (nI (thB I t))), some (vi (nI t))] [] (I, L)
  | 0, t, e => by
    have e : t = T := by omega
    subst e
    refine ru_Fo_bellsThere_4 ⟨fun _ => h, fun z => absurd (by rw [hT]; exact (nle (by omega) (by omega)).mpr (Nat.le_refl _)) z⟩
  | n + 1, t, e => by
    refine ru_Fo_bellsThere_4 ⟨fun z => ?_, fun _ => sp_get (w := 3) hT hT8 (by omega) (by simp [slN]; omega) ?_⟩
    · rw [hT, nle (by omega) (by omega)] at z; omega
    · have ih := sp_bells_4 (P := P) (d := d) hT hT8 h01 h n (t + 1) (by omega)
      have e1 : nI (thB I t) ||| (I 3 3 t <<< (nI t &&& 31)) = nI (thB I (t + 1)) := by
        have hlt := thB_lt (I := I) t (by omega)
        have hp := pow_lt256 (t := t) (T := T) (by omega) hT8
        show _ = nI (thB I t ||| (if I 3 3 t = 1 then 2 ^ t else 0))
        rcases h01 t (by omega) with q | q
        · rw [q, if_neg (by decide), show (0 : Int32) = nI 0 from rfl, nI_shl (by omega) (by omega), Nat.zero_mul, nI_or]
        · rw [q, if_pos rfl, nI_one (by omega), nI_or]
      rw [e1, nI_s]
      exact ih
theorem sp_bellsThere {P : bt_PT} {d : Nat} {f : Int32 → m_I → m_L → Prop} {I : m_I} {L : m_L} {T : Nat} (hT : I 1 0 4 = nI T) (hT8 : T ≤ 8) (h01 : ∀ t, t < T → I 3 3 t = 0 ∨ I 3 3 t = 1) (h : f (nI (thB I T)) I L) : bt_WP P (d + 4) mi_Fo_bellsThere [vr 1 0] (I, L) (kI f) :=
  ru_Fo_bellsThere (sp_bells_4 hT hT8 h01 h T 0 (by omega))
