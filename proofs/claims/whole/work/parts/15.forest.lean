/-! THE CLASS, 1: Forest, but for its searches -/
theorem sp_has {P : bt_PT} {d : Nat} {f : Int32 → m_I → m_L → Prop} {I : m_I} {L : m_L} {T : Nat} {x : Int32} (hT : I 1 0 4 = nI T) (h : f (bP (¬ oob x T)) I L) : bt_WP P (d + 1) mi_Fo_has [vr 1 0, vi x] (I, L) (kI f) := by
  refine ru_Fo_has ?_
  rw [hT]
  exact ⟨fun h1 => ⟨z01, bP_ff h (fun z => z (oobL h1))⟩, fun h1 => ⟨fun h2 => ⟨z01, bP_ff h (fun z => z (oobR h2))⟩, fun h2 => ⟨o01, bP_ft h (fun z => z.elim h1 h2)⟩⟩⟩
theorem sp_has_in {P : bt_PT} {d : Nat} {f : Int32 → m_I → m_L → Prop} {I : m_I} {L : m_L} {T t : Nat} (hT : I 1 0 4 = nI T) (hT8 : T ≤ 8) (ht : t < T) (h : f 1 I L) : bt_WP P (d + 1) mi_Fo_has [vr 1 0, vi (nI t)] (I, L) (kI f) :=
  sp_has hT (by rw [bP_t (n_oob ht (by omega))]; exact h)
/-- how many numbers there are for what mend() names -/
def slN (T w : Nat) : Nat := if w < 4 then T else if w = 4 then 24 else if w = 5 then 4 else 1
theorem sp_slots {P : bt_PT} {d : Nat} {f : Int32 → m_I → m_L → Prop} {I : m_I} {L : m_L} {T w : Nat} (hT : I 1 0 4 = nI T) (hw : w < 8) (h : f (nI (slN T w)) I L) : bt_WP P (d + 1) mi_Fo_slots [vr 1 0, vi (nI w)] (I, L) (kI f) := by
  refine ru_Fo_slots ?_
  rw [hT]
  have hc : w = 0 ∨ w = 1 ∨ w = 2 ∨ w = 3 ∨ w = 4 ∨ w = 5 ∨ w = 6 ∨ w = 7 := by omega
  rcases hc with rfl | rfl | rfl | rfl | rfl | rfl | rfl | rfl <;> (repeat (first | exact ⟨fun _ => h, fun z => absurd rfl z⟩ | refine ⟨fun z => absurd z (by decide), fun _ => ?_⟩))
theorem sp_slots_out {P : bt_PT} {d : Nat} {f : Int32 → m_I → m_L → Prop} {I : m_I} {L : m_L} {x : Int32} (hx : oob x 8) (h : f 0 I L) : bt_WP P (d + 1) mi_Fo_slots [vr 1 0, vi x] (I, L) (kI f) := by
  refine ru_Fo_slots ?_
  have hn : ∀ w, w < 8 → ¬ x = nI w := fun w hw e => n_oob hw (by omega) (e ▸ hx)
  exact ⟨fun e => absurd e (hn 0 (by omega)), fun _ => ⟨fun e => absurd e (hn 1 (by omega)), fun _ => ⟨fun e => absurd e (hn 2 (by omega)), fun _ => ⟨fun e => absurd e (hn 3 (by omega)), fun _ => ⟨fun e => absurd e (hn 4 (by omega)), fun _ => ⟨fun e => absurd e (hn 5 (by omega)), fun _ => ⟨fun e => absurd e (hn 6 (by omega)), fun _ => ⟨fun e => absurd e (hn 7 (by omega)), fun _ => h⟩⟩⟩⟩⟩⟩⟩⟩
theorem slN_le {T w : Nat} (h : T ≤ 8) : slN T w ≤ 24 := by unfold slN; split <;> (try split) <;> (try split) <;> omega
theorem sp_isSlot {P : bt_PT} {d : Nat} {f : Int32 → m_I → m_L → Prop} {I : m_I} {L : m_L} {T w : Nat} {x : Int32} (hT : I 1 0 4 = nI T) (hw : w < 8) (h : f (bP (¬ oob x (slN T w))) I L) : bt_WP P (d + 2) mi_Fo_isSlot [vr 1 0, vi (nI w), vi x] (I, L) (kI f) := by
  refine ru_Fo_isSlot ⟨fun h1 => ⟨z01, bP_ff h (fun z => z (oobL h1))⟩, fun h1 => sp_slots hT hw ?_⟩
  exact ⟨fun h2 => ⟨z01, bP_ff h (fun z => z (oobR h2))⟩, fun h2 => ⟨o01, bP_ft h (fun z => z.elim h1 h2)⟩⟩
theorem sp_isSlot_out {P : bt_PT} {d : Nat} {f : Int32 → m_I → m_L → Prop} {I : m_I} {L : m_L} {w x : Int32} (hw : oob w 8) (h : f 0 I L) : bt_WP P (d + 2) mi_Fo_isSlot [vr 1 0, vi w, vi x] (I, L) (kI f) := by
  refine ru_Fo_isSlot ⟨fun h1 => ⟨z01, h⟩, fun h1 => sp_slots_out hw ?_⟩
  exact ⟨fun h2 => ⟨z01, h⟩, fun h2 => absurd (Int32.not_lt.mp h1) h2⟩
theorem sp_get {P : bt_PT} {d : Nat} {f : Int32 → m_I → m_L → Prop} {I : m_I} {L : m_L} {T w t : Nat} (hT : I 1 0 4 = nI T) (hT8 : T ≤ 8) (hw : w < 8) (ht : t < slN T w) (h : f (I 3 w t) I L) : bt_WP P (d + 3) mi_Fo_get [vr 1 0, vi (nI w), vi (nI t)] (I, L) (kI f) := by
  have h24 := slN_le (w := w) hT8
  refine ru_Fo_get (sp_isSlot hT hw ?_)
  rw [bP_t (n_oob ht (by omega))]
  refine ⟨fun e => absurd e (by decide), fun _ => ⟨ti_in (by omega) (by omega), ti_in (by omega) (by omega), ?_⟩⟩
  rw [ti_tn (by omega), ti_tn (by omega)]
  exact h
theorem sp_get_out {P : bt_PT} {d : Nat} {f : Int32 → m_I → m_L → Prop} {I : m_I} {L : m_L} {T w : Nat} {x : Int32} (hT : I 1 0 4 = nI T) (hw : w < 8) (hx : oob x (slN T w)) (h : f 0 I L) : bt_WP P (d + 3) mi_Fo_get [vr 1 0, vi (nI w), vi x] (I, L) (kI f) := by
  refine ru_Fo_get (sp_isSlot hT hw ?_)
  rw [bP_f (fun z => z hx)]
  exact ⟨fun _ => h, fun e => absurd rfl e⟩
theorem sp_set {P : bt_PT} {d : Nat} {f : m_I → m_L → Prop} {I : m_I} {L : m_L} {T w t : Nat} {v : Int32} (hT : I 1 0 4 = nI T) (hT8 : T ≤ 8) (hw : w < 8) (ht : t < slN T w) (h : f (ui I 3 w t v) L) : bt_WP P (d + 3) mi_Fo_set [vr 1 0, vi (nI w), vi (nI t), vi v] (I, L) (kV f) := by
  have h24 := slN_le (w := w) hT8
  refine ru_Fo_set (sp_isSlot hT hw ?_)
  rw [bP_t (n_oob ht (by omega))]
  refine ⟨fun e => absurd e (by decide), fun _ => ⟨ti_in (by omega) (by omega), ti_in (by omega) (by omega), ?_⟩⟩
  rw [ti_tn (by omega), ti_tn (by omega)]
  exact h
/-- what mend() lets a thing be -/
def mxN (w : Nat) : Nat := if w = 3 then 2 else if w = 7 then 8 else 10
theorem sp_mayBe {P : bt_PT} {d : Nat} {f : Int32 → m_I → m_L → Prop} {I : m_I} {L : m_L} {w : Nat} {v : Int32} (hw : w < 8) (h : f (bP (¬ oob v (mxN w))) I L) : bt_WP P (d + 1) mi_Fo_mayBe [vr 1 0, vi (nI w), vi v] (I, L) (kI f) := by
  refine ru_Fo_mayBe ⟨fun h1 => absurd h1 (n_neg (by omega)), fun _ => ⟨fun h1 => absurd h1 (by rw [show Int32.ofNat 8 = nI 8 from rfl, nle (by omega) (by omega)]; omega), fun _ => ⟨fun h1 => ⟨z01, bP_ff h (fun z => z (oobL h1))⟩, fun h1 => ⟨ti_in hw (by omega), ?_⟩⟩⟩⟩
  rw [ti_tn (by omega)]
  have hv : ∀ w, w < 8 → bt_SV 0 w = nI (mxN w - 1) ∧ 0 < mxN w ∧ mxN w ≤ 10 := by decide +kernel
  obtain ⟨e1, e2, e3⟩ := hv w hw
  rw [e1]
  have key : nI (mxN w) ≤ v ↔ nI (mxN w - 1) < v := by
    rw [ti_le, ti_lt, ti_nI (by omega), ti_nI (by omega)]; omega
  exact ⟨fun h2 => ⟨z01, bP_ff h (fun z => z (oobR (key.mpr h2)))⟩, fun h2 => ⟨o01, bP_ft h (fun z => z.elim h1 (fun q => h2 (key.mp q)))⟩⟩
theorem sp_mayBe_out {P : bt_PT} {d : Nat} {f : Int32 → m_I → m_L → Prop} {I : m_I} {L : m_L} {w v : Int32} (hw : oob w 8) (h : f 0 I L) : bt_WP P (d + 1) mi_Fo_mayBe [vr 1 0, vi w, vi v] (I, L) (kI f) := by
  refine ru_Fo_mayBe ⟨fun h1 => ⟨z01, h⟩, fun h1 => ⟨fun h2 => ⟨z01, h⟩, fun h2 => ?_⟩⟩
  exact absurd hw (fun z => z.elim h1 h2)
