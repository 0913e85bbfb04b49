/-! THE FOREST'S VALUES: both sides; mend, undo, redo -/
def mk (k : Nat) : Nat := match k with
  | 0 => 36
  | 1 => 37
  | 2 => 38
  | 3 => 39
  | 4 => 42
  | 5 => 43
  | _ => 35
def mj (k t : Nat) : Nat := match k with
  | 6 => 12
  | 7 => 13
  | _ => t
theorem mv_mk (I : m_I) {k t : Nat} (hk : k < 8) : mv I k t = I (mk k) 0 (mj k t) := by
  rcases k_8 hk with rfl | rfl | rfl | rfl | rfl | rfl | rfl | rfl <;> rfl
theorem mk_inj {T k t k' t' : Nat} (hk : k < 8) (hk' : k' < 8) (ht : t < slN T k) (ht' : t' < slN T k') (e1 : mk k' = mk k) (e2 : mj k' t' = mj k t) : k' = k ∧ t' = t := by
  rcases k_8 hk with rfl | rfl | rfl | rfl | rfl | rfl | rfl | rfl <;> rcases k_8 hk' with rfl | rfl | rfl | rfl | rfl | rfl | rfl | rfl <;>
    first
    | (exfalso; revert e1; decide)
    | exact absurd e2 (show ¬ (12 : Nat) = 13 by decide)
    | exact absurd e2 (show ¬ (13 : Nat) = 12 by decide)
    | exact ⟨rfl, e2⟩
    | (have h1 : t < 1 := ht
       have h2 : t' < 1 := ht'
       exact ⟨rfl, by omega⟩)
theorem mk_ne {k t : Nat} (hk : k < 8) : mk k ≠ 1 ∧ mk k ≠ 3 ∧ mk k ≠ 4 ∧ mk k ≠ 6 ∧ mk k ≠ 40 ∧ mk k ≠ 41 ∧ (mk k = 35 → mj k t = 12 ∨ mj k t = 13) ∧ gp (mk k) (mj k t) = 1 := by
  rcases k_8 hk with rfl | rfl | rfl | rfl | rfl | rfl | rfl | rfl <;> refine ⟨by decide, by decide, by decide, by decide, by decide, by decide, ?_, rfl⟩ <;> first
    | exact (fun e => absurd e (by decide))
    | exact (fun _ => Or.inl rfl)
    | exact (fun _ => Or.inr rfl)
/-- one value set on both sides -/
theorem gF_upd {I I' : m_I} {T k t : Nat} {nb : Nat → Nat} {v : Int32} (h : gF I T nb) (hk : k < 8) (ht : t < slN T k) (hv : lt' v (mxN k)) (e1 : I' 3 k t = v) (e2 : I' (mk k) 0 (mj k t) = v) (e3 : ∀ a b c, gp a c = 1 → ¬ (a = 3 ∧ b = k ∧ c = t) → ¬ (a = mk k ∧ b = 0 ∧ c = mj k t) → I' a b c = I a b c) : gF I' T nb := by
  obtain ⟨n1, n3, n4, n6, n40, n41, n35, -⟩ := mk_ne (t := t) hk
  obtain ⟨h1, h2, h3, h4, g1, g2, g3, g4, g5⟩ := h
  have f1 : ∀ c, gp 1 c = 1 → I' 1 0 c = I 1 0 c := fun c hc => e3 1 0 c hc (fun z => by cases z.1) (fun z => n1 z.1.symm)
  have f35 : ∀ c, gp 35 c = 1 → c ≠ 12 → c ≠ 13 → I' 35 0 c = I 35 0 c := fun c hc q1 q2 => e3 35 0 c hc (fun z => by cases z.1) (fun z => by
    rcases n35 z.1.symm with q | q
    · exact q1 (by rw [z.2.2, q])
    · exact q2 (by rw [z.2.2, q]))
  refine ⟨⟨by rw [f1 4 rfl]; exact h1.1, h1.2.1, fun t' ht' => ?_, h1.2.2.2⟩, ⟨by rw [f35 1 rfl (by decide) (by decide)]; exact h2.1, h2.2.1, fun t' ht' => ?_, h2.2.2.2⟩, h3, fun k' t' hk' ht' => ?_, fun t' ht' => ?_, fun t' ht8 ht' => ?_, ?_, ?_, ?_⟩
  · rw [e3 4 0 t' rfl (fun z => by cases z.1) (fun z => n4 z.1.symm)]; exact h1.2.2.1 t' ht'
  · rw [e3 40 0 t' rfl (fun z => by cases z.1) (fun z => n40 z.1.symm)]; exact h2.2.2.1 t' ht'
  · by_cases q : k' = k ∧ t' = t
    · obtain ⟨rfl, rfl⟩ := q
      rw [mv_mk _ hk', e1, e2]; exact ⟨rfl, hv⟩
    · rw [mv_mk _ hk', e3 (mk k') 0 (mj k' t') (mk_ne hk').2.2.2.2.2.2.2 (fun z => (mk_ne (t := t') hk').2.1 z.1) (fun z => q (mk_inj hk hk' ht ht' z.1 z.2.2)), ← mv_mk I hk', e3 3 k' t' rfl (fun z => q ⟨z.2.1, z.2.2⟩) (fun z => n3 z.1.symm)]
      exact h4 k' t' hk' ht'
  · rw [e3 41 0 t' rfl (fun z => by cases z.1) (fun z => n41 z.1.symm), e3 6 0 t' rfl (fun z => by cases z.1) (fun z => n6 z.1.symm)]; exact g1 t' ht'
  · rw [e3 6 0 t' rfl (fun z => by cases z.1) (fun z => n6 z.1.symm)]; exact g2 t' ht8 ht'
  · rw [f35 8 rfl (by decide) (by decide), f1 5 rfl]; exact g3
  · rw [f1 5 rfl]; exact g4
  · rw [f35 9 rfl (by decide) (by decide), f1 6 rfl]; exact g5
theorem sl_8 {T k t : Nat} (hT : T ≤ 8) (ht : t < slN T k) : (k < 4 → t < 8) ∧ (k = 4 → t < 24) ∧ (k = 5 → t < 4) := by
  unfold slN at ht
  refine ⟨fun q => ?_, fun q => ?_, fun q => ?_⟩
  · rw [if_pos q] at ht; omega
  · subst q; exact ht
  · subst q; exact ht
theorem sm_valueAt {P : bt_PT} {d : Nat} {f : Int32 → m_I → m_L → Prop} {I : m_I} {L : m_L} {T k t : Nat} (hT : T ≤ 8) (hk : k < 8) (ht : t < slN T k) (h : f (mv I k t) I L) : bt_WP P (d + 1) mi_M_valueAt [vr 35 0, vi (nI k), vi (nI t)] (I, L) (kI f) := by
  obtain ⟨s1, s2, s3⟩ := sl_8 hT ht
  have et : t < 24 → tn (nI t) = t := fun q => ti_tn (by omega)
  have t24 : t < 24 := Nat.lt_of_lt_of_le ht (slN_le hT)
  refine ru_M_valueAt ?_
  rw [et t24]
  rcases k_8 hk with rfl | rfl | rfl | rfl | rfl | rfl | rfl | rfl
  · exact ⟨fun _ => ⟨ti_in (s1 (by omega)) (by omega), h⟩, (fun z => absurd rfl z)⟩
  · exact ⟨(fun z => absurd z (by decide)), fun _ => ⟨fun _ => ⟨ti_in (s1 (by omega)) (by omega), h⟩, (fun z => absurd rfl z)⟩⟩
  · exact ⟨(fun z => absurd z (by decide)), fun _ => ⟨(fun z => absurd z (by decide)), fun _ => ⟨fun _ => ⟨ti_in (s1 (by omega)) (by omega), h⟩, (fun z => absurd rfl z)⟩⟩⟩
  · exact ⟨(fun z => absurd z (by decide)), fun _ => ⟨(fun z => absurd z (by decide)), fun _ => ⟨(fun z => absurd z (by decide)), fun _ => ⟨fun _ => ⟨ti_in (s1 (by omega)) (by omega), h⟩, (fun z => absurd rfl z)⟩⟩⟩⟩
  · exact ⟨(fun z => absurd z (by decide)), fun _ => ⟨(fun z => absurd z (by decide)), fun _ => ⟨(fun z => absurd z (by decide)), fun _ => ⟨(fun z => absurd z (by decide)), fun _ => ⟨fun _ => ⟨ti_in (s2 rfl) (by omega), h⟩, (fun z => absurd rfl z)⟩⟩⟩⟩⟩
  · exact ⟨(fun z => absurd z (by decide)), fun _ => ⟨(fun z => absurd z (by decide)), fun _ => ⟨(fun z => absurd z (by decide)), fun _ => ⟨(fun z => absurd z (by decide)), fun _ => ⟨(fun z => absurd z (by decide)), fun _ => ⟨fun _ => ⟨ti_in (s3 rfl) (by omega), h⟩, (fun z => absurd rfl z)⟩⟩⟩⟩⟩⟩
  · exact ⟨(fun z => absurd z (by decide)), fun _ => ⟨(fun z => absurd z (by decide)), fun _ => ⟨(fun z => absurd z (by decide)), fun _ => ⟨(fun z => absurd z (by decide)), fun _ => ⟨(fun z => absurd z (by decide)), fun _ => ⟨(fun z => absurd z (by decide)), fun _ => ⟨fun _ => h, (fun z => absurd rfl z)⟩⟩⟩⟩⟩⟩⟩
  · exact ⟨(fun z => absurd z (by decide)), fun _ => ⟨(fun z => absurd z (by decide)), fun _ => ⟨(fun z => absurd z (by decide)), fun _ => ⟨(fun z => absurd z (by decide)), fun _ => ⟨(fun z => absurd z (by decide)), fun _ => ⟨(fun z => absurd z (by decide)), fun _ => ⟨(fun z => absurd z (by decide)), fun _ => h⟩⟩⟩⟩⟩⟩⟩
theorem sm_lays {P : bt_PT} {d : Nat} {f : m_I → m_L → Prop} {I : m_I} {L : m_L} {T k t : Nat} {v : Int32} (hT : T ≤ 8) (hk : k < 8) (ht : t < slN T k) (h : f (ui I (mk k) 0 (mj k t) v) L) : bt_WP P (d + 1) mi_M_lays [vr 35 0, vi (nI k), vi (nI t), vi v] (I, L) (kV f) := by
  obtain ⟨s1, s2, s3⟩ := sl_8 hT ht
  have et : t < 24 → tn (nI t) = t := fun q => ti_tn (by omega)
  have t24 : t < 24 := Nat.lt_of_lt_of_le ht (slN_le hT)
  refine ru_M_lays ?_
  rw [et t24]
  rcases k_8 hk with rfl | rfl | rfl | rfl | rfl | rfl | rfl | rfl
  · exact ⟨fun _ => ⟨ti_in (s1 (by omega)) (by omega), h⟩, (fun z => absurd rfl z)⟩
  · exact ⟨(fun z => absurd z (by decide)), fun _ => ⟨fun _ => ⟨ti_in (s1 (by omega)) (by omega), h⟩, (fun z => absurd rfl z)⟩⟩
  · exact ⟨(fun z => absurd z (by decide)), fun _ => ⟨(fun z => absurd z (by decide)), fun _ => ⟨fun _ => ⟨ti_in (s1 (by omega)) (by omega), h⟩, (fun z => absurd rfl z)⟩⟩⟩
  · exact ⟨(fun z => absurd z (by decide)), fun _ => ⟨(fun z => absurd z (by decide)), fun _ => ⟨(fun z => absurd z (by decide)), fun _ => ⟨fun _ => ⟨ti_in (s1 (by omega)) (by omega), h⟩, (fun z => absurd rfl z)⟩⟩⟩⟩
  · exact ⟨(fun z => absurd z (by decide)), fun _ => ⟨(fun z => absurd z (by decide)), fun _ => ⟨(fun z => absurd z (by decide)), fun _ => ⟨(fun z => absurd z (by decide)), fun _ => ⟨fun _ => ⟨ti_in (s2 rfl) (by omega), h⟩, (fun z => absurd rfl z)⟩⟩⟩⟩⟩
  · exact ⟨(fun z => absurd z (by decide)), fun _ => ⟨(fun z => absurd z (by decide)), fun _ => ⟨(fun z => absurd z (by decide)), fun _ => ⟨(fun z => absurd z (by decide)), fun _ => ⟨(fun z => absurd z (by decide)), fun _ => ⟨fun _ => ⟨ti_in (s3 rfl) (by omega), h⟩, (fun z => absurd rfl z)⟩⟩⟩⟩⟩⟩
  · exact ⟨(fun z => absurd z (by decide)), fun _ => ⟨(fun z => absurd z (by decide)), fun _ => ⟨(fun z => absurd z (by decide)), fun _ => ⟨(fun z => absurd z (by decide)), fun _ => ⟨(fun z => absurd z (by decide)), fun _ => ⟨(fun z => absurd z (by decide)), fun _ => ⟨fun _ => h, (fun z => absurd rfl z)⟩⟩⟩⟩⟩⟩⟩
  · exact ⟨(fun z => absurd z (by decide)), fun _ => ⟨(fun z => absurd z (by decide)), fun _ => ⟨(fun z => absurd z (by decide)), fun _ => ⟨(fun z => absurd z (by decide)), fun _ => ⟨(fun z => absurd z (by decide)), fun _ => ⟨(fun z => absurd z (by decide)), fun _ => ⟨(fun z => absurd z (by decide)), fun _ => h⟩⟩⟩⟩⟩⟩⟩
theorem sm_isThing {P : bt_PT} {d : Nat} {f : Int32 → m_I → m_L → Prop} {I : m_I} {L : m_L} {T w : Nat} {n : Int32} (hT : I 35 0 1 = nI T) (hT8 : T ≤ 8) (hw : w < 8) (h : f (bP (¬ oob n (slN T w))) I L) : bt_WP P (d + 4) mi_M_isThing [vr 35 0, vi n, vi (nI w)] (I, L) (kI f) := by
  refine ru_M_isThing (sm_in ?_)
  rw [show (3 : Int32) = nI (4 - 1) from rfl, bP_c (in_oob (by omega) (by omega))]
  have o1 : ∀ x : Int32, oob x 1 ↔ ¬ x = 0 := fun x => by
    unfold oob; rw [ti_lt, ti_le, ti_eq, i_0, ti_nI (by omega)]; omega
  have hc : w < 4 ∨ w = 4 ∨ w = 5 ∨ w = 6 ∨ w = 7 := by omega
  rcases hc with q | rfl | rfl | q
  · rw [bP_t (n_oob q (by omega))]
    refine ⟨(fun z => absurd z (by decide)), fun _ => sm_isTree hT hT8 ⟨bP_01 _, ?_⟩⟩
    unfold slN at h; rw [if_pos q] at h; exact h
  · rw [bP_f (fun z => z (Or.inr (by decide)))]
    exact ⟨fun _ => ⟨fun z => absurd rfl z, fun _ => sm_isMinute ⟨bP_01 _, h⟩⟩, (fun z => absurd rfl z)⟩
  · rw [bP_f (fun z => z (Or.inr (by decide)))]
    exact ⟨fun _ => ⟨fun _ => ⟨fun z => absurd rfl z, fun _ => sm_isSort ⟨bP_01 _, h⟩⟩, (fun z => absurd z (by decide))⟩, (fun z => absurd rfl z)⟩
  · have hs : slN T w = 1 := by unfold slN; rw [if_neg (by omega), if_neg (by omega), if_neg (by omega)]
    rw [hs] at h
    have hin : (6 : Int32) ≤ nI w ∧ nI w ≤ 7 := by rcases q with rfl | rfl <;> decide
    rw [bP_f (fun z => z (Or.inr (by rcases q with rfl | rfl <;> decide)))]
    refine ⟨fun _ => ⟨fun _ => ⟨fun _ => sm_in ?_, fun e => by rcases q with rfl | rfl <;> exact absurd e (by decide)⟩, fun e => by rcases q with rfl | rfl <;> exact absurd e (by decide)⟩, (fun z => absurd rfl z)⟩
    rw [bP_t hin]
    refine ⟨(fun z => absurd z (by decide)), fun _ => ⟨fun e => ⟨z01, bP_ff h (fun z => z ((o1 n).mpr e))⟩, fun e => ⟨o01, bP_ft h (fun z => (o1 n).mp z e)⟩⟩⟩
theorem sm_isThing_out {P : bt_PT} {d : Nat} {f : Int32 → m_I → m_L → Prop} {I : m_I} {L : m_L} {T : Nat} {n w : Int32} (hT : I 35 0 1 = nI T) (hT8 : T ≤ 8) (hw : oob w 8) (h : f 0 I L) : bt_WP P (d + 4) mi_M_isThing [vr 35 0, vi n, vi w] (I, L) (kI f) := by
  have hw' : w.toInt < 0 ∨ 8 ≤ w.toInt := by
    rcases hw with q | q
    · left; rw [ti_lt, i_0] at q; exact q
    · right; rw [ti_le, ti_nI (by omega)] at q; exact q
  have i4 : (4 : Int32).toInt = 4 := rfl
  have i5 : (5 : Int32).toInt = 5 := rfl
  have i6 : (6 : Int32).toInt = 6 := rfl
  have i7 : (7 : Int32).toInt = 7 := rfl
  refine ru_M_isThing (sm_in ?_)
  rw [show (3 : Int32) = nI (4 - 1) from rfl, bP_c (in_oob (by omega) (by omega)), bP_f (fun z => z (by
    rcases hw' with q | q
    · left; rw [ti_lt, i_0]; omega
    · right; rw [ti_le, ti_nI (by omega)]; omega))]
  refine ⟨fun _ => ⟨fun _ => ⟨fun _ => sm_in ?_, fun e => by rw [ti_eq, i5] at e; omega⟩, fun e => by rw [ti_eq, i4] at e; omega⟩, (fun z => absurd rfl z)⟩
  rw [bP_f (fun z => by rw [ti_le, ti_le, i6, i7] at z; omega)]
  exact ⟨fun _ => ⟨z01, h⟩, (fun z => absurd rfl z)⟩
