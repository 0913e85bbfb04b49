/-! WALKS AND BOOKS REFUSED: the reference -/
theorem lg_lt (x y : Int64) : lg_cmp x y < 0 ↔ x.toInt < y.toInt := by
  unfold lg_cmp
  by_cases q : x > y
  · have q' : y.toInt < x.toInt := Int64.lt_iff_toInt_lt.mp q
    rw [if_pos q]; exact ⟨fun z => absurd z (by decide), fun z => by omega⟩
  · have q' : ¬ y.toInt < x.toInt := fun z => q (Int64.lt_iff_toInt_lt.mpr z)
    rw [if_neg q]
    by_cases e : x = y
    · rw [if_pos e]; subst e; exact ⟨fun z => absurd z (by decide), fun z => by omega⟩
    · have e' : x.toInt ≠ y.toInt := fun z => e (Int64.toInt_inj.mp z)
      rw [if_neg e]; exact ⟨fun _ => by omega, fun _ => by decide⟩
theorem lg_gt (x y : Int64) : 0 < lg_cmp x y ↔ y.toInt < x.toInt := by
  unfold lg_cmp
  by_cases q : x > y
  · have q' : y.toInt < x.toInt := Int64.lt_iff_toInt_lt.mp q
    rw [if_pos q]; exact ⟨fun z => q', fun z => by decide⟩
  · have q' : ¬ y.toInt < x.toInt := fun z => q (Int64.lt_iff_toInt_lt.mpr z)
    rw [if_neg q]
    by_cases e : x = y
    · rw [if_pos e]; exact ⟨fun z => absurd z (by decide), fun z => absurd z q'⟩
    · rw [if_neg e]; exact ⟨fun z => absurd z (by decide), fun z => absurd z q'⟩
theorem lg_eq (x y : Int64) : lg_cmp x y = 0 ↔ x = y := by
  unfold lg_cmp
  by_cases q : x > y
  · have q' : y.toInt < x.toInt := Int64.lt_iff_toInt_lt.mp q
    rw [if_pos q]; exact ⟨fun z => absurd z (by decide), fun z => by rw [z] at q'; omega⟩
  · rw [if_neg q]
    by_cases e : x = y
    · rw [if_pos e]; exact ⟨fun _ => e, fun _ => rfl⟩
    · rw [if_neg e]; exact ⟨fun z => absurd z (by decide), fun z => absurd z e⟩
theorem by_i {v : Int64} (h : byL v) : v.toInt32.toInt = v.toInt := by
  have h1 := h.1
  have h2 := h.2
  rw [Int64.toInt_toInt32, Int.bmod_eq_of_le (by omega) (by omega)]
theorem lt_int {x : Int32} {n : Nat} (hn : n < 2147483648) : lt' x n ↔ 0 ≤ x.toInt ∧ x.toInt < n := by
  rw [lt_oob hn]; unfold oob; rw [ti_lt, ti_le, ti_nI hn, i_0]; omega
theorem isW_s {T : Nat} {nb : Nat → Nat} {val : Nat → Int32} {m : Nat} (h : isW T nb val m) (h1 : lt' (val m) T ∧ (opN T nb val m).testBit (tn (val m)) = true) : isW T nb val (m + 1) := fun m' hm' => by
  by_cases q : m' = m
  · subst q; exact h1
  · exact h m' (by omega)
/-- a row of bytes as the reference tells it -/
theorem row_e {I : m_I} {L : m_L} {bn s z : Nat} (hx : gS1 I L bn s (some (.inr 0)) z) : I 67 0 s = nI z ∧ (∀ j, j < 60 → L 68 0 (60 * s + j) = L 34 s j) ∧ (∀ j, j < 60 → byL (L 34 s j)) ∧ z ≤ 60 ∧ I 33 s 3 = nI z := by
  have h := hx.2.2.2.2.2.1 0 rfl
  exact ⟨h.2.1, h.2.2.1, h.2.2.2 rfl, hx.1, hx.2.2.2.1⟩
theorem sm_isWalkL {P : bt_PT} {d : Nat} {f : Int32 → m_I → m_L → Prop} {I : m_I} {L : m_L} {bn s z T : Nat} {nb : Nat → Nat} (hF : jF I T nb) (hs : s < 6) (hx : gS1 I L bn s (some (.inr 0)) z) (h : f (bP (isW T nb (vL L s) (min 24 z))) I L) :
    ∀ (k m : Nat), m + k = min 24 z → isW T nb (vL L s) m → bt_Go P (d + 2) mi_M_isWalk (kI f) 2 [some (vr 35 0), some (vi (nI s)), some (vi (nI m))] [] (I, L)
  | 0, m, e, h1 => by
    obtain ⟨hz, -, -, h60, -⟩ := row_e hx
    have e : m = min 24 z := by omega
    refine ru_M_isWalk_2 (sm_minutesOf hs hz h60 ?_)
    rw [← e] at h ⊢
    exact ⟨fun _ => ⟨o01, bP_ft h h1⟩, fun q => absurd (Int32.le_refl _) q⟩
  | k + 1, m, e, h1 => by
    obtain ⟨hz, e68, hby, h60, -⟩ := row_e hx
    have hT8 := hF.2.1
    have hm : m < min 24 z := by omega
    have hno : ¬ (lt' (vL L s m) T ∧ (opN T nb (vL L s) m).testBit (tn (vL L s m)) = true) → ((0 : Int32) = 0 ∨ (0 : Int32) = 1) ∧ f 0 I L := fun q => ⟨z01, bP_ff h (fun w => q (w m hm))⟩
    have hi := by_i (hby m (by omega))
    have c0 : lg_cmp (L 34 s m) 0 < 0 ↔ (vL L s m).toInt < 0 := by rw [lg_lt]; show (L 34 s m).toInt < 0 ↔ ((L 34 s m).toInt32).toInt < 0; rw [hi]
    have cT : lg_cmp (L 34 s m) (nI T).toInt64 < 0 ↔ (vL L s m).toInt < T := by
      rw [lg_lt, Int32.toInt_toInt64, ti_nI (by omega)]; show (L 34 s m).toInt < T ↔ ((L 34 s m).toInt32).toInt < T; rw [hi]
    refine ru_M_isWalk_2 (sm_minutesOf hs hz h60 ⟨fun q => absurd ((nle (by omega) (by omega)).mp q) (by omega), fun _ => sm_told hs (by omega) ?_⟩)
    rw [e68 m (by omega)]
    refine ⟨fun q => hno (fun w => ?_), fun q1 => sm_told hs (by omega) ?_⟩
    · have := ((lt_int (by omega)).mp w.1).1
      have := c0.mp q; omega
    rw [e68 m (by omega), hF.1]
    refine ⟨fun q2 => ?_, fun q2 => hno (fun w => q2 (cT.mpr ((lt_int (by omega)).mp w.1).2))⟩
    have q1' : ¬ (vL L s m).toInt < 0 := fun w => q1 (c0.mpr w)
    obtain ⟨t, ht, et⟩ := (lt_int (x := vL L s m) (n := T) (by omega)).mpr ⟨by omega, cT.mp q2⟩
    have etn : tn (vL L s m) = t := by rw [et, ti_tn (by omega)]
    have hgo : (opN T nb (vL L s) m).testBit t = true → bt_Go P (d + 2) mi_M_isWalk (kI f) 2 [some (vr 35 0), some (vi (nI s)), some (vi (nI m + 1))] [] (I, L) := fun w => by
      rw [nI_s]
      exact sm_isWalkL hF hs hx h k (m + 1) (by omega) (isW_s h1 ⟨⟨t, ht, et⟩, by rw [etn]; exact w⟩)
    rw [etn] at hno
    refine ⟨fun q3 => hgo ?_, fun q3 => ?_⟩
    · have q3' : m = 0 := by have := (nle (b := 0) (by omega) (by omega)).mp q3; omega
      unfold opN
      rw [if_pos q3', Nat.testBit_two_pow_sub_one, decide_eq_true ht]
    · obtain ⟨m', rfl⟩ : ∃ m', m = m' + 1 := ⟨m - 1, by
        have h50 : ¬ m = 0 := fun w => q3 (by rw [w]; decide)
        omega⟩
      obtain ⟨⟨u, hu, eu⟩, -⟩ := h1 m' (by omega)
      have eu' : (L 34 s m').toInt32 = nI u := eu
      have et' : (L 34 s (m' + 1)).toInt32 = nI t := et
      have eop : opN T nb (vL L s) (m' + 1) = nb u ||| 2 ^ u := by
        unfold opN
        rw [if_neg (by omega)]
        show nb (tn ((L 34 s m').toInt32)) ||| 2 ^ tn ((L 34 s m').toInt32) = _
        rw [eu', ti_tn (by omega)]
      rw [nI_pred]
      refine sm_told hs (by omega) ?_
      rw [e68 m' (by omega)]
      refine sm_told hs (by omega) ?_
      rw [e68 (m' + 1) (by omega), eu', et']
      refine sm_mayGo hF hu (by omega) ?_
      rw [← eop]
      exact bP_br' (fun w => hgo w) (fun w => hno (fun y => w y.2))
theorem sm_isWalk {P : bt_PT} {d : Nat} {f : Int32 → m_I → m_L → Prop} {I : m_I} {L : m_L} {bn s z T : Nat} {nb : Nat → Nat} (hF : jF I T nb) (hs : s < 6) (hx : gS1 I L bn s (some (.inr 0)) z) (h : f (bP (isW T nb (vL L s) (min 24 z))) I L) : bt_WP P (d + 3) mi_M_isWalk [vr 35 0, vi (nI s)] (I, L) (kI f) :=
  ru_M_isWalk (sm_isWalkL hF hs hx h (min 24 z) 0 (by omega) (fun m hm => by omega))
theorem sm_rowsFault {P : bt_PT} {d : Nat} {f : Int32 → m_I → m_L → Prop} {I : m_I} {L : m_L} {bn a b : Nat} {w : Int32} {X : Nat → sH} {Z : Nat → Nat} (hR : rowC I L bn X Z) (ha : a < 6) (hb : b < 6) (e1 : w / 10 = nI a) (e2 : w - w / 10 * 10 = nI b) (h : f (faI (fun i => i = a ∨ i = b) X (fun _ => True)) I L) : bt_WP P (d + 2) mi_M_rowsFault [vr 35 0, vi w] (I, L) (kI f) := by
  have na := gS1_ho (hR.2 a ha) hR.1
  have nb := gS1_ho (hR.2 b hb) hR.1
  refine ru_M_rowsFault ?_
  rw [e2, e1]
  refine ⟨by decide, ti_in ha (by omega), ?_⟩
  rw [ti_tn (n := a) (by omega), ti_tn (n := b) (by omega), (hR.2 a ha).2.2.2.2.1, (hR.2 b hb).2.2.2.2.1]
  have h11 : X a = none ∨ X b = none → f (-11) I L := fun q => by
    rw [faI_11 (by rcases q with q | q; exact ⟨a, Or.inl rfl, q⟩; exact ⟨b, Or.inr rfl, q⟩)] at h; exact h
  refine ⟨fun q => h11 (Or.inl (na.mp q)), fun q => ⟨by decide, ti_in hb (by omega), fun q' => ?_, fun q' => h11 (Or.inr (nb.mp q'))⟩⟩
  have hn : ¬ ∃ i, (i = a ∨ i = b) ∧ X i = none := by
    rintro ⟨i, rfl | rfl, y⟩
    · exact q (na.mpr y)
    · exact q' (nb.mpr y)
  have h12 : ¬ X a = some (.inr 0) ∨ ¬ X b = some (.inr 0) → f (-12) I L := fun q => by
    rw [faI_12 hn (by rcases q with q | q; exact ⟨a, Or.inl rfl, q⟩; exact ⟨b, Or.inr rfl, q⟩)] at h; exact h
  refine ⟨by decide, sm_rowFault ha (hR.2 a ha) hR.1 ⟨fun z => h12 (Or.inl ((rf_lt _).mp z)), fun z => ⟨by decide, sm_rowFault hb (hR.2 b hb) hR.1 ⟨fun z' => ?_, fun z' => h12 (Or.inr (fun y => z' ((rf_le _).mpr y)))⟩⟩⟩⟩
  have za : X a = some (.inr 0) := Classical.byContradiction fun y => z ((rf_lt _).mpr y)
  have zb : X b = some (.inr 0) := (rf_le _).mp z'
  rw [faI_00 (by rintro i (rfl | rfl); exact za; exact zb) (fun _ _ => trivial)] at h
  exact h
theorem sm_wf52 {P : bt_PT} {d : Nat} {f : Int32 → m_I → m_L → Prop} {I : m_I} {L : m_L} {bn n T : Nat} {nb : Nat → Nat} {X : Nat → sH} {Z : Nat → Nat} (hF : jF I T nb) (hR : rowC I L bn X Z) (hn : n ≤ 6) (hb : ∀ i, i < n → X i = some (.inr 0)) (h : f (faI (fun i => i < n) X (WK L T nb Z)) I L) : ∀ (k s : Nat), s + k = n → (∀ i, i < s → WK L T nb Z i) → bt_Go P (d + 3) mi_M_walksFault (kI f) 52 [some (vr 35 0), some (vi (nI n)), some (vi (nI s))] [] (I, L)
  | 0, s, e, h1 => by
    have e : s = n := by omega
    subst e
    rw [faI_00 hb h1] at h
    exact ru_M_walksFault_52 ⟨fun _ => h, fun q => absurd (Int32.le_refl _) q⟩
  | k + 1, s, e, h1 => by
    have hx := hR.2 s (by omega)
    rw [hb s (by omega)] at hx
    refine ru_M_walksFault_52 ⟨fun q => absurd ((nle (by omega) (by omega)).mp q) (by omega), fun _ => sm_isWalk hF (by omega) hx ?_⟩
    rw [nI_s]
    refine bP_br' (fun w => sm_wf52 hF hR hn hb h k (s + 1) (by omega) (fun i hi => ?_)) (fun w => ?_)
    · by_cases q : i = s
      · subst q; exact w
      · exact h1 i (by omega)
    · rw [faI_5 hb ⟨s, by omega, w⟩] at h; exact h
theorem sm_wf28 {P : bt_PT} {d : Nat} {f : Int32 → m_I → m_L → Prop} {I : m_I} {L : m_L} {bn n T : Nat} {nb : Nat → Nat} {X : Nat → sH} {Z : Nat → Nat} (hF : jF I T nb) (hR : rowC I L bn X Z) (hn : n ≤ 6) (hno : ¬ ∃ i, i < n ∧ X i = none) (h : f (faI (fun i => i < n) X (WK L T nb Z)) I L) : ∀ (k s : Nat), s + k = n → (∀ i, i < s → X i = some (.inr 0)) → bt_Go P (d + 3) mi_M_walksFault (kI f) 28 [some (vr 35 0), some (vi (nI n)), some (vi (nI s))] [] (I, L)
  | 0, s, e, h1 => by
    have e : s = n := by omega
    subst e
    exact ru_M_walksFault_28 ⟨fun _ => sm_wf52 hF hR hn h1 h s 0 (by omega) (fun i hi => by omega), fun q => absurd (Int32.le_refl _) q⟩
  | k + 1, s, e, h1 => by
    refine ru_M_walksFault_28 ⟨fun q => absurd ((nle (by omega) (by omega)).mp q) (by omega), fun _ => sm_rowFault (by omega) (hR.2 s (by omega)) hR.1 ?_⟩
    rw [nI_s]
    refine ⟨fun w => sm_wf28 hF hR hn hno h k (s + 1) (by omega) (fun i hi => ?_), fun w => ?_⟩
    · by_cases q : i = s
      · subst q; exact (rf_le _).mp w
      · exact h1 i (by omega)
    · rw [faI_12 hno ⟨s, by omega, fun y => w ((rf_le _).mpr y)⟩] at h; exact h
theorem sm_wf2 {P : bt_PT} {d : Nat} {f : Int32 → m_I → m_L → Prop} {I : m_I} {L : m_L} {bn n T : Nat} {nb : Nat → Nat} {X : Nat → sH} {Z : Nat → Nat} (hF : jF I T nb) (hR : rowC I L bn X Z) (hn : n ≤ 6) (h : f (faI (fun i => i < n) X (WK L T nb Z)) I L) : ∀ (k s : Nat), s + k = n → (∀ i, i < s → ¬ X i = none) → bt_Go P (d + 3) mi_M_walksFault (kI f) 2 [some (vr 35 0), some (vi (nI n)), some (vi (nI s))] [] (I, L)
  | 0, s, e, h1 => by
    have e : s = n := by omega
    subst e
    exact ru_M_walksFault_2 ⟨fun _ => sm_wf28 hF hR hn (fun z => by obtain ⟨i, a, b⟩ := z; exact h1 i a b) h s 0 (by omega) (fun i hi => by omega), fun q => absurd (Int32.le_refl _) q⟩
  | k + 1, s, e, h1 => by
    have na := gS1_ho (hR.2 s (by omega)) hR.1
    refine ru_M_walksFault_2 ⟨fun q => absurd ((nle (by omega) (by omega)).mp q) (by omega), fun _ => ⟨ti_in (by omega) (by omega), ?_⟩⟩
    rw [ti_tn (n := s) (by omega), (hR.2 s (by omega)).2.2.2.2.1, nI_s]
    refine ⟨fun w => sm_wf2 hF hR hn h k (s + 1) (by omega) (fun i hi => ?_), fun w => ?_⟩
    · by_cases q : i = s
      · subst q; exact fun y => w (na.mpr y)
      · exact h1 i (by omega)
    · rw [faI_11 ⟨s, by omega, na.mp w⟩] at h; exact h
theorem sm_walksFault {P : bt_PT} {d : Nat} {f : Int32 → m_I → m_L → Prop} {I : m_I} {L : m_L} {bn n T : Nat} {nb : Nat → Nat} {X : Nat → sH} {Z : Nat → Nat} (hF : jF I T nb) (hR : rowC I L bn X Z) (hn : n ≤ 6) (h : f (faI (fun i => i < n) X (WK L T nb Z)) I L) : bt_WP P (d + 4) mi_M_walksFault [vr 35 0, vi (nI n)] (I, L) (kI f) :=
  ru_M_walksFault (sm_wf2 hF hR hn h n 0 (by omega) (fun i hi => by omega))
