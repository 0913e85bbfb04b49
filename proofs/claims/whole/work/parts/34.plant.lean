/-! tree: planting on both sides -/
/-- so many trees planted from a place on: the forest's cells -/
def plC (I0 I : m_I) (T c : Nat) (val : Nat → Nat → Int32) : Prop := (∀ j, j < c → I 3 0 (T + j) = val 0 j ∧ I 3 1 (T + j) = val 1 j ∧ I 3 2 (T + j) = val 2 j ∧ I 3 3 (T + j) = 1) ∧ I 1 0 4 = nI (T + c) ∧ ∀ x y z, ¬ (x = 1 ∧ y = 0 ∧ z = 4) → ¬ (x = 3 ∧ y < 4 ∧ T ≤ z ∧ z < T + c) → I x y z = I0 x y z
def plM (I0 I : m_I) (T c : Nat) (val : Nat → Nat → Int32) : Prop := (∀ j, j < c → I 36 0 (T + j) = val 0 j ∧ I 37 0 (T + j) = val 1 j ∧ I 38 0 (T + j) = val 2 j ∧ I 39 0 (T + j) = 1 ∧ I 40 0 (T + j) = 0 ∧ I 41 0 (T + j) = 0) ∧ I 35 0 1 = nI (T + c) ∧ ∀ x y z, ¬ (x = 35 ∧ z = 1) → ¬ (36 ≤ x ∧ x ≤ 41 ∧ T ≤ z ∧ z < T + c) → I x y z = I0 x y z
theorem sp_plant {P : bt_PT} {d : Nat} {f : Int32 → m_I → m_L → Prop} {L : m_L} {I0 I : m_I} {T c : Nat} {val : Nat → Nat → Int32} (h0 : plC I0 I T c val) (hT : T + c < 8) (h : ∀ I', plC I0 I' T (c + 1) val → f (nI (T + c)) I' L) : bt_WP P (d + 4) mi_Fo_plant [vr 1 0, vi (val 0 c), vi (val 1 c), vi (val 2 c)] (I, L) (kI f) := by
  have l8 : nI (T + c) < 8 ↔ T + c < 8 := nlt (b := 8) (by omega) (by omega)
  have sl : ∀ w, w < 4 → T + c < slN (T + c + 1) w := fun w hw => by unfold slN; rw [if_pos hw]; omega
  refine ru_Fo_plant ?_
  rw [h0.2.1, nI_s]
  refine ⟨fun _ => ?_, fun z => absurd (l8.mpr hT) z⟩
  refine sp_set (w := 0) (T := T + c + 1) (ui_same _ _ _ _ _) (by omega) (by omega) (sl 0 (by omega)) ?_
  refine sp_set (w := 1) (T := T + c + 1) (by simp (disch := decide) only [ui_k, ui_same]) (by omega) (by omega) (sl 1 (by omega)) ?_
  refine sp_set (w := 2) (T := T + c + 1) (by simp (disch := decide) only [ui_k, ui_same]) (by omega) (by omega) (sl 2 (by omega)) ?_
  refine sp_set (w := 3) (T := T + c + 1) (by simp (disch := decide) only [ui_k, ui_same]) (by omega) (by omega) (sl 3 (by omega)) ?_
  refine h _ ⟨fun j hj => ?_, ?_, fun x y z n1 n2 => ?_⟩
  · by_cases e : j = c
    · subst e
      simp (disch := decide) only [ui_i, ui_same]
      exact ⟨trivial, trivial, trivial, trivial⟩
    · have ne : T + j ≠ T + c := by omega
      simp (disch := first | decide | assumption) only [ui_k, ui_j]
      exact h0.1 j (by omega)
  · simp (disch := decide) only [ui_k, ui_same]; rfl
  · rw [uj_ne (fun w => n2 ⟨w.1, by omega, by omega, by omega⟩), uj_ne (fun w => n2 ⟨w.1, by omega, by omega, by omega⟩), uj_ne (fun w => n2 ⟨w.1, by omega, by omega, by omega⟩), uj_ne (fun w => n2 ⟨w.1, by omega, by omega, by omega⟩), uj_ne (fun w => n1 w)]
    exact h0.2.2 x y z n1 (by omega)
theorem sp_plant8 {P : bt_PT} {d : Nat} {f : Int32 → m_I → m_L → Prop} {I : m_I} {L : m_L} {a1 a2 a3 : Int32} (hT : I 1 0 4 = nI 8) (h : f (-3) I L) : bt_WP P (d + 4) mi_Fo_plant [vr 1 0, vi a1, vi a2, vi a3] (I, L) (kI f) := by
  refine ru_Fo_plant ?_
  rw [hT]
  exact ⟨fun z => absurd z (by decide), fun _ => h⟩
theorem sm_addTree {P : bt_PT} {d : Nat} {f : Int32 → m_I → m_L → Prop} {L : m_L} {I0 I : m_I} {T c : Nat} {val : Nat → Nat → Int32} (h0 : plM I0 I T c val) (hT : T + c < 8) (h : ∀ I', plM I0 I' T (c + 1) val → f (nI (T + c)) I' L) : bt_WP P (d + 1) mi_M_addTree [vr 35 0, vi (val 0 c), vi (val 1 c), vi (val 2 c)] (I, L) (kI f) := by
  refine ru_M_addTree ?_
  have e := h0.2.1
  have et : tn (nI (T + c)) = T + c := ti_tn (by omega)
  simp (disch := decide) only [ui_k, ui_same, e, et, nI_s, nI_pred]
  have hv : vp_in (nI (T + c)) 8 := ti_in hT (by omega)
  refine ⟨hv, hv, hv, hv, hv, hv, h _ ⟨fun j hj => ?_, ?_, fun x y z n1 n2 => ?_⟩⟩
  · by_cases e : j = c
    · subst e
      simp (disch := decide) only [ui_k, ui_same]
      exact ⟨trivial, trivial, trivial, trivial, trivial, trivial⟩
    · have ne : T + j ≠ T + c := by omega
      simp (disch := first | decide | assumption) only [ui_k, ui_j]
      exact h0.1 j (by omega)
  · rw [ui_same]; rfl
  · rw [uj_ne (fun w => n1 ⟨w.1, w.2.2⟩), uj_ne (fun w => n2 ⟨by omega, by omega, by omega, by omega⟩), uj_ne (fun w => n2 ⟨by omega, by omega, by omega, by omega⟩), uj_ne (fun w => n2 ⟨by omega, by omega, by omega, by omega⟩), uj_ne (fun w => n2 ⟨by omega, by omega, by omega, by omega⟩), uj_ne (fun w => n2 ⟨by omega, by omega, by omega, by omega⟩), uj_ne (fun w => n2 ⟨by omega, by omega, by omega, by omega⟩)]
    exact h0.2.2 x y z n1 (by omega)
theorem plC_0 {I : m_I} {T : Nat} {val : Nat → Nat → Int32} (hT : I 1 0 4 = nI T) : plC I I T 0 val := ⟨fun j hj => by omega, hT, fun _ _ _ _ _ => rfl⟩
theorem plM_0 {I : m_I} {T : Nat} {val : Nat → Nat → Int32} (hT : I 35 0 1 = nI T) : plM I I T 0 val := ⟨fun j hj => by omega, hT, fun _ _ _ _ _ => rfl⟩
theorem gF_plant {I0 I1 I2 : m_I} {T c : Nat} {nb : Nat → Nat} {val : Nat → Nat → Int32} (hF : gF I0 T nb) (h1 : plC I0 I1 T c val) (h2 : plM I1 I2 T c val) (hT : T + c ≤ 8) (hv : ∀ j, j < c → lt' (val 0 j) 10 ∧ lt' (val 1 j) 10 ∧ lt' (val 2 j) 10) : gF I2 (T + c) nb := by
  obtain ⟨f1, f2, f3, f4, g1, g2, g3, g4, g5⟩ := hF
  have hp : 2 ^ T ≤ 2 ^ (T + c) := Nat.pow_le_pow_right (by omega) (by omega)
  have lo : ∀ x y z, x < 35 → I2 x y z = I1 x y z := fun x y z hx => h2.2.2 x y z (by omega) (by omega)
  have ol : ∀ x y z, x < 35 → x ≠ 1 → x ≠ 3 → I2 x y z = I0 x y z := fun x y z hx n1 n3 => by rw [lo x y z hx, h1.2.2 x y z (by omega) (by omega)]
  have oj : ∀ z, z ≠ 1 → I2 35 0 z = I0 35 0 z := fun z hz => by rw [h2.2.2 35 0 z (by omega) (by omega), h1.2.2 35 0 z (by omega) (by omega)]
  have o1 : ∀ z, z ≠ 4 → I2 1 0 z = I0 1 0 z := fun z hz => by rw [lo 1 0 z (by omega), h1.2.2 1 0 z (by omega) (by omega)]
  refine ⟨⟨by rw [lo 1 0 4 (by omega)]; exact h1.2.1, hT, fun t ht => ?_, fun t ht => f1.2.2.2 t (by omega)⟩, ⟨h2.2.1, hT, fun t ht => ?_, fun t => Nat.lt_of_lt_of_le (f2.2.2.2.1 t) hp, f2.2.2.2.2⟩, f3, fun k t hk ht => ?_, fun t ht => ?_, fun t h8 ht => ?_, ?_, ?_, ?_⟩
  · rw [ol 4 0 t (by omega) (by omega) (by omega)]
    exact ⟨(f1.2.2.1 t ht).1, Nat.lt_of_lt_of_le (f1.2.2.1 t ht).2 hp⟩
  · rcases Nat.lt_or_ge t T with q | q
    · rw [h2.2.2 40 0 t (by omega) (by omega), h1.2.2 40 0 t (by omega) (by omega)]; exact f2.2.2.1 t q
    · obtain ⟨-, -, -, -, q4, -⟩ := h2.1 (t - T) (by omega)
      rw [show T + (t - T) = t from by omega] at q4
      rw [q4, f1.2.2.2 t q]; rfl
  · by_cases hn : k < 4 ∧ T ≤ t
    · have ht' : t < T + c := by unfold slN at ht; rw [if_pos hn.1] at ht; exact ht
      obtain ⟨a0, a1, a2, a3⟩ := h1.1 (t - T) (by omega)
      obtain ⟨b0, b1, b2, b3, -, -⟩ := h2.1 (t - T) (by omega)
      obtain ⟨v0, v1, v2⟩ := hv (t - T) (by omega)
      rw [show T + (t - T) = t from by omega] at a0 a1 a2 a3 b0 b1 b2 b3
      rw [lo 3 k t (by omega)]
      have hk4 : k = 0 ∨ k = 1 ∨ k = 2 ∨ k = 3 := by omega
      rcases hk4 with rfl | rfl | rfl | rfl
      · exact ⟨b0.trans a0.symm, by rw [a0]; exact v0⟩
      · exact ⟨b1.trans a1.symm, by rw [a1]; exact v1⟩
      · exact ⟨b2.trans a2.symm, by rw [a2]; exact v2⟩
      · exact ⟨b3.trans a3.symm, by rw [a3]; exact ⟨1, by decide, rfl⟩⟩
    · have ht0 : t < slN T k := by
        unfold slN at ht ⊢
        by_cases q : k < 4
        · rw [if_pos q]; omega
        · rw [if_neg q] at ht ⊢; exact ht
      have em : mv I2 k t = mv I0 k t := by
        rw [mv_mk _ hk, mv_mk _ hk]
        have k1 := mk_ne (t := t) hk
        have k2 := mk_lt hk
        have hx : ¬ (36 ≤ mk k ∧ mk k ≤ 41 ∧ T ≤ mj k t ∧ mj k t < T + c) := fun z => by
          rcases k_8 hk with rfl | rfl | rfl | rfl | rfl | rfl | rfl | rfl
          · exact hn ⟨by omega, z.2.2.1⟩
          · exact hn ⟨by omega, z.2.2.1⟩
          · exact hn ⟨by omega, z.2.2.1⟩
          · exact hn ⟨by omega, z.2.2.1⟩
          · exact absurd z.2.1 (by decide)
          · exact absurd z.2.1 (by decide)
          · exact absurd z.1 (by decide)
          · exact absurd z.1 (by decide)
        rw [h2.2.2 _ _ _ (fun z => by rcases k1.2.2.2.2.2.2.1 z.1 with q | q <;> omega) hx, h1.2.2 _ _ _ (by omega) (by omega)]
      rw [em, lo 3 k t (by omega), h1.2.2 3 k t (by omega) (by omega)]
      exact f4 k t hk ht0
  · rcases Nat.lt_or_ge t T with q | q
    · rw [h2.2.2 41 0 t (by omega) (by omega), h1.2.2 41 0 t (by omega) (by omega), ol 6 0 t (by omega) (by omega) (by omega)]; exact g1 t q
    · obtain ⟨-, -, -, -, -, q5⟩ := h2.1 (t - T) (by omega)
      rw [show T + (t - T) = t from by omega] at q5
      rw [q5, ol 6 0 t (by omega) (by omega) (by omega)]; exact (g2 t q (by omega)).symm
  · rw [ol 6 0 t (by omega) (by omega) (by omega)]; exact g2 t (by omega) ht
  · rw [oj 8 (by omega), o1 5 (by omega)]; exact g3
  · rw [o1 5 (by omega)]; exact g4
  · rw [oj 9 (by omega), o1 6 (by omega)]; exact g5
theorem Qg_plant {I0 I1 I2 : m_I} {T c : Nat} {val : Nat → Nat → Int32} (h1 : plC I0 I1 T c val) (h2 : plM I1 I2 T c val) (g : Nat) (hg : g ≠ 1) : Qg g I0 I2 := fun x y z e => by
  have n1 : ¬ (x = 1 ∧ y = 0 ∧ z = 4) := fun w => by obtain ⟨rfl, -, rfl⟩ := w; exact hg e.symm
  have n3 : x ≠ 3 := fun w => by subst w; exact hg e.symm
  have n35 : ¬ (x = 35 ∧ z = 1) := fun w => by obtain ⟨rfl, rfl⟩ := w; exact hg e.symm
  have n36 : ¬ (36 ≤ x ∧ x ≤ 43) := fun w => by
    have : x = 36 ∨ x = 37 ∨ x = 38 ∨ x = 39 ∨ x = 40 ∨ x = 41 ∨ x = 42 ∨ x = 43 := by omega
    rcases this with rfl | rfl | rfl | rfl | rfl | rfl | rfl | rfl <;> exact hg e.symm
  rw [h2.2.2 x y z n35 (by omega), h1.2.2 x y z n1 (by omega)]
theorem jn_tree {P : bt_PT} {d : Nat} {G : m_I → m_L → Prop} {I : m_I} {L : m_L} {T : Nat} {nb : Nat → Nat} {n : Int32} (hF : gF I T nb) (h0 : G I L) (h : ∀ I', T < 8 → gF I' (T + 1) nb → (∀ g, g ≠ 1 → Qg g I I') → G I' L) :
    bt_WP P (d + 6) mi_B_tree [vr 0 0, vi n] (I, L) (kI fun x I1 L1 => bt_WP P (d + 6) mi_M_tree [vr 35 0, vi n] (I1, L1) (kI fun y I2 L2 => x = y ∧ G I2 L2)) := by
  have hT8 := hF.1.2.1
  have hcT := hF.1.1
  have hmT := hF.2.1.1
  have z10 : ¬ (10 : Int32) = 0 := by decide
  have z100 : ¬ (100 : Int32) = 0 := by decide
  have hin : ((0 : Int32) ≤ n ∧ n ≤ 999) ↔ ¬ oob n 1000 := in_oob (n := 1000) (by omega) (by omega)
  rcases ix n 1000 (by omega) with q | ⟨n, hn, rfl⟩
  · have hm : bt_WP P (d + 6) mi_M_tree [vr 35 0, vi n] (I, L) (kI fun y I2 L2 => (-1) = y ∧ G I2 L2) := by
      refine ru_M_tree (sm_in ?_)
      rw [bP_f (fun z => hin.mp z q)]; exact ⟨(fun z => absurd rfl z), fun _ => ⟨rfl, h0⟩⟩
    refine ru_B_tree ⟨fun _ => hm, fun h1 => ⟨fun h2 => absurd q (hin.mp ⟨Int32.not_lt.mp h1, h2⟩), fun _ => hm⟩⟩
  · have e1 : nI n / 100 = nI (n / 100) := pk_div (d := 100) (by omega) (by omega) (by omega)
    have e2 : nI n / 10 = nI (n / 10) := pk_div (d := 10) (by omega) (by omega) (by omega)
    have e3 : nI (n / 10) - nI (n / 10) / 10 * 10 = nI (n / 10 % 10) := pk_rem (d := 10) (by omega) (by omega) (by omega)
    have e4 : nI n - nI (n / 10) * 10 = nI (n % 10) := by
      have := pk_rem (a := n) (d := 10) (by omega) (by omega) (by omega)
      rw [show nI 10 = 10 from rfl, e2] at this; exact this
    have b1 : n / 100 < 10 := by omega
    have b2 : n / 10 % 10 < 10 := Nat.mod_lt _ (by omega)
    have b3 : n % 10 < 10 := Nat.mod_lt _ (by omega)
    have hm : ∀ (Q : Int32 → m_I → m_L → Prop) (I1 : m_I), I1 35 0 1 = nI T → (T = 8 → Q (-3) I1 L) → (T < 8 → bt_WP P (d + 5) mi_M_addTree [vr 35 0, vi (nI (n / 100)), vi (nI (n / 10 % 10)), vi (nI (n % 10))] (I1, L) (kI Q)) → bt_WP P (d + 6) mi_M_tree [vr 35 0, vi (nI n)] (I1, L) (kI Q) := fun Q I1 eT c8 cl => by
      have q8 : nI T = 8 ↔ T = 8 := neq (b := 8) (by omega) (by omega)
      refine ru_M_tree (sm_in ?_)
      rw [bP_t (hin.mpr (n_oob hn (by omega))), eT, e2, e1, e3, e4]
      exact ⟨fun _ => ⟨fun z => ⟨z100, z10, z10, z10, cl (by have h50 : ¬ T = 8 := (fun w => z (q8.mpr w)); omega)⟩, fun z => c8 (q8.mp z)⟩, (fun z => absurd z (by decide))⟩
    refine ru_B_tree ⟨fun z => absurd z (n_neg (by omega)), fun _ => ⟨fun _ => ⟨z100, z10, z10, z10, ?_⟩, fun z => absurd (hin.mpr (n_oob hn (by omega))).2 z⟩⟩
    rw [e2, e1, e3, e4]
    rcases Nat.lt_or_ge T 8 with q | q
    · refine sp_plant (I0 := I) (c := 0) (T := T) (val := fun k _ => if k = 0 then nI (n / 100) else if k = 1 then nI (n / 10 % 10) else nI (n % 10)) (plC_0 hcT) (by omega) (fun I1 h1 => ?_)
      have hm1 : I1 35 0 1 = nI T := by rw [h1.2.2 35 0 1 (by omega) (by omega)]; exact hmT
      refine hm _ _ hm1 (fun z => by omega) (fun _ => ?_)
      refine sm_addTree (I0 := I1) (c := 0) (T := T) (val := fun k _ => if k = 0 then nI (n / 100) else if k = 1 then nI (n / 10 % 10) else nI (n % 10)) (plM_0 hm1) (by omega) (fun I2 h2 => ⟨rfl, ?_⟩)
      exact h I2 q (gF_plant hF h1 h2 (by omega) (fun j _ => ⟨⟨_, b1, rfl⟩, ⟨_, b2, rfl⟩, ⟨_, b3, rfl⟩⟩)) (Qg_plant h1 h2)
    · have e8 : T = 8 := by omega
      subst e8
      exact sp_plant8 hcT (hm _ _ hmT (fun _ => ⟨rfl, h0⟩) (fun z => by omega))
