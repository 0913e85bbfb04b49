/-! THE LAW'S LOOP: what holds at its head; each case keeps it -/
def wQ (P : bt_PT) (I : m_I) (L : m_L) : Prop := ∃ (T : Nat) (nb : Nat → Nat) (dn kp bn rn fd : Nat) (F : lF), gF I T nb ∧ gC I T dn kp ∧ gI I T ∧ gB I bn rn ∧ gS I L bn ∧ gA I fd ∧ gL P I F
theorem slN_up {T T' a : Nat} (h : T ≤ T') : slN T a ≤ slN T' a := by
  unfold slN
  repeat' split
  all_goals omega
theorem gC_T {I : m_I} {T T' dn kp : Nat} (h : gC I T dn kp) (hT : T ≤ T') : gC I T' dn kp := by
  obtain ⟨h1, h2, h3, h4, h5, h6, h7⟩ := h
  refine ⟨h1, h2, h3, h4, h5, h6, fun k hk => ?_⟩
  obtain ⟨a1, a2, a3, a4, a, b, b1, b2, b3, b4, b5⟩ := h7 k hk
  exact ⟨a1, a2, a3, a4, a, b, b1, b2, b3, Nat.lt_of_lt_of_le b4 (slN_up hT), b5⟩
theorem gI_T {I : m_I} {T T' : Nat} (h : gI I T) (hT : T ≤ T') : gI I T' := by
  rcases h with h | ⟨n, h1, h2⟩
  · exact Or.inl h
  · exact Or.inr ⟨n, by omega, h2⟩
theorem gS_b {I : m_I} {L : m_L} {bn bn' : Nat} (h : gS I L bn) (hb : bn ≤ bn') : gS I L bn' := fun s hs => by
  obtain ⟨x, z, h1, h2, h3, h4, h5, h6, h7⟩ := h s hs
  exact ⟨x, z, h1, h2, h3, h4, h5, h6, fun b e => Nat.lt_of_lt_of_le (h7 b e) hb⟩
/-- the groups but 1 as before -/
theorem wq_1 {P : bt_PT} {I I' : m_I} {L : m_L} {T T' dn kp bn rn fd : Nat} {nb' : Nat → Nat} {F : lF} (hC : gC I T dn kp) (hI : gI I T) (hB : gB I bn rn) (hS : gS I L bn) (hA : gA I fd) (hL : gL P I F) (hF : gF I' T' nb') (hT : T ≤ T') (q : ∀ g, g ≠ 1 → g ≠ 0 → Qg g I I') : wQ P I' L :=
  ⟨T', nb', dn, kp, bn, rn, fd, F, hF, gC_T (gC_Q hC (q 2 (by decide) (by decide))) hT, gI_T (gI_Q hI (q 3 (by decide) (by decide))) hT, gB_Q hB (q 4 (by decide) (by decide)), gS_Q hS (q 5 (by decide) (by decide)) Ql_rf, gA_Q hA (q 6 (by decide) (by decide)), gL_Q hL (Qw_6 (q 6 (by decide) (by decide)))⟩
theorem wq_12 {P : bt_PT} {I I' : m_I} {L : m_L} {T dn' kp' bn rn fd : Nat} {nb : Nat → Nat} {F : lF} (hI : gI I T) (hB : gB I bn rn) (hS : gS I L bn) (hA : gA I fd) (hL : gL P I F) (hF : gF I' T nb) (hC : gC I' T dn' kp') (q : ∀ g, g ≠ 1 → g ≠ 2 → Qg g I I') : wQ P I' L :=
  ⟨T, nb, dn', kp', bn, rn, fd, F, hF, hC, gI_Q hI (q 3 (by decide) (by decide)), gB_Q hB (q 4 (by decide) (by decide)), gS_Q hS (q 5 (by decide) (by decide)) Ql_rf, gA_Q hA (q 6 (by decide) (by decide)), gL_Q hL (Qw_6 (q 6 (by decide) (by decide)))⟩
theorem wq_3 {P : bt_PT} {I I' : m_I} {L : m_L} {T dn kp bn rn fd : Nat} {nb : Nat → Nat} {F : lF} (hF : gF I T nb) (hC : gC I T dn kp) (hB : gB I bn rn) (hS : gS I L bn) (hA : gA I fd) (hL : gL P I F) (hI : gI I' T) (q : ∀ g, g ≠ 3 → Qg g I I') : wQ P I' L :=
  ⟨T, nb, dn, kp, bn, rn, fd, F, gF_Q hF (q 1 (by decide)), gC_Q hC (q 2 (by decide)), hI, gB_Q hB (q 4 (by decide)), gS_Q hS (q 5 (by decide)) Ql_rf, gA_Q hA (q 6 (by decide)), gL_Q hL (Qw_6 (q 6 (by decide)))⟩
theorem wq_4 {P : bt_PT} {I I' : m_I} {L : m_L} {T dn kp bn bn' rn' fd : Nat} {nb : Nat → Nat} {F : lF} (hF : gF I T nb) (hC : gC I T dn kp) (hI : gI I T) (hS : gS I L bn) (hA : gA I fd) (hL : gL P I F) (hB : gB I' bn' rn') (hb : bn ≤ bn') (q : ∀ g, g ≠ 4 → g ≠ 0 → Qg g I I') : wQ P I' L :=
  ⟨T, nb, dn, kp, bn', rn', fd, F, gF_Q hF (q 1 (by decide) (by decide)), gC_Q hC (q 2 (by decide) (by decide)), gI_Q hI (q 3 (by decide) (by decide)), hB, gS_b (gS_Q hS (q 5 (by decide) (by decide)) Ql_rf) hb, gA_Q hA (q 6 (by decide) (by decide)), gL_Q hL (Qw_6 (q 6 (by decide) (by decide)))⟩
theorem wq_5 {P : bt_PT} {I I' : m_I} {L' : m_L} {T dn kp bn rn fd : Nat} {nb : Nat → Nat} {F : lF} (hF : gF I T nb) (hC : gC I T dn kp) (hI : gI I T) (hB : gB I bn rn) (hA : gA I fd) (hL : gL P I F) (hS : gS I' L' bn) (q : ∀ g, g ≠ 5 → Qg g I I') : wQ P I' L' :=
  ⟨T, nb, dn, kp, bn, rn, fd, F, gF_Q hF (q 1 (by decide)), gC_Q hC (q 2 (by decide)), gI_Q hI (q 3 (by decide)), gB_Q hB (q 4 (by decide)), hS, gA_Q hA (q 6 (by decide)), gL_Q hL (Qw_6 (q 6 (by decide)))⟩
theorem wq_6 {P : bt_PT} {I I' : m_I} {L : m_L} {T dn kp bn rn fd' : Nat} {nb : Nat → Nat} {F' : lF} (hF : gF I T nb) (hC : gC I T dn kp) (hI : gI I T) (hB : gB I bn rn) (hS : gS I L bn) (hA : gA I' fd') (hL : gL P I' F') (q : ∀ g, g ≠ 6 → g ≠ 0 → Qg g I I') : wQ P I' L :=
  ⟨T, nb, dn, kp, bn, rn, fd', F', gF_Q hF (q 1 (by decide) (by decide)), gC_Q hC (q 2 (by decide) (by decide)), gI_Q hI (q 3 (by decide) (by decide)), gB_Q hB (q 4 (by decide) (by decide)), gS_Q hS (q 5 (by decide) (by decide)) Ql_rf, hA, hL⟩
theorem wq_0 {P : bt_PT} {I I' : m_I} {L L' : m_L} (h : wQ P I L) (q : Scr I L I' L') : wQ P I' L' := by
  obtain ⟨T, nb, dn, kp, bn, rn, fd, F, hF, hC, hI, hB, hS, hA, hL⟩ := h
  exact ⟨T, nb, dn, kp, bn, rn, fd, F, gF_Q hF (Qg_scr q (by decide)), gC_Q hC (Qg_scr q (by decide)), gI_Q hI (Qg_scr q (by decide)), gB_Q hB (Qg_scr q (by decide)), gS_Q hS (Qg_scr q (by decide)) q.2, gA_Q hA (Qg_scr q (by decide)), gL_Q hL (Qw_S q)⟩
theorem qg_feed {I I' : m_I} (fr : ∀ a b c, ¬ (a = 8) → ¬ (a = 49) → ¬ (a = 7 ∧ c = 4) → ¬ (a = 35 ∧ c = 22) → I' a b c = I a b c) : ∀ g, g ≠ 6 → g ≠ 0 → Qg g I I' := fun g h6 h0 a b c e => by
  refine fr a b c (fun z => ?_) (fun z => ?_) (fun z => ?_) (fun z => ?_)
  · subst z; exact h6 (e.symm.trans rfl)
  · subst z; exact h6 (e.symm.trans rfl)
  · obtain ⟨rfl, rfl⟩ := z; exact h6 (e.symm.trans rfl)
  · obtain ⟨rfl, rfl⟩ := z; exact h6 (e.symm.trans rfl)
theorem gp_t {k c : Nat} (hk : k = 50 ∨ k = 51 ∨ k = 52 ∨ k = 53 ∨ k = 54) : gp k c = 6 ∨ gp k c = 0 := by
  rcases hk with rfl | rfl | rfl | rfl | rfl
  all_goals
    unfold gp
    split
    · exact Or.inr rfl
    · exact Or.inl rfl
theorem qg_law {I I' : m_I} (fr : lwA I I') : ∀ g, g ≠ 6 → g ≠ 0 → Qg g I I' := fun g h6 h0 a b c e => by
  refine fr a b c (fun z => ?_)
  rcases z with rfl | rfl | ⟨rfl, h1, h2⟩ | ⟨rfl, h1⟩ | rfl | rfl | rfl | rfl | rfl
  · exact h0 (e.symm.trans rfl)
  · exact h6 (e.symm.trans rfl)
  · have hc : c = 4 ∨ c = 5 ∨ c = 6 ∨ c = 7 := by omega
    rcases hc with rfl | rfl | rfl | rfl
    · exact h6 (e.symm.trans rfl)
    · exact h0 (e.symm.trans rfl)
    · exact h0 (e.symm.trans rfl)
    · exact h6 (e.symm.trans rfl)
  · have hc : c = 22 ∨ c = 23 ∨ c = 24 ∨ c = 25 ∨ c = 26 ∨ c = 34 := by omega
    rcases hc with rfl | rfl | rfl | rfl | rfl | rfl
    · exact h6 (e.symm.trans rfl)
    · exact h0 (e.symm.trans rfl)
    · exact h0 (e.symm.trans rfl)
    · exact h0 (e.symm.trans rfl)
    · exact h0 (e.symm.trans rfl)
    · exact h6 (e.symm.trans rfl)
  · exact (gp_t (k := 50) (c := c) (by omega)).elim (fun y => h6 (e.symm.trans y)) (fun y => h0 (e.symm.trans y))
  · exact (gp_t (k := 51) (c := c) (by omega)).elim (fun y => h6 (e.symm.trans y)) (fun y => h0 (e.symm.trans y))
  · exact (gp_t (k := 52) (c := c) (by omega)).elim (fun y => h6 (e.symm.trans y)) (fun y => h0 (e.symm.trans y))
  · exact (gp_t (k := 53) (c := c) (by omega)).elim (fun y => h6 (e.symm.trans y)) (fun y => h0 (e.symm.trans y))
  · exact (gp_t (k := 54) (c := c) (by omega)).elim (fun y => h6 (e.symm.trans y)) (fun y => h0 (e.symm.trans y))
theorem jj {P : bt_PT} {D : Nat} {mc mm : bt_MI} {ac am : List av_T} {σ : st_T} {G : m_I → m_L → Prop} {f : Int32 → m_I → m_L → Prop} (W : Prop → Prop) (hV : ∀ q, q → W q) (h : bt_WP P D mc ac σ (kI fun x I1 L1 => bt_WP P D mm am (I1, L1) (kI fun y I2 L2 => x = y ∧ G I2 L2))) : bt_WP P D mc ac σ (kI fun x3 I1 N2 => W (bt_WP P D mm am (I1, N2) (kI fun x6 I4 N5 => (x3 = x6 → G I4 N5) ∧ (¬ x3 = x6 → (((0 : Int32) = 0 ∨ (0 : Int32) = 1) ∧ f 0 I4 N5))))) := by
  refine bt_WP_imp h (fun r σ y => ?_)
  match r, y with
  | some (.inl x), y =>
    refine hV _ (bt_WP_imp y (fun r σ y => ?_))
    match r, y with
    | some (.inl z), y => exact ⟨fun _ => y.2, fun e => absurd y.1 e⟩
theorem jjL {P : bt_PT} {D : Nat} {mc mm : bt_MI} {ac am : List av_T} {σ : st_T} {G : m_I → m_L → Prop} {f : Int32 → m_I → m_L → Prop} (W : Prop → Prop) (hV : ∀ q, q → W q) (h : bt_WP P D mc ac σ (kL fun x I1 L1 => bt_WP P D mm am (I1, L1) (kL fun y I2 L2 => x = y ∧ G I2 L2))) : bt_WP P D mc ac σ (kL fun x3 I1 N2 => W (bt_WP P D mm am (I1, N2) (kL fun x6 I4 N5 => (lg_cmp x3 x6 = 0 → G I4 N5) ∧ (¬ lg_cmp x3 x6 = 0 → (((0 : Int32) = 0 ∨ (0 : Int32) = 1) ∧ f 0 I4 N5))))) := by
  refine bt_WP_imp h (fun r σ y => ?_)
  match r, y with
  | some (.inr (.inl x)), y =>
    refine hV _ (bt_WP_imp y (fun r σ y => ?_))
    match r, y with
    | some (.inr (.inl z)), y => exact ⟨fun _ => y.2, fun e => absurd ((lg_eq _ _).mpr y.1) e⟩
def GX (P : bt_PT) (d : Nat) (f : Int32 → m_I → m_L → Prop) (v : Int32) (I : m_I) (L : m_L) : Prop := bt_Go P (d + 60) mi_X_law (kI f) 1287 [some (vr 103 0), some (vr 0 0), some (vr 35 0), some (vi v)] [] (I, L)
section CAS
variable {P : bt_PT} {d : Nat} {f : Int32 → m_I → m_L → Prop} {v : Int32} {I : m_I} {L : m_L}
theorem cs_184 (hw : wQ P I L) (e1 : vp_in (v + 1) (bt_xn P)) (IH : ∀ I' L', wQ P I' L' → GX P d f v I' L') : bt_Go P (d + 60) mi_X_law (kI f) 184 [some (vr 103 0), some (vr 0 0), some (vr 35 0), some (vi v)] [] (I, L) := by
  obtain ⟨T, nb, dn, kp, bn, rn, fd, F, hF, hC, hI, hB, hS, hA, hL⟩ := id hw
  exact ru_X_law_184 ⟨e1, jj (fun q => vp_in (v + 1) (bt_xn P) ∧ q) (fun _ h => ⟨e1, h⟩) (jn_tree hF (IH _ _ hw) (fun I1 _ h1 q => IH _ _ (wq_1 hC hI hB hS hA hL h1 (by omega) (fun g a _ => q g a))))⟩
theorem cs_207 (hw : wQ P I L) (e1 : vp_in (v + 1) (bt_xn P)) (e2 : vp_in (v + 2) (bt_xn P)) (e3 : vp_in (v + 3) (bt_xn P)) (IH : ∀ I' L', wQ P I' L' → GX P d f v I' L') : bt_Go P (d + 60) mi_X_law (kI f) 207 [some (vr 103 0), some (vr 0 0), some (vr 35 0), some (vi v)] [] (I, L) := by
  obtain ⟨T, nb, dn, kp, bn, rn, fd, F, hF, hC, hI, hB, hS, hA, hL⟩ := id hw
  exact ru_X_law_207 ⟨e1, e2, e3, jj (fun q => vp_in (v + 1) (bt_xn P) ∧ vp_in (v + 2) (bt_xn P) ∧ vp_in (v + 3) (bt_xn P) ∧ q) (fun _ h => ⟨e1, e2, e3, h⟩) (jn_treesE hF hS hB.1 (IH _ _ hw) (fun c I1 _ h1 q => IH _ _ (wq_1 hC hI hB hS hA hL h1 (by omega) (fun g a _ => q g a))))⟩
theorem cs_250 (hw : wQ P I L) (e1 : vp_in (v + 1) (bt_xn P)) (IH : ∀ I' L', wQ P I' L' → GX P d f v I' L') : bt_Go P (d + 60) mi_X_law (kI f) 250 [some (vr 103 0), some (vr 0 0), some (vr 35 0), some (vi v)] [] (I, L) := by
  obtain ⟨T, nb, dn, kp, bn, rn, fd, F, hF, hC, hI, hB, hS, hA, hL⟩ := id hw
  exact ru_X_law_250 ⟨e1, jj (fun q => vp_in (v + 1) (bt_xn P) ∧ q) (fun _ h => ⟨e1, h⟩) (jn_path hF (fun I1 nb1 h1 q => IH _ _ (wq_1 hC hI hB hS hA hL h1 (Nat.le_refl _) (fun g a _ => q g a))))⟩
theorem cs_273 (hw : wQ P I L) (e1 : vp_in (v + 1) (bt_xn P)) (e2 : vp_in (v + 2) (bt_xn P)) (e3 : vp_in (v + 3) (bt_xn P)) (IH : ∀ I' L', wQ P I' L' → GX P d f v I' L') : bt_Go P (d + 60) mi_X_law (kI f) 273 [some (vr 103 0), some (vr 0 0), some (vr 35 0), some (vi v)] [] (I, L) := by
  obtain ⟨T, nb, dn, kp, bn, rn, fd, F, hF, hC, hI, hB, hS, hA, hL⟩ := id hw
  exact ru_X_law_273 ⟨e1, e2, e3, jj (fun q => vp_in (v + 1) (bt_xn P) ∧ vp_in (v + 2) (bt_xn P) ∧ vp_in (v + 3) (bt_xn P) ∧ q) (fun _ h => ⟨e1, e2, e3, h⟩) (jn_mend hF hC (fun I1 _ _ h1 h2 q => IH _ _ (wq_12 hI hB hS hA hL h1 h2 q)))⟩
theorem cs_316 (hw : wQ P I L) (e1 : vp_in (v + 1) (bt_xn P)) (e2 : vp_in (v + 2) (bt_xn P)) (IH : ∀ I' L', wQ P I' L' → GX P d f v I' L') : bt_Go P (d + 60) mi_X_law (kI f) 316 [some (vr 103 0), some (vr 0 0), some (vr 35 0), some (vi v)] [] (I, L) := by
  obtain ⟨T, nb, dn, kp, bn, rn, fd, F, hF, hC, hI, hB, hS, hA, hL⟩ := id hw
  exact ru_X_law_316 ⟨e1, e2, jj (fun q => vp_in (v + 1) (bt_xn P) ∧ vp_in (v + 2) (bt_xn P) ∧ q) (fun _ h => ⟨e1, e2, h⟩) (jn_of hF (fun I1 q => IH _ _ (wq_0 hw q)))⟩
theorem cs_349 (hw : wQ P I L) (e1 : vp_in (v + 1) (bt_xn P)) (IH : ∀ I' L', wQ P I' L' → GX P d f v I' L') : bt_Go P (d + 60) mi_X_law (kI f) 349 [some (vr 103 0), some (vr 0 0), some (vr 35 0), some (vi v)] [] (I, L) := by
  obtain ⟨T, nb, dn, kp, bn, rn, fd, F, hF, hC, hI, hB, hS, hA, hL⟩ := id hw
  exact ru_X_law_349 ⟨e1, jj (fun q => vp_in (v + 1) (bt_xn P) ∧ q) (fun _ h => ⟨e1, h⟩) (jn_feed hA (IH _ _ hw) (fun I1 _ h1 e7 fr => IH _ _ (wq_6 hF hC hI hB hS h1 (gL_Q hL ⟨fun c => fr 10 0 c (by omega) (by omega) (by omega) (by omega), e7, fr 35 0 34 (by omega) (by omega) (by omega) (by omega), fun c _ => ⟨fr 50 0 c (by omega) (by omega) (by omega) (by omega), fr 51 0 c (by omega) (by omega) (by omega) (by omega)⟩, fr 52 0 0 (by omega) (by omega) (by omega) (by omega), fun c _ => ⟨fr 53 0 c (by omega) (by omega) (by omega) (by omega), fr 54 0 c (by omega) (by omega) (by omega) (by omega)⟩⟩) (qg_feed fr))))⟩
theorem cs_372 (hw : wQ P I L)  (IH : ∀ I' L', wQ P I' L' → GX P d f v I' L') : bt_Go P (d + 60) mi_X_law (kI f) 372 [some (vr 103 0), some (vr 0 0), some (vr 35 0), some (vi v)] [] (I, L) := by
  obtain ⟨T, nb, dn, kp, bn, rn, fd, F, hF, hC, hI, hB, hS, hA, hL⟩ := id hw
  exact ru_X_law_372 (jj (fun q => q) (fun _ h => h) (jn_law hA hL (fun I1 F1 h1 h2 fr => IH _ _ (wq_6 hF hC hI hB hS h1 h2 (qg_law fr)))))
theorem cs_385 (hw : wQ P I L) (e1 : vp_in (v + 1) (bt_xn P)) (e2 : vp_in (v + 2) (bt_xn P)) (e3 : vp_in (v + 3) (bt_xn P)) (IH : ∀ I' L', wQ P I' L' → GX P d f v I' L') : bt_Go P (d + 60) mi_X_law (kI f) 385 [some (vr 103 0), some (vr 0 0), some (vr 35 0), some (vi v)] [] (I, L) := by
  obtain ⟨T, nb, dn, kp, bn, rn, fd, F, hF, hC, hI, hB, hS, hA, hL⟩ := id hw
  obtain ⟨hu, X, Z, hx⟩ := cx_of hF hS hB.1 hL
  exact ru_X_law_385 ⟨e1, e2, e3, jj (fun q => vp_in (v + 1) (bt_xn P) ∧ vp_in (v + 2) (bt_xn P) ∧ vp_in (v + 3) (bt_xn P) ∧ q) (fun _ h => ⟨e1, e2, e3, h⟩) (jn_sound hx (fun I1 q => IH _ _ (wq_0 hw q)))⟩
theorem cs_428 (hw : wQ P I L) (e1 : vp_in (v + 1) (bt_xn P)) (e2 : vp_in (v + 2) (bt_xn P)) (IH : ∀ I' L', wQ P I' L' → GX P d f v I' L') : bt_Go P (d + 60) mi_X_law (kI f) 428 [some (vr 103 0), some (vr 0 0), some (vr 35 0), some (vi v)] [] (I, L) := by
  obtain ⟨T, nb, dn, kp, bn, rn, fd, F, hF, hC, hI, hB, hS, hA, hL⟩ := id hw
  obtain ⟨hu, X, Z, hx⟩ := cx_of hF hS hB.1 hL
  exact ru_X_law_428 ⟨e1, e2, jj (fun q => vp_in (v + 1) (bt_xn P) ∧ vp_in (v + 2) (bt_xn P) ∧ q) (fun _ h => ⟨e1, e2, h⟩) (jn_fits hx (fun I1 L1 q => IH _ _ (wq_0 hw q)))⟩
theorem cs_461 (hw : wQ P I L) (e1 : vp_in (v + 1) (bt_xn P)) (e2 : vp_in (v + 2) (bt_xn P)) (IH : ∀ I' L', wQ P I' L' → GX P d f v I' L') : bt_Go P (d + 60) mi_X_law (kI f) 461 [some (vr 103 0), some (vr 0 0), some (vr 35 0), some (vi v)] [] (I, L) := by
  obtain ⟨T, nb, dn, kp, bn, rn, fd, F, hF, hC, hI, hB, hS, hA, hL⟩ := id hw
  obtain ⟨hu, X, Z, hx⟩ := cx_of hF hS hB.1 hL
  exact ru_X_law_461 ⟨e1, e2, jj (fun q => vp_in (v + 1) (bt_xn P) ∧ vp_in (v + 2) (bt_xn P) ∧ q) (fun _ h => ⟨e1, e2, h⟩) (jn_canBe hx (fun I1 L1 q => IH _ _ (wq_0 hw q)))⟩
theorem cs_494 (hw : wQ P I L) (e1 : vp_in (v + 1) (bt_xn P)) (e2 : vp_in (v + 2) (bt_xn P)) (e3 : vp_in (v + 3) (bt_xn P)) (IH : ∀ I' L', wQ P I' L' → GX P d f v I' L') : bt_Go P (d + 60) mi_X_law (kI f) 494 [some (vr 103 0), some (vr 0 0), some (vr 35 0), some (vi v)] [] (I, L) := by
  obtain ⟨T, nb, dn, kp, bn, rn, fd, F, hF, hC, hI, hB, hS, hA, hL⟩ := id hw
  obtain ⟨hu, X, Z, hx⟩ := cx_of hF hS hB.1 hL
  exact ru_X_law_494 ⟨e1, e2, e3, jj (fun q => vp_in (v + 1) (bt_xn P) ∧ vp_in (v + 2) (bt_xn P) ∧ vp_in (v + 3) (bt_xn P) ∧ q) (fun _ h => ⟨e1, e2, e3, h⟩) (jn_two hx (fun I1 q => IH _ _ (wq_0 hw q)))⟩
theorem cs_537 (hw : wQ P I L) (e1 : vp_in (v + 1) (bt_xn P)) (e2 : vp_in (v + 2) (bt_xn P)) (e3 : vp_in (v + 3) (bt_xn P)) (IH : ∀ I' L', wQ P I' L' → GX P d f v I' L') : bt_Go P (d + 60) mi_X_law (kI f) 537 [some (vr 103 0), some (vr 0 0), some (vr 35 0), some (vi v)] [] (I, L) := by
  obtain ⟨T, nb, dn, kp, bn, rn, fd, F, hF, hC, hI, hB, hS, hA, hL⟩ := id hw
  obtain ⟨hu, X, Z, hx⟩ := cx_of hF hS hB.1 hL
  exact ru_X_law_537 ⟨e1, e2, e3, jj (fun q => vp_in (v + 1) (bt_xn P) ∧ vp_in (v + 2) (bt_xn P) ∧ vp_in (v + 3) (bt_xn P) ∧ q) (fun _ h => ⟨e1, e2, e3, h⟩) (jn_least hx (fun I1 q => IH _ _ (wq_0 hw q)))⟩
theorem cs_580 (hw : wQ P I L) (e1 : vp_in (v + 1) (bt_xn P)) (e2 : vp_in (v + 2) (bt_xn P)) (IH : ∀ I' L', wQ P I' L' → GX P d f v I' L') : bt_Go P (d + 60) mi_X_law (kI f) 580 [some (vr 103 0), some (vr 0 0), some (vr 35 0), some (vi v)] [] (I, L) := by
  obtain ⟨T, nb, dn, kp, bn, rn, fd, F, hF, hC, hI, hB, hS, hA, hL⟩ := id hw
  obtain ⟨hu, X, Z, hx⟩ := cx_of hF hS hB.1 hL
  exact ru_X_law_580 ⟨e1, e2, jj (fun q => vp_in (v + 1) (bt_xn P) ∧ vp_in (v + 2) (bt_xn P) ∧ q) (fun _ h => ⟨e1, e2, h⟩) (jn_gone hx (fun I1 q => IH _ _ (wq_0 hw q)))⟩
theorem cs_613 (hw : wQ P I L) (e1 : vp_in (v + 1) (bt_xn P)) (e2 : vp_in (v + 2) (bt_xn P)) (IH : ∀ I' L', wQ P I' L' → GX P d f v I' L') : bt_Go P (d + 60) mi_X_law (kI f) 613 [some (vr 103 0), some (vr 0 0), some (vr 35 0), some (vi v)] [] (I, L) := by
  obtain ⟨T, nb, dn, kp, bn, rn, fd, F, hF, hC, hI, hB, hS, hA, hL⟩ := id hw
  obtain ⟨hu, X, Z, hx⟩ := cx_of hF hS hB.1 hL
  exact ru_X_law_613 ⟨e1, e2, jj (fun q => vp_in (v + 1) (bt_xn P) ∧ vp_in (v + 2) (bt_xn P) ∧ q) (fun _ h => ⟨e1, e2, h⟩) (jn_apart hx (fun I1 q => IH _ _ (wq_0 hw q)))⟩
theorem cs_646 (hw : wQ P I L) (e1 : vp_in (v + 1) (bt_xn P)) (e2 : vp_in (v + 2) (bt_xn P)) (IH : ∀ I' L', wQ P I' L' → GX P d f v I' L') : bt_Go P (d + 60) mi_X_law (kI f) 646 [some (vr 103 0), some (vr 0 0), some (vr 35 0), some (vi v)] [] (I, L) := by
  obtain ⟨T, nb, dn, kp, bn, rn, fd, F, hF, hC, hI, hB, hS, hA, hL⟩ := id hw
  obtain ⟨hu, X, Z, hx⟩ := cx_of hF hS hB.1 hL
  exact ru_X_law_646 ⟨e1, e2, jj (fun q => vp_in (v + 1) (bt_xn P) ∧ vp_in (v + 2) (bt_xn P) ∧ q) (fun _ h => ⟨e1, e2, h⟩) (jn_enough hx (fun I1 q => IH _ _ (wq_0 hw q)))⟩
theorem cs_679 (hw : wQ P I L) (e1 : vp_in (v + 1) (bt_xn P)) (IH : ∀ I' L', wQ P I' L' → GX P d f v I' L') : bt_Go P (d + 60) mi_X_law (kI f) 679 [some (vr 103 0), some (vr 0 0), some (vr 35 0), some (vi v)] [] (I, L) := by
  obtain ⟨T, nb, dn, kp, bn, rn, fd, F, hF, hC, hI, hB, hS, hA, hL⟩ := id hw
  exact ru_X_law_679 ⟨e1, jj (fun q => vp_in (v + 1) (bt_xn P) ∧ q) (fun _ h => ⟨e1, h⟩) (jn_tuned hF (IH _ _ hw))⟩
theorem cs_702 (hw : wQ P I L) (e1 : vp_in (v + 1) (bt_xn P)) (e2 : vp_in (v + 2) (bt_xn P)) (e3 : vp_in (v + 3) (bt_xn P)) (IH : ∀ I' L', wQ P I' L' → GX P d f v I' L') : bt_Go P (d + 60) mi_X_law (kI f) 702 [some (vr 103 0), some (vr 0 0), some (vr 35 0), some (vi v)] [] (I, L) := by
  obtain ⟨T, nb, dn, kp, bn, rn, fd, F, hF, hC, hI, hB, hS, hA, hL⟩ := id hw
  obtain ⟨hu, X, Z, hx⟩ := cx_of hF hS hB.1 hL
  exact ru_X_law_702 ⟨e1, e2, e3, jj (fun q => vp_in (v + 1) (bt_xn P) ∧ vp_in (v + 2) (bt_xn P) ∧ vp_in (v + 3) (bt_xn P) ∧ q) (fun _ h => ⟨e1, e2, e3, h⟩) (jn_drawn hx (fun I1 q => IH _ _ (wq_0 hw q)))⟩
theorem cs_745 (hw : wQ P I L) (e1 : vp_in (v + 1) (bt_xn P)) (e2 : vp_in (v + 2) (bt_xn P)) (IH : ∀ I' L', wQ P I' L' → GX P d f v I' L') : bt_Go P (d + 60) mi_X_law (kI f) 745 [some (vr 103 0), some (vr 0 0), some (vr 35 0), some (vi v)] [] (I, L) := by
  obtain ⟨T, nb, dn, kp, bn, rn, fd, F, hF, hC, hI, hB, hS, hA, hL⟩ := id hw
  exact ru_X_law_745 ⟨e1, e2, jj (fun q => vp_in (v + 1) (bt_xn P) ∧ vp_in (v + 2) (bt_xn P) ∧ q) (fun _ h => ⟨e1, e2, h⟩) (jn_years hF (IH _ _ hw) (fun I1 h1 q => IH _ _ (wq_1 hC hI hB hS hA hL h1 (Nat.le_refl _) q)))⟩
theorem cs_778 (hw : wQ P I L) (e1 : vp_in (v + 1) (bt_xn P)) (e2 : vp_in (v + 2) (bt_xn P)) (IH : ∀ I' L', wQ P I' L' → GX P d f v I' L') : bt_Go P (d + 60) mi_X_law (kI f) 778 [some (vr 103 0), some (vr 0 0), some (vr 35 0), some (vi v)] [] (I, L) := by
  obtain ⟨T, nb, dn, kp, bn, rn, fd, F, hF, hC, hI, hB, hS, hA, hL⟩ := id hw
  obtain ⟨hu, X, Z, hx⟩ := cx_of hF hS hB.1 hL
  exact ru_X_law_778 ⟨e1, e2, jj (fun q => vp_in (v + 1) (bt_xn P) ∧ vp_in (v + 2) (bt_xn P) ∧ q) (fun _ h => ⟨e1, e2, h⟩) (jn_walk hx (IH _ _ hw) (fun I1 h1 q => IH _ _ (wq_1 hC hI hB hS hA hL h1 (Nat.le_refl _) q)))⟩
theorem cs_811 (hw : wQ P I L) (e1 : vp_in (v + 1) (bt_xn P)) (e2 : vp_in (v + 2) (bt_xn P)) (IH : ∀ I' L', wQ P I' L' → GX P d f v I' L') : bt_Go P (d + 60) mi_X_law (kI f) 811 [some (vr 103 0), some (vr 0 0), some (vr 35 0), some (vi v)] [] (I, L) := by
  obtain ⟨T, nb, dn, kp, bn, rn, fd, F, hF, hC, hI, hB, hS, hA, hL⟩ := id hw
  obtain ⟨hu, X, Z, hx⟩ := cx_of hF hS hB.1 hL
  exact ru_X_law_811 ⟨e1, e2, jj (fun q => vp_in (v + 1) (bt_xn P) ∧ vp_in (v + 2) (bt_xn P) ∧ q) (fun _ h => ⟨e1, e2, h⟩) (jn_judge hx (fun I1 q => IH _ _ (wq_0 hw q)))⟩
theorem cs_844 (hw : wQ P I L)  (IH : ∀ I' L', wQ P I' L' → GX P d f v I' L') : bt_Go P (d + 60) mi_X_law (kI f) 844 [some (vr 103 0), some (vr 0 0), some (vr 35 0), some (vi v)] [] (I, L) := by
  obtain ⟨T, nb, dn, kp, bn, rn, fd, F, hF, hC, hI, hB, hS, hA, hL⟩ := id hw
  exact ru_X_law_844 (jj (fun q => q) (fun _ h => h) (jn_image hF (fun I1 h1 q => IH _ _ (wq_3 hF hC hB hS hA hL h1 q))))
theorem cs_857 (hw : wQ P I L)  (IH : ∀ I' L', wQ P I' L' → GX P d f v I' L') : bt_Go P (d + 60) mi_X_law (kI f) 857 [some (vr 103 0), some (vr 0 0), some (vr 35 0), some (vi v)] [] (I, L) := by
  obtain ⟨T, nb, dn, kp, bn, rn, fd, F, hF, hC, hI, hB, hS, hA, hL⟩ := id hw
  exact ru_X_law_857 (jj (fun q => q) (fun _ h => h) (jn_back hF hI (fun I1 h1 q => IH _ _ (wq_1 hC hI hB hS hA hL h1 (Nat.le_refl _) (fun g a _ => q g a)))))
theorem cs_870 (hw : wQ P I L)  (IH : ∀ I' L', wQ P I' L' → GX P d f v I' L') : bt_Go P (d + 60) mi_X_law (kI f) 870 [some (vr 103 0), some (vr 0 0), some (vr 35 0), some (vi v)] [] (I, L) := by
  obtain ⟨T, nb, dn, kp, bn, rn, fd, F, hF, hC, hI, hB, hS, hA, hL⟩ := id hw
  exact ru_X_law_870 (jj (fun q => q) (fun _ h => h) (jn_undo hF hC (fun I1 _ _ h1 h2 q => IH _ _ (wq_12 hI hB hS hA hL h1 h2 q))))
theorem cs_883 (hw : wQ P I L)  (IH : ∀ I' L', wQ P I' L' → GX P d f v I' L') : bt_Go P (d + 60) mi_X_law (kI f) 883 [some (vr 103 0), some (vr 0 0), some (vr 35 0), some (vi v)] [] (I, L) := by
  obtain ⟨T, nb, dn, kp, bn, rn, fd, F, hF, hC, hI, hB, hS, hA, hL⟩ := id hw
  exact ru_X_law_883 (jj (fun q => q) (fun _ h => h) (jn_redo hF hC (fun I1 _ _ h1 h2 q => IH _ _ (wq_12 hI hB hS hA hL h1 h2 q))))
theorem cs_896 (hw : wQ P I L) (e1 : vp_in (v + 1) (bt_xn P)) (IH : ∀ I' L', wQ P I' L' → GX P d f v I' L') : bt_Go P (d + 60) mi_X_law (kI f) 896 [some (vr 103 0), some (vr 0 0), some (vr 35 0), some (vi v)] [] (I, L) := by
  obtain ⟨T, nb, dn, kp, bn, rn, fd, F, hF, hC, hI, hB, hS, hA, hL⟩ := id hw
  exact ru_X_law_896 ⟨e1, jj (fun q => vp_in (v + 1) (bt_xn P) ∧ q) (fun _ h => ⟨e1, h⟩) (jn_body hB (IH _ _ hw) (fun _ I1 h1 q => IH _ _ (wq_4 hF hC hI hS hA hL h1 (Nat.le_succ _) (fun g a _ => q g a))))⟩
theorem cs_919 (hw : wQ P I L) (e1 : vp_in (v + 1) (bt_xn P)) (e2 : vp_in (v + 2) (bt_xn P)) (e3 : vp_in (v + 3) (bt_xn P)) (IH : ∀ I' L', wQ P I' L' → GX P d f v I' L') : bt_Go P (d + 60) mi_X_law (kI f) 919 [some (vr 103 0), some (vr 0 0), some (vr 35 0), some (vi v)] [] (I, L) := by
  obtain ⟨T, nb, dn, kp, bn, rn, fd, F, hF, hC, hI, hB, hS, hA, hL⟩ := id hw
  exact ru_X_law_919 ⟨e1, e2, e3, jj (fun q => vp_in (v + 1) (bt_xn P) ∧ vp_in (v + 2) (bt_xn P) ∧ vp_in (v + 3) (bt_xn P) ∧ q) (fun _ h => ⟨e1, e2, e3, h⟩) (jn_act hB (fun I1 _ h1 q => IH _ _ (wq_4 hF hC hI hS hA hL h1 (Nat.le_refl _) q)))⟩
theorem cs_962 (hw : wQ P I L) (e1 : vp_in (v + 1) (bt_xn P)) (IH : ∀ I' L', wQ P I' L' → GX P d f v I' L') : bt_Go P (d + 60) mi_X_law (kI f) 962 [some (vr 103 0), some (vr 0 0), some (vr 35 0), some (vi v)] [] (I, L) := by
  obtain ⟨T, nb, dn, kp, bn, rn, fd, F, hF, hC, hI, hB, hS, hA, hL⟩ := id hw
  exact ru_X_law_962 ⟨e1, jj (fun q => vp_in (v + 1) (bt_xn P) ∧ q) (fun _ h => ⟨e1, h⟩) (jn_trace hB (IH _ _ hw))⟩
theorem cs_985 (hw : wQ P I L) (e1 : vp_in (v + 1) (bt_xn P)) (e2 : vp_in (v + 2) (bt_xn P)) (IH : ∀ I' L', wQ P I' L' → GX P d f v I' L') : bt_Go P (d + 60) mi_X_law (kI f) 985 [some (vr 103 0), some (vr 0 0), some (vr 35 0), some (vi v)] [] (I, L) := by
  obtain ⟨T, nb, dn, kp, bn, rn, fd, F, hF, hC, hI, hB, hS, hA, hL⟩ := id hw
  exact ru_X_law_985 ⟨e1, e2, jj (fun q => vp_in (v + 1) (bt_xn P) ∧ vp_in (v + 2) (bt_xn P) ∧ q) (fun _ h => ⟨e1, e2, h⟩) (jn_keep hS hB (fun I1 L1 h1 q => IH _ _ (wq_5 hF hC hI hB hA hL h1 q)))⟩
theorem cs_1018 (hw : wQ P I L) (e1 : vp_in (v + 1) (bt_xn P)) (e2 : vp_in (v + 2) (bt_xn P)) (e3 : vp_in (v + 3) (bt_xn P)) (IH : ∀ I' L', wQ P I' L' → GX P d f v I' L') : bt_Go P (d + 60) mi_X_law (kI f) 1018 [some (vr 103 0), some (vr 0 0), some (vr 35 0), some (vi v)] [] (I, L) := by
  obtain ⟨T, nb, dn, kp, bn, rn, fd, F, hF, hC, hI, hB, hS, hA, hL⟩ := id hw
  exact ru_X_law_1018 ⟨e1, e2, e3, jj (fun q => vp_in (v + 1) (bt_xn P) ∧ vp_in (v + 2) (bt_xn P) ∧ vp_in (v + 3) (bt_xn P) ∧ q) (fun _ h => ⟨e1, e2, e3, h⟩) (jn_row hS (fun I1 L1 h1 q => IH _ _ (wq_5 hF hC hI hB hA hL h1 q)))⟩
theorem cs_1061 (hw : wQ P I L) (e1 : vp_in (v + 1) (bt_xn P)) (e2 : vp_in (v + 2) (bt_xn P)) (e3 : vp_in (v + 3) (bt_xn P)) (e4 : vp_in (v + 4) (bt_xn P)) (IH : ∀ I' L', wQ P I' L' → GX P d f v I' L') : bt_Go P (d + 60) mi_X_law (kI f) 1061 [some (vr 103 0), some (vr 0 0), some (vr 35 0), some (vi v)] [] (I, L) := by
  obtain ⟨T, nb, dn, kp, bn, rn, fd, F, hF, hC, hI, hB, hS, hA, hL⟩ := id hw
  exact ru_X_law_1061 ⟨e1, e2, e3, e4, jj (fun q => vp_in (v + 1) (bt_xn P) ∧ vp_in (v + 2) (bt_xn P) ∧ vp_in (v + 3) (bt_xn P) ∧ vp_in (v + 4) (bt_xn P) ∧ q) (fun _ h => ⟨e1, e2, e3, e4, h⟩) (jn_put hS hB.1 (fun I1 L1 h1 q => IH _ _ (wq_5 hF hC hI hB hA hL h1 q)))⟩
theorem cs_1134 (hw : wQ P I L) (e1 : vp_in (v + 1) (bt_xn P)) (e2 : vp_in (v + 2) (bt_xn P)) (IH : ∀ I' L', wQ P I' L' → GX P d f v I' L') : bt_Go P (d + 60) mi_X_law (kI f) 1134 [some (vr 103 0), some (vr 0 0), some (vr 35 0), some (vi v)] [] (I, L) := by
  obtain ⟨T, nb, dn, kp, bn, rn, fd, F, hF, hC, hI, hB, hS, hA, hL⟩ := id hw
  exact ru_X_law_1134 ⟨e1, e2, jjL (fun q => vp_in (v + 1) (bt_xn P) ∧ vp_in (v + 2) (bt_xn P) ∧ q) (fun _ h => ⟨e1, e2, h⟩) (jn_element hS hB.1 (IH _ _ hw))⟩
theorem cs_1168 (hw : wQ P I L) (e1 : vp_in (v + 1) (bt_xn P)) (e2 : vp_in (v + 2) (bt_xn P)) (e3 : vp_in (v + 3) (bt_xn P)) (e4 : vp_in (v + 4) (bt_xn P)) (e5 : vp_in (v + 5) (bt_xn P)) (IH : ∀ I' L', wQ P I' L' → GX P d f v I' L') : bt_Go P (d + 60) mi_X_law (kI f) 1168 [some (vr 103 0), some (vr 0 0), some (vr 35 0), some (vi v)] [] (I, L) := by
  obtain ⟨T, nb, dn, kp, bn, rn, fd, F, hF, hC, hI, hB, hS, hA, hL⟩ := id hw
  exact ru_X_law_1168 ⟨e1, e2, e3, e4, e5, jj (fun q => vp_in (v + 1) (bt_xn P) ∧ vp_in (v + 2) (bt_xn P) ∧ vp_in (v + 3) (bt_xn P) ∧ vp_in (v + 4) (bt_xn P) ∧ vp_in (v + 5) (bt_xn P) ∧ q) (fun _ h => ⟨e1, e2, e3, e4, e5, h⟩) (jn_shift hS hB.1 (fun I1 L1 h1 q => IH _ _ (wq_5 hF hC hI hB hA hL h1 q)))⟩
theorem cs_1231 (hw : wQ P I L) (e1 : vp_in (v + 1) (bt_xn P)) (e2 : vp_in (v + 2) (bt_xn P)) (IH : ∀ I' L', wQ P I' L' → GX P d f v I' L') : bt_Go P (d + 60) mi_X_law (kI f) 1231 [some (vr 103 0), some (vr 0 0), some (vr 35 0), some (vi v)] [] (I, L) := by
  obtain ⟨T, nb, dn, kp, bn, rn, fd, F, hF, hC, hI, hB, hS, hA, hL⟩ := id hw
  exact ru_X_law_1231 ⟨e1, e2, jj (fun q => vp_in (v + 1) (bt_xn P) ∧ vp_in (v + 2) (bt_xn P) ∧ q) (fun _ h => ⟨e1, e2, h⟩) (jn_taken hS hB (IH _ _ hw))⟩
theorem cs_1264 (hw : wQ P I L) (e1 : vp_in (v + 1) (bt_xn P)) (IH : ∀ I' L', wQ P I' L' → GX P d f v I' L') : bt_Go P (d + 60) mi_X_law (kI f) 1264 [some (vr 103 0), some (vr 0 0), some (vr 35 0), some (vi v)] [] (I, L) := by
  obtain ⟨T, nb, dn, kp, bn, rn, fd, F, hF, hC, hI, hB, hS, hA, hL⟩ := id hw
  exact ru_X_law_1264 ⟨e1, jj (fun q => vp_in (v + 1) (bt_xn P) ∧ q) (fun _ h => ⟨e1, h⟩) (jn_count (hF.1.1.trans hF.2.1.1.symm) hF.2.2.2.2.2.2.1.symm (hA.2.1.trans hA.2.2.1.symm) (hC.2.2.1.trans hC.2.2.2.2.1.symm) (hB.2.1.trans hB.2.2.1.symm) (hB.2.2.2.2.2.1.trans hB.2.2.2.2.2.2.1.symm) (IH _ _ hw))⟩
end CAS
