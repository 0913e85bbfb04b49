/-! THE LAW: a line, both sides -/
def rgF (j : Nat) (I I' : m_I) : Prop := ∀ a b c, ¬ ((a = 35 ∧ 23 ≤ c ∧ c ≤ 26) ∨ ((a = 50 ∨ a = 51) ∧ 130 ≤ c) ∨ (a = 52 ∧ c = 1) ∨ ((a = 53 ∨ a = 54) ∧ 61 + j ≤ c)) → I' a b c = I a b c
theorem rgF_tr {j : Nat} {I I' I'' : m_I} (h : rgF j I I') (h' : rgF j I' I'') : rgF j I I'' := fun a b c z => (h' a b c z).trans (h a b c z)
theorem rgF_f {j : Nat} {I I' : m_I} (h : rfF I I') : rgF j I I' := fun a b c z => h a b c (fun y => z (by rcases y with y | y; exact Or.inl y; exact Or.inr (Or.inl y)))
theorem rgF_s {j : Nat} {I I' : m_I} (h : rgF (j + 1) I I') : rgF j I I' := fun a b c z => h a b c (fun y => z (by omega))
theorem rgF_53 {j k : Nat} {I : m_I} {v : Int32} (hk : k = 53 ∨ k = 54) : rgF j I (ui I k 0 (61 + j) v) := fun a b c z => by
  by_cases q : a = k
  · exact ui_j (by omega)
  · exact ui_k q
theorem rgF_52 {j : Nat} {I : m_I} {v : Int32} : rgF j I (ui I 52 0 1 v) := fun a b c z => by
  by_cases q : a = 52
  · exact ui_j (by omega)
  · exact ui_k q
section LIN
variable {P : bt_PT} {fd p p' : Nat} {tp : Nat → Nat}
theorem rfP_k {I : m_I} {k n : Nat} {v : Int32} (h : rfP I fd tp p) (h1 : 35 ≠ k) (h2 : 49 ≠ k) : rfP (ui I k 0 n v) fd tp p := by
  obtain ⟨a1, a2, a3, a4, a5, a6⟩ := h
  exact ⟨a1, by rw [ui_k h1]; exact a2, fun j hj => by rw [ui_k h2]; exact a3 j hj, a4, by rw [ui_k h1]; exact a5, a6⟩
theorem rfS_k {I : m_I} {k n op : Nat} {v : Int32} {ss : List Nat} (h : rfS I fd tp p op ss) (h1 : 35 ≠ k) (h2 : 49 ≠ k) (h3 : 50 ≠ k) (h4 : 51 ≠ k) : rfS (ui I k 0 n v) fd tp p op ss := by
  obtain ⟨a1, a2, a3, a4, a5⟩ := h
  exact ⟨rfP_k a1 h1 h2, by rw [ui_k h1]; exact a2, by rw [ui_k h1]; exact a3, by rw [ui_k h1]; exact a4, fun i hi => by rw [ui_k h3, ui_k h4]; exact a5 i hi⟩
theorem sh_2 {n : Nat} (h : n < 200) : ((nI n).toInt16.toInt32).toInt16.toInt32 = nI n := by rw [i16_lo n h, i16_lo n h]
def nC (P : bt_PT) (fd : Nat) (tp : Nat → Nat) (p p' : Nat) (l : Ln) : Prop := ∀ (d : Nat) (f : Int32 → m_I → m_L → Prop) (I : m_I) (L : m_L) (cs : List Int32), tcS I fd tp p cs → cs.length ≤ p → (∀ I', tcS I' fd tp p' (cs ++ lnK l) → tcF I I' → f 1 I' L) → bt_WP P (d + 53) mi_La_readLine [vr 7 0] (I, L) (kI f)
def nX (P : bt_PT) (fd : Nat) (tp : Nat → Nat) (p p' : Nat) (v : Int32) : Prop := ∀ (d : Nat) (f : Int32 → m_I → m_L → Prop) (I : m_I) (L : m_L) (cs : List Int32), tcS I fd tp p cs → cs.length ≤ p → (∀ I', tcB I' fd tp p' → tcF I I' → f v I' L) → bt_WP P (d + 53) mi_La_readLine [vr 7 0] (I, L) (kI f)
def nM (P : bt_PT) (fd : Nat) (tp : Nat → Nat) (p p' : Nat) (l : Ln) : Prop := ∀ (d j : Nat) (f : m_I → m_L → Prop) (I : m_I) (L : m_L) (ss : List Nat), rfS I fd tp p 0 ss → ss.length ≤ p → I 52 0 1 = nI j → j ≤ 60 → (∀ I', rfS I' fd tp p' 0 (ss ++ lnT l) → I' 52 0 1 = nI (j + 1) → I' 53 0 (61 + j) = nI (ss.length + ((lnT l).length - l.2.length)) → I' 54 0 (61 + j) = nI (ss.length + (lnT l).length) → rgF j I I' → f I' L) → bt_WP P (d + 47) mi_M_line [vr 35 0] (I, L) (kV f)
def nF (P : bt_PT) (fd : Nat) (tp : Nat → Nat) (p p' : Nat) : Prop := ∀ (d j : Nat) (f : m_I → m_L → Prop) (I : m_I) (L : m_L) (ss : List Nat), rfS I fd tp p 0 ss → ss.length ≤ p → I 52 0 1 = nI j → j ≤ 60 → (∀ I', rfP I' fd tp p' → I' 35 0 24 = nI p' → rgF j I I' → f I' L) → bt_WP P (d + 47) mi_M_line [vr 35 0] (I, L) (kV f)
def nO (P : bt_PT) (fd : Nat) (tp : Nat → Nat) (p : Nat) : Prop :=
  (∃ p' l, p < p' ∧ p' ≤ fd ∧ wfL l ∧ (lnK l).length ≤ p' - p ∧ (lnT l).length ≤ p' - p ∧ nC P fd tp p p' l ∧ nM P fd tp p p' l) ∨
  (∃ p', p ≤ p' ∧ p' ≤ fd ∧ nX P fd tp p p' 0 ∧ nF P fd tp p p') ∨
  (∃ p', p < p' ∧ p' ≤ fd ∧ dgP (chB fd tp p') ∧ nX P fd tp p p' 1 ∧ nF P fd tp p p')
/-- the line's first part is read -/
theorem ln_in {d j : Nat} {f : m_I → m_L → Prop} {I : m_I} {L : m_L} {ss : List Nat} (h : rfS I fd tp p 0 ss) (hs : ss.length ≤ p) (hj : I 52 0 1 = nI j) (hj6 : j ≤ 60) (g : ∀ I0, I0 = ui I 53 0 (61 + j) (nI ss.length) → rfS I0 fd tp p 0 ss → rgF j I I0 → I0 52 0 1 = nI j → bt_WP P (d + 46) mi_M_either [vr 35 0] (I0, L) (kV fun I1 N2 => (0 ≤ (I1 35 0 24) → f (ui (ui I1 54 0 (61 + j) (((I1 35 0 26).toInt16.toInt32).toInt16.toInt32)) 52 0 1 ((I1 52 0 1) + 1)) N2) ∧ (¬ 0 ≤ (I1 35 0 24) → (bt_WP P (d + 46) mi_M_look [vr 35 0] (I1, N2) (kI fun x5 I3 N4 => (¬ x5 = 63 → f (ui (ui I3 54 0 (61 + j) (((I3 35 0 26).toInt16.toInt32).toInt16.toInt32)) 52 0 1 ((I3 52 0 1) + 1)) N4) ∧ (x5 = 63 → (bt_WP P (d + 46) mi_M_either [vr 35 0] (ui (ui I3 35 0 23 ((I3 35 0 23) + 1)) 53 0 (61 + j) (((I3 35 0 26).toInt16.toInt32).toInt16.toInt32), N4) (kV fun I6 N7 => f (ui (ui I6 54 0 (61 + j) (((I6 35 0 26).toInt16.toInt32).toInt16.toInt32)) 52 0 1 ((I6 52 0 1) + 1)) N7)))))))) : bt_WP P (d + 47) mi_M_line [vr 35 0] (I, L) (kV f) := by
  have hpf := h.1.2.2.2.2.2
  have hfd := h.1.1
  have e61 : (61 : Int32) + nI j = nI (61 + j) := nI_add 61 j
  have v1 : vp_in (1 : Int32) 2 := ti_in (n := 1) (by omega) (by omega)
  have v2 : vp_in (nI (61 + j)) 122 := ti_in (by omega) (by omega)
  have h26 := h.2.2.2.1
  have g' := g _ rfl (rfS_k h (by decide) (by decide) (by decide) (by decide)) (rgF_53 (Or.inl rfl)) (by rw [ui_k (by decide)]; exact hj)
  refine ru_M_line ?_
  have ek : ∀ (J : m_I) (x : Int32), ui J 54 0 (61 + j) x 52 0 1 = J 52 0 1 := fun J x => ui_k (by decide)
  have e23 : ∀ (J : m_I) (x : Int32), ui J 35 0 23 x 35 0 26 = J 35 0 26 := fun J x => ui_j (by decide)
  rw [show tn 1 = 1 from rfl, hj, e61, ti_tn (n := 61 + j) (by omega), h26, sh_2 (by omega)]
  refine ⟨v1, v2, ?_⟩
  simp only [ek, e23]
  refine bt_WP_imp g' (fun r σ y => ?_)
  match r, y with
  | none, y =>
    refine ⟨fun z => ⟨v2, v1, v1, y.1 z⟩, fun z => bt_WP_imp (y.2 z) (fun r σ y => ?_)⟩
    match r, y with
    | some (.inl x), y =>
      refine ⟨fun z => ⟨v2, v1, v1, y.1 z⟩, fun z => ⟨v2, bt_WP_imp (y.2 z) (fun r σ y => ?_)⟩⟩
      match r, y with
      | none, y => exact ⟨v2, v1, v1, y⟩
theorem nM_end {j : Nat} {I I1 : m_I} {ss : List Nat} (h : rfS I1 fd tp p' 0 ss) (hl : ss.length < 200) (hj : I1 52 0 1 = nI j) (hg : rgF j I I1) : rfS (ui (ui I1 54 0 (61 + j) (((I1 35 0 26).toInt16.toInt32).toInt16.toInt32)) 52 0 1 ((I1 52 0 1) + 1)) fd tp p' 0 ss ∧ ui (ui I1 54 0 (61 + j) (((I1 35 0 26).toInt16.toInt32).toInt16.toInt32)) 52 0 1 ((I1 52 0 1) + 1) 52 0 1 = nI (j + 1) ∧ ui (ui I1 54 0 (61 + j) (((I1 35 0 26).toInt16.toInt32).toInt16.toInt32)) 52 0 1 ((I1 52 0 1) + 1) 54 0 (61 + j) = nI ss.length ∧ rgF j I (ui (ui I1 54 0 (61 + j) (((I1 35 0 26).toInt16.toInt32).toInt16.toInt32)) 52 0 1 ((I1 52 0 1) + 1)) := by
  refine ⟨rfS_k (rfS_k h (by decide) (by decide) (by decide) (by decide)) (by decide) (by decide) (by decide) (by decide), ?_, ?_, rgF_tr hg (rgF_tr (rgF_53 (Or.inr rfl)) rgF_52)⟩
  · rw [ui_same, hj, nI_s]
  · rw [ui_k (by decide), ui_same, h.2.2.2.1, sh_2 hl]
theorem nF_end {j : Nat} {I I1 : m_I} {v w : Int32} (h : rfP I1 fd tp p') (h24 : I1 35 0 24 = nI p') (hg : rgF j I I1) : rfP (ui (ui I1 54 0 (61 + j) v) 52 0 1 w) fd tp p' ∧ ui (ui I1 54 0 (61 + j) v) 52 0 1 w 35 0 24 = nI p' ∧ rgF j I (ui (ui I1 54 0 (61 + j) v) 52 0 1 w) :=
  ⟨rfP_k (rfP_k h (by decide) (by decide)) (by decide) (by decide), by rw [ui_k (by decide), ui_k (by decide)]; exact h24, rgF_tr hg (rgF_tr (rgF_53 (Or.inr rfl)) rgF_52)⟩
theorem ln_cls {d : Nat} {f : Int32 → m_I → m_L → Prop} {I : m_I} {L : m_L} (g : bt_WP P (d + Dc 0 0) (cM 0) (cG 0 0) (I, L) (kI fun x3 I1 N2 => (¬ x3 = 0 → (bt_WP P (d + 52) mi_La_next [vr 7 0] (I1, N2) (kI fun x6 I4 N5 => (x6 = 63 → (bt_WP P (d + 52) mi_La_note [vr 7 0, vi (-63)] (ui I4 7 0 5 ((I4 7 0 5) + 1), N5) (kV fun I7 N8 => bt_WP P (d + Dc 0 0) (cM 0) (cG 0 0) (I7, N8) (kI fun x11 I9 N10 => (x11 = 0 ∨ x11 = 1) ∧ f x11 I9 N10)))) ∧ (¬ x6 = 63 → f 1 I4 N5)))) ∧ (x3 = 0 → f 0 I1 N2))) : bt_WP P (d + 53) mi_La_readLine [vr 7 0] (I, L) (kI f) := by
  refine ru_La_readLine (bt_WP_imp g (fun r σ y => ?_))
  match r, y with
  | some (.inl x), y =>
    refine ⟨fun z => bt_WP_imp (y.1 z) (fun r σ y => ?_), fun z => ⟨z01, y.2 z⟩⟩
    match r, y with
    | some (.inl x), y => exact ⟨y.1, fun z => ⟨o01, y.2 z⟩⟩
theorem nO_all (P : bt_PT) {fd p : Nat} (tp : Nat → Nat) (hfd : fd ≤ 120) (hp : p ≤ fd) : nO P fd tp p := by
  have e46 : Dm 0 0 = 46 := rfl
  rcases pO_all P (l := 0) (op := 0) tp hfd hp (by omega) (by omega) with ⟨p', k, h1, h2, h3, h4, h5, h6⟩ | ⟨p', h1, h2, h5, h6⟩ | ⟨p', h1, h2, h3, h5, h6⟩
  · by_cases q : chB fd tp p' = 63
    · have hp' : p' < fd := ch_lt q (by omega)
      have hC : ∀ {d : Nat} {f : Int32 → m_I → m_L → Prop} {I : m_I} {L : m_L} {cs : List Int32}, tcS I fd tp p cs → cs.length ≤ p → (∀ I', tcS I' fd tp (p' + 1) ((cs ++ k.map cC) ++ [-63]) → ((cs ++ k.map cC) ++ [(-63 : Int32)]).length ≤ p' + 1 → tcF I I' → bt_WP P (d + Dc 0 0) (cM 0) (cG 0 0) (I', L) (kI fun x11 I9 N10 => (x11 = 0 ∨ x11 = 1) ∧ f x11 I9 N10)) → bt_WP P (d + 53) mi_La_readLine [vr 7 0] (I, L) (kI f) := fun {d f I L cs} h hc g => by
        refine ln_cls (h5 d _ I L cs h hc (fun I' a1 a2 => ⟨fun _ => sp_next a1.1 ⟨fun _ => ?_, fun z => absurd ((cB_eq (c := 63) a1.1.2.2.2.1 (by omega)).mpr q) z⟩, (fun z => absurd z (by decide))⟩))
        obtain ⟨b1, b2⟩ := tcS_at a1 hp'
        have hln : (cs ++ k.map cC).length ≤ p' := by rw [List.length_append, List.length_map]; omega
        rw [a1.1.2.2.2.2.1]
        refine sp_note b1 (by omega) (fun I2 c1 c2 => g I2 c1 ?_ (tcF_tr (tcF_tr a2 b2) c2))
        rw [List.length_append]; show _ + 1 ≤ _; omega
      have hM : ∀ {d j : Nat} {f : m_I → m_L → Prop} {I : m_I} {L : m_L} {ss : List Nat}, rfS I fd tp p 0 ss → ss.length ≤ p → I 52 0 1 = nI j → j ≤ 60 → (∀ I', rfS I' fd tp (p' + 1) 0 (ss ++ k) → (ss ++ k).length ≤ p' → I' 52 0 1 = nI j → I' 53 0 (61 + j) = nI (ss ++ k).length → rgF j I I' → bt_WP P (d + 46) mi_M_either [vr 35 0] (I', L) (kV fun I6 N7 => f (ui (ui I6 54 0 (61 + j) (((I6 35 0 26).toInt16.toInt32).toInt16.toInt32)) 52 0 1 ((I6 52 0 1) + 1)) N7)) → bt_WP P (d + 47) mi_M_line [vr 35 0] (I, L) (kV f) := fun {d j f I L ss} h hs hj hj6 g => by
        refine ln_in h hs hj hj6 (fun I0 e0 a1 a2 a3 => h6 d _ I0 L ss a1 hs (fun I1 b1 b2 => ⟨fun z => absurd z (by rw [b1.2.1]; decide), fun _ => sm_look b1.1 ⟨fun z => absurd ((mB_eq (c := 63) b1.1.2.2.2.1 (by omega)).mpr q) z, fun _ => ?_⟩⟩))
        have hln : (ss ++ k).length ≤ p' := by rw [List.length_append]; omega
        rw [b1.1.2.2.2.2.1, b1.2.2.2.1, sh_2 (by omega)]
        refine g _ (rfS_k (rfS_at b1 hp') (by decide) (by decide) (by decide) (by decide)) hln ?_ (ui_same _ _ _ _ _) ?_
        · rw [ui_k (by decide), ui_k (by decide), b2 52 0 1 (by omega)]; exact a3
        · exact rgF_tr a2 (rgF_tr (rgF_f b2) (rgF_tr (rgF_f (rfF_35 (by omega))) (rgF_53 (Or.inl rfl))))
      rcases pO_all P (p := p' + 1) (l := 0) (op := 0) tp hfd (by omega) (by omega) (by omega) with ⟨p2, k2, g1, g2, g3, g4, g5, g6⟩ | ⟨p2, g1, g2, g5, g6⟩ | ⟨p2, g1, g2, g3, g5, g6⟩
      · left
        have hkl : (lnK (some k, k2)).length = k.length + 1 + k2.length := by
          show ((k.map cC ++ [-63]) ++ k2.map cC).length = _
          rw [List.length_append, List.length_append, List.length_map, List.length_map]; rfl
        have htl : (lnT (some k, k2)).length = k.length + k2.length := List.length_append
        refine ⟨p2, (some k, k2), by omega, g2, ⟨fun t ht => by cases ht; exact h3, g3⟩, by omega, by omega, fun d f I L cs h hc g => hC h hc (fun I' a1 a2 a3 => g5 d _ I' L _ a1 a2 (fun I2 b1 b2 => ⟨o01, g I2 ?_ (tcF_tr a3 b2)⟩)), fun d j f I L ss h hs hj hj6 g => hM h hs hj hj6 (fun I' a1 a2 a3 a4 a5 => g6 d _ I' L _ a1 (by omega) (fun I2 b1 b2 => ?_))⟩
        · show tcS I2 fd tp p2 (cs ++ ((k.map cC ++ [-63]) ++ k2.map cC))
          rw [← List.append_assoc, ← List.append_assoc]; exact b1
        · have b1' : rfS I2 fd tp p2 0 (ss ++ lnT (some k, k2)) := by
            show rfS I2 fd tp p2 0 (ss ++ (k ++ k2))
            rw [← List.append_assoc]; exact b1
          have hlen : (ss ++ lnT (some k, k2)).length = ss.length + (lnT (some k, k2)).length := List.length_append
          obtain ⟨c1, c2, c3, c4⟩ := nM_end b1' (by omega) ((b2 52 0 1 (by omega)).trans a3) (rgF_tr a5 (rgF_f b2))
          rw [hlen] at c3
          refine g _ c1 c2 ?_ c3 c4
          rw [ui_k (by decide), ui_k (by decide), b2 53 0 _ (by omega), a4, htl, List.length_append]
          congr 2
          show k.length = k.length + k2.length - k2.length
          omega
      · right; left
        refine ⟨p2, by omega, g2, fun d f I L cs h hc g => hC h hc (fun I' a1 a2 a3 => g5 d _ I' L _ a1 a2 (fun I2 b1 b2 => ⟨z01, g I2 b1 (tcF_tr a3 b2)⟩)), fun d j f I L ss h hs hj hj6 g => hM h hs hj hj6 (fun I' a1 a2 a3 a4 a5 => g6 d _ I' L _ a1 (by omega) (fun I2 ln b1 bl b2 => ?_))⟩
        obtain ⟨c1, c2, c3⟩ := nF_end b1.1 b1.2.1 (rgF_tr a5 (rgF_f b2))
        exact g _ c1 c2 c3
      · right; right
        refine ⟨p2, by omega, g2, g3, fun d f I L cs h hc g => hC h hc (fun I' a1 a2 a3 => g5 d _ I' L _ a1 a2 (fun I2 b1 b2 => ⟨o01, g I2 b1 (tcF_tr a3 b2)⟩)), fun d j f I L ss h hs hj hj6 g => hM h hs hj hj6 (fun I' a1 a2 a3 a4 a5 => g6 d _ I' L _ a1 (by omega) (fun I2 ln b1 bl b2 => ?_))⟩
        obtain ⟨c1, c2, c3⟩ := nF_end b1.1 b1.2.1 (rgF_tr a5 (rgF_f b2))
        exact g _ c1 c2 c3
    · left
      have hkl : (lnK (none, k)).length = k.length := by
        show (([] : List Int32) ++ k.map cC).length = _
        rw [List.nil_append, List.length_map]
      refine ⟨p', (none, k), h1, h2, ⟨fun t ht => (nomatch ht), h3⟩, by omega, by show k.length ≤ _; omega, fun d f I L cs h hc g => ln_cls (h5 d _ I L cs h hc (fun I' a1 a2 => ⟨fun _ => sp_next a1.1 ⟨fun z => absurd ((cB_eq (c := 63) a1.1.2.2.2.1 (by omega)).mp z) q, fun _ => g I' a1 a2⟩, (fun z => absurd z (by decide))⟩)), fun d j f I L ss h hs hj hj6 g => ?_⟩
      refine ln_in h hs hj hj6 (fun I0 e0 a1 a2 a3 => h6 d _ I0 L ss a1 hs (fun I1 b1 b2 => ⟨fun z => absurd z (by rw [b1.2.1]; decide), fun _ => sm_look b1.1 ⟨fun _ => ?_, fun z => absurd ((mB_eq (c := 63) b1.1.2.2.2.1 (by omega)).mp z) q⟩⟩))
      have hlen : (ss ++ k).length = ss.length + k.length := List.length_append
      obtain ⟨c1, c2, c3, c4⟩ := nM_end b1 (by omega) ((b2 52 0 1 (by omega)).trans a3) (rgF_tr a2 (rgF_f b2))
      rw [hlen] at c3
      refine g _ c1 c2 ?_ c3 c4
      show _ = nI (ss.length + (k.length - k.length))
      rw [ui_k (by decide), ui_k (by decide), b2 53 0 _ (by omega), e0, ui_same, Nat.sub_self, Nat.add_zero]
  · right; left
    refine ⟨p', h1, h2, fun d f I L cs h hc g => ln_cls (h5 d _ I L cs h hc (fun I' a1 a2 => ⟨(fun z => absurd rfl z), fun _ => g I' a1 a2⟩)), fun d j f I L ss h hs hj hj6 g => ?_⟩
    refine ln_in h hs hj hj6 (fun I0 e0 a1 a2 a3 => h6 d _ I0 L ss a1 hs (fun I1 ln b1 bl b2 => ⟨fun _ => ?_, fun z => absurd ?_ z⟩))
    · obtain ⟨c1, c2, c3⟩ := nF_end b1.1 b1.2.1 (rgF_tr a2 (rgF_f b2))
      exact g _ c1 c2 c3
    · rw [b1.2.1]; exact (nle (a := 0) (by omega) (by omega)).mpr (by omega)
  · right; right
    have h63 : ¬ chB fd tp p' = 63 := fun z => by have := h3.2; omega
    refine ⟨p', h1, h2, h3, fun d f I L cs h hc g => ln_cls (h5 d _ I L cs h hc (fun I' a1 a2 => ⟨fun _ => sp_next a1.1 ⟨fun z => absurd ((cB_eq (c := 63) a1.1.2.2.2.1 (by omega)).mp z) h63, fun _ => g I' a1 a2⟩, (fun z => absurd z (by decide))⟩)), fun d j f I L ss h hs hj hj6 g => ?_⟩
    refine ln_in h hs hj hj6 (fun I0 e0 a1 a2 a3 => h6 d _ I0 L ss a1 hs (fun I1 ln b1 bl b2 => ⟨fun _ => ?_, fun z => absurd ?_ z⟩))
    · obtain ⟨c1, c2, c3⟩ := nF_end b1.1 b1.2.1 (rgF_tr a2 (rgF_f b2))
      exact g _ c1 c2 c3
    · rw [b1.2.1]; exact (nle (a := 0) (by omega) (by omega)).mpr (by omega)
end LIN
