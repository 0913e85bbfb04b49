/-! act: the reference, joint -/
section ACM
variable {P : bt_PT} {d : Nat} {f : Int32 → m_I → m_L → Prop} {I : m_I} {L : m_L} {bi bn K r : Nat} {x : Int32}
def acM (I : m_I) (bi bn K r : Nat) : Prop := bi < bn ∧ bn ≤ 50 ∧ I 64 0 bi = nI K ∧ K < 8 ∧ I 35 0 47 = nI r
theorem acM_n (h : acM I bi bn K r) (n : Nat) : acM (ntM I n) bi bn K (r + 1) := ⟨h.1, h.2.1, (ntX_fr (by omega)).trans h.2.2.1, h.2.2.2.1, ntX_c h.2.2.2.2⟩
theorem acM_s : ∀ (l : List Nat) (I : m_I) (r : Nat), acM I bi bn K r → acM (ntS ntM I l) bi bn K (r + l.length)
  | [], I, r, h => h
  | n :: l, I, r, h => by
    have := acM_s l (ntM I n) (r + 1) (acM_n h n)
    rw [show r + (n :: l).length = r + 1 + l.length by rw [List.length_cons]; omega]
    exact this
theorem sm_ran {f : m_I → m_L → Prop} {n : Nat} (h : acM I bi bn K r) (hr : r < 1000) (g : f (ntM I n) L) : bt_WP P (d + 1) mi_M_ran [vr 35 0, vi (nI n)] (I, L) (kV f) := by
  have e := h.2.2.2.2
  unfold ntM ntX at g
  refine ru_M_ran ⟨fun z => ?_, fun z => ?_⟩
  · rw [if_pos z] at g; exact g
  · rw [if_neg z] at g
    refine ⟨?_, ?_⟩
    · rw [e]
      refine ti_in ?_ (by omega)
      rw [e] at z
      have : ¬ 24 ≤ r := fun y => z ((nle (a := 24) (by omega) (by omega)).mpr y)
      omega
    · rw [ui_k (by decide)]; exact g
theorem sm_plR' (h : acM I bi bn K r) (hr : r < 1000) (g : f (x + nI bi) (ntS ntM I [1]) L) : bt_WP P (d + 2) mi_M_plainRings [vr 35 0, vi (nI bi), vi x] (I, L) (kI f) :=
  ru_M_plainRings (sm_ran (n := 1) h hr g)
theorem sm_stR (h : acM I bi bn K r) (hr : r < 990) (g : f ((x + nI bi) * 2) (ntS ntM I [70, 1]) L) : bt_WP P (d + 3) mi_M_stolenRings [vr 35 0, vi (nI bi), vi x] (I, L) (kI f) :=
  ru_M_stolenRings (sm_ran (n := 70) h (by omega) (sm_plR' (acM_n h 70) (by omega) g))
theorem sm_ringing (h : acM I bi bn K r) (hr : r < 980) (g : f (rgV K (nI bi) x).1 (ntS ntM I (rgV K (nI bi) x).2) L) : bt_WP P (d + 4) mi_M_ringing [vr 35 0, vi (nI bi), vi x] (I, L) (kI f) := by
  have vb : vp_in (nI bi) 50 := ti_in (by have := h.1; have := h.2.1; omega) (by omega)
  have tb : tn (nI bi) = bi := ti_tn (by have := h.1; have := h.2.1; omega)
  have hK := h.2.2.2.1
  refine ru_M_ringing ⟨vb, ?_⟩
  rw [tb, h.2.2.1]
  refine sm_und hK (o := 1) (by omega) ?_
  rw [h.2.2.1]
  rcases k_8 hK with rfl | rfl | rfl | rfl | rfl | rfl | rfl | rfl
  · exact ⟨fun _ => ⟨vb, fun _ => ⟨vb, fun _ => sm_plR' h (by omega) g, (fun z => absurd z (by decide))⟩, (fun z => absurd z (by decide))⟩, (fun z => absurd z (by decide))⟩
  · exact ⟨(fun z => absurd z (by decide)), fun _ => sm_ran (n := 20) h (by omega) (sm_plR' (acM_n h 20) (by omega) g)⟩
  · exact ⟨fun _ => ⟨vb, fun _ => ⟨vb, fun _ => sm_plR' h (by omega) g, (fun z => absurd z (by decide))⟩, (fun z => absurd z (by decide))⟩, (fun z => absurd z (by decide))⟩
  · exact ⟨fun _ => ⟨vb, fun _ => ⟨vb, fun _ => sm_plR' h (by omega) g, (fun z => absurd z (by decide))⟩, (fun z => absurd z (by decide))⟩, (fun z => absurd z (by decide))⟩
  · exact ⟨(fun z => absurd z (by decide)), fun _ => sm_ran (n := 20) h (by omega) (sm_plR' (acM_n h 20) (by omega) g)⟩
  · exact ⟨fun _ => ⟨vb, fun _ => ⟨vb, fun _ => sm_plR' h (by omega) g, (fun z => absurd z (by decide))⟩, (fun z => absurd z (by decide))⟩, (fun z => absurd z (by decide))⟩
  · exact ⟨fun _ => ⟨vb, fun _ => ⟨vb, (fun z => absurd rfl z), fun _ => sm_stR h (by omega) g⟩, (fun z => absurd z (by decide))⟩, (fun z => absurd z (by decide))⟩
  · exact ⟨fun _ => ⟨vb, (fun z => absurd rfl z), fun _ => sm_ran (n := 81) h (by omega) (sm_stR (acM_n h 81) (by omega) g)⟩, (fun z => absurd z (by decide))⟩
theorem sm_plB (h : acM I bi bn K r) (hr : r < 970) (g : f (plB K (nI bi) x).1 (ntS ntM I (plB K (nI bi) x).2) L) : bt_WP P (d + 5) mi_M_plainBrushes [vr 35 0, vi (nI bi), vi x] (I, L) (kI f) :=
  ru_M_plainBrushes (sm_ran (n := 10) h (by omega) (sm_ringing (acM_n h 10) (by omega) g))
theorem sm_guB (h : acM I bi bn K r) (hr : r < 960) (g : f (guB K (nI bi) x).1 (ntS ntM I (guB K (nI bi) x).2) L) : bt_WP P (d + 6) mi_M_gustBrushes [vr 35 0, vi (nI bi), vi x] (I, L) (kI f) :=
  ru_M_gustBrushes (sm_ran (n := 30) h (by omega) (sm_plB (acM_n h 30) (by omega) g))
theorem sm_plH (h : acM I bi bn K r) (hr : r < 1000) (g : f (x ^^^ nI bi) (ntS ntM I [11]) L) : bt_WP P (d + 2) mi_M_plainHears [vr 35 0, vi (nI bi), vi x] (I, L) (kI f) :=
  ru_M_plainHears (sm_ran (n := 11) h hr g)
theorem sm_owH (h : acM I bi bn K r) (hr : r < 990) (g : f ((x ^^^ nI bi) * 3) (ntS ntM I [40, 11]) L) : bt_WP P (d + 3) mi_M_owlHears [vr 35 0, vi (nI bi), vi x] (I, L) (kI f) :=
  ru_M_owlHears (sm_ran (n := 40) h (by omega) (sm_plH (acM_n h 40) (by omega) g))
theorem sm_hearing (h : acM I bi bn K r) (hr : r < 960) (g : f (heV K (nI bi) x).1 (ntS ntM I (heV K (nI bi) x).2) L) : bt_WP P (d + 5) mi_M_hearing [vr 35 0, vi (nI bi), vi x] (I, L) (kI f) := by
  have vb : vp_in (nI bi) 50 := ti_in (by have := h.1; have := h.2.1; omega) (by omega)
  have tb : tn (nI bi) = bi := ti_tn (by have := h.1; have := h.2.1; omega)
  have hK := h.2.2.2.1
  refine ru_M_hearing ⟨vb, ?_⟩
  rw [tb, h.2.2.1]
  rcases k_8 hK with rfl | rfl | rfl | rfl | rfl | rfl | rfl | rfl
  · exact ⟨fun _ => ⟨vb, fun _ => sm_plH h (by omega) g, (fun z => absurd z (by decide))⟩, (fun z => absurd z (by decide))⟩
  · exact ⟨fun _ => ⟨vb, fun _ => sm_plH h (by omega) g, (fun z => absurd z (by decide))⟩, (fun z => absurd z (by decide))⟩
  · exact ⟨fun _ => ⟨vb, fun _ => sm_plH h (by omega) g, (fun z => absurd z (by decide))⟩, (fun z => absurd z (by decide))⟩
  · exact ⟨fun _ => ⟨vb, (fun z => absurd rfl z), fun _ => sm_owH h (by omega) g⟩, (fun z => absurd z (by decide))⟩
  · exact ⟨fun _ => ⟨vb, fun _ => sm_plH h (by omega) g, (fun z => absurd z (by decide))⟩, (fun z => absurd z (by decide))⟩
  · exact ⟨(fun z => absurd rfl z), fun _ => sm_ran (n := 60) h (by omega) (sm_owH (acM_n h 60) (by omega) (sm_ringing (acM_n (acM_n (acM_n h 60) 40) 11) (by omega) g))⟩
  · exact ⟨fun _ => ⟨vb, fun _ => sm_plH h (by omega) g, (fun z => absurd z (by decide))⟩, (fun z => absurd z (by decide))⟩
  · exact ⟨fun _ => ⟨vb, fun _ => sm_plH h (by omega) g, (fun z => absurd z (by decide))⟩, (fun z => absurd z (by decide))⟩
theorem sm_brushing (h : acM I bi bn K r) (hr : r < 940) (g : f (brV K (nI bi) x).1 (ntS ntM I (brV K (nI bi) x).2) L) : bt_WP P (d + 7) mi_M_brushing [vr 35 0, vi (nI bi), vi x] (I, L) (kI f) := by
  have vb : vp_in (nI bi) 50 := ti_in (by have := h.1; have := h.2.1; omega) (by omega)
  have tb : tn (nI bi) = bi := ti_tn (by have := h.1; have := h.2.1; omega)
  have hK := h.2.2.2.1
  refine ru_M_brushing ⟨vb, ?_⟩
  rw [tb, h.2.2.1]
  refine sm_und hK (o := 3) (by omega) ?_
  rw [h.2.2.1]
  rcases k_8 hK with rfl | rfl | rfl | rfl | rfl | rfl | rfl | rfl
  · exact ⟨fun _ => ⟨vb, fun _ => ⟨vb, fun _ => sm_plB h (by omega) g, (fun z => absurd z (by decide))⟩, (fun z => absurd z (by decide))⟩, (fun z => absurd z (by decide))⟩
  · exact ⟨fun _ => ⟨vb, fun _ => ⟨vb, fun _ => sm_plB h (by omega) g, (fun z => absurd z (by decide))⟩, (fun z => absurd z (by decide))⟩, (fun z => absurd z (by decide))⟩
  · exact ⟨fun _ => ⟨vb, fun _ => ⟨vb, (fun z => absurd rfl z), fun _ => sm_guB h (by omega) g⟩, (fun z => absurd z (by decide))⟩, (fun z => absurd z (by decide))⟩
  · exact ⟨(fun z => absurd z (by decide)), fun _ => sm_ran (n := 41) h (by omega) (sm_guB (acM_n h 41) (by omega) g)⟩
  · exact ⟨fun _ => ⟨vb, fun _ => ⟨vb, fun _ => sm_plB h (by omega) g, (fun z => absurd z (by decide))⟩, (fun z => absurd z (by decide))⟩, (fun z => absurd z (by decide))⟩
  · exact ⟨(fun z => absurd z (by decide)), fun _ => sm_ran (n := 41) h (by omega) (sm_guB (acM_n h 41) (by omega) g)⟩
  · exact ⟨fun _ => ⟨vb, fun _ => ⟨vb, fun _ => sm_plB h (by omega) g, (fun z => absurd z (by decide))⟩, (fun z => absurd z (by decide))⟩, (fun z => absurd z (by decide))⟩
  · have hl := rg_len 7 (nI bi) x
    refine ⟨fun _ => ⟨vb, (fun z => absurd rfl z), fun _ => sm_ran (n := 80) h (by omega) (sm_plB (acM_n h 80) (by omega) (sm_hearing (acM_s (plB 7 (nI bi) x).2 _ _ (acM_n h 80)) (by show r + 1 + ((rgV 7 (nI bi) x).2.length + 1) < 960; omega) ?_))⟩, (fun z => absurd z (by decide))⟩
    rw [← ntS_app]
    have g : f ((plB 7 (nI bi) x).1 + (heV 7 (nI bi) 2).1) (ntS ntM (ntM I 80) ((plB 7 (nI bi) x).2 ++ (heV 7 (nI bi) 2).2)) L := g
    exact g
theorem sm_plW (h : acM I bi bn K r) (hr : r < 920) (g : f (plW K (nI bi) x).1 (ntS ntM I (plW K (nI bi) x).2) L) : bt_WP P (d + 8) mi_M_plainWrites [vr 35 0, vi (nI bi), vi x] (I, L) (kI f) := by
  have hl := br_len K (nI bi) x
  refine ru_M_plainWrites (sm_ran (n := 2) h (by omega) (sm_brushing (acM_n h 2) (by omega) (sm_hearing (acM_s (brV K (nI bi) x).2 _ _ (acM_n h 2)) (by omega) ?_)))
  rw [← ntS_app]
  have g : f ((brV K (nI bi) x).1 - (heV K (nI bi) 1).1) (ntS ntM (ntM I 2) ((brV K (nI bi) x).2 ++ (heV K (nI bi) 1).2)) L := g
  exact g
theorem sm_writing (h : acM I bi bn K r) (hr : r < 910) (g : f (wrV K (nI bi) x).1 (ntS ntM I (wrV K (nI bi) x).2) L) : bt_WP P (d + 9) mi_M_writing [vr 35 0, vi (nI bi), vi x] (I, L) (kI f) := by
  have vb : vp_in (nI bi) 50 := ti_in (by have := h.1; have := h.2.1; omega) (by omega)
  have tb : tn (nI bi) = bi := ti_tn (by have := h.1; have := h.2.1; omega)
  have hK := h.2.2.2.1
  refine ru_M_writing ⟨vb, ?_⟩
  rw [tb, h.2.2.1]
  rcases k_8 hK with rfl | rfl | rfl | rfl | rfl | rfl | rfl | rfl
  · exact ⟨fun _ => ⟨vb, fun _ => sm_plW h (by omega) g, (fun z => absurd z (by decide))⟩, (fun z => absurd z (by decide))⟩
  · exact ⟨fun _ => ⟨vb, fun _ => sm_plW h (by omega) g, (fun z => absurd z (by decide))⟩, (fun z => absurd z (by decide))⟩
  · exact ⟨fun _ => ⟨vb, fun _ => sm_plW h (by omega) g, (fun z => absurd z (by decide))⟩, (fun z => absurd z (by decide))⟩
  · exact ⟨fun _ => ⟨vb, fun _ => sm_plW h (by omega) g, (fun z => absurd z (by decide))⟩, (fun z => absurd z (by decide))⟩
  · exact ⟨(fun z => absurd rfl z), fun _ => sm_ran (n := 50) h (by omega) (sm_plW (acM_n h 50) (by omega) g)⟩
  · exact ⟨fun _ => ⟨vb, (fun z => absurd rfl z), fun _ => sm_ran (n := 61) h (by omega) (sm_plW (acM_n h 61) (by omega) g)⟩, (fun z => absurd z (by decide))⟩
  · exact ⟨fun _ => ⟨vb, fun _ => sm_plW h (by omega) g, (fun z => absurd z (by decide))⟩, (fun z => absurd z (by decide))⟩
  · exact ⟨fun _ => ⟨vb, fun _ => sm_plW h (by omega) g, (fun z => absurd z (by decide))⟩, (fun z => absurd z (by decide))⟩
theorem ac_len (K a : Nat) (b x : Int32) : (acV K a b x).2.length ≤ 30 := by
  have h1 := rg_len K b x
  have h2 := he_len K b x
  have h3 := br_len K b x
  have hw : ∀ k, (plW k b x).2.length ≤ 19 := fun k => by
    have g1 := br_len k b x
    have g2 := he_len k b 1
    show ((brV k b x).2 ++ (heV k b 1).2).length + 1 ≤ 19
    rw [List.length_append]; omega
  unfold acV; split
  · omega
  · omega
  · omega
  · have w4 := hw 4
    have w5 := hw 5
    have wk := hw K
    unfold wrV; split
    · simp only [List.length_cons]; omega
    · simp only [List.length_cons]; omega
    · omega
theorem ntS_fr {nt : m_I → Nat → m_I} {a b c : Nat} (h : ∀ I n, nt I n a b c = I a b c) : ∀ (l : List Nat) (I : m_I), ntS nt I l a b c = I a b c
  | [], _ => rfl
  | n :: l, I => by
    show ntS nt (nt I n) l a b c = _
    rw [ntS_fr h l, h]
theorem ntS_c {kr kc jc : Nat} {nt : m_I → Nat → m_I} (hnt : ∀ I n, nt I n = ntX kr kc jc I n) : ∀ (l : List Nat) (I : m_I) (r : Nat), I kc 0 jc = nI r → ntS nt I l kc 0 jc = nI (r + l.length)
  | [], _, _, h => h
  | n :: l, I, r, h => by
    show ntS nt (nt I n) l kc 0 jc = _
    rw [ntS_c hnt l (nt I n) (r + 1) (by rw [hnt]; exact ntX_c h), List.length_cons]; congr 1; omega
theorem ntS_row {kr kc jc : Nat} (hkk : ¬ kr = kc) {nt : m_I → Nat → m_I} (hnt : ∀ I n, nt I n = ntX kr kc jc I n) : ∀ (l : List Nat) (I : m_I) (r : Nat), I kc 0 jc = nI r → r + l.length < 1000 → ∀ i, i < 24 → (i < r → ntS nt I l kr 0 i = I kr 0 i) ∧ (∀ j, j < l.length → i = r + j → ntS nt I l kr 0 i = nI (l.getD j 0))
  | [], _, _, _, _, i, _ => ⟨fun _ => rfl, fun j hj => by simp at hj⟩
  | n :: l, I, r, h, hb, i, hi => by
    have hlen : (n :: l).length = l.length + 1 := List.length_cons
    have ih := ntS_row hkk hnt l (nt I n) (r + 1) (by rw [hnt]; exact ntX_c h) (by omega) i hi
    have hrow : r < 24 → nt I n = ui (ui I kr 0 r (nI n)) kc 0 jc (nI (r + 1)) := fun hr => by
      rw [hnt]; unfold ntX
      rw [if_neg (by rw [h]; exact fun y => absurd ((nle (a := 24) (by omega) (by omega)).mp y) (by omega)), h, ti_tn (by omega), nI_s]
    have hkeep : ¬ i = r → nt I n kr 0 i = I kr 0 i := fun q => by
      rw [hnt]; unfold ntX
      by_cases q2 : 24 ≤ I kc 0 jc
      · rw [if_pos q2, ui_k hkk]
      · rw [if_neg q2, ui_k hkk, ui_j (by rw [h, ti_tn (by omega)]; exact q)]
    refine ⟨fun hir => ?_, fun j hj e => ?_⟩
    · show ntS nt (nt I n) l kr 0 i = _
      rw [ih.1 (by omega), hkeep (by omega)]
    · show ntS nt (nt I n) l kr 0 i = _
      cases j with
      | zero =>
        rw [ih.1 (by omega), hrow (by omega), ui_k hkk, show i = r by omega, ui_same]; rfl
      | succ j =>
        rw [ih.2 j (by omega) (by omega)]; rfl
theorem ntC_o {I : m_I} {n a b c : Nat} (h : ¬ (a = 31 ∨ (a = 29 ∧ b = 0 ∧ c = 3))) : ntC I n a b c = I a b c := ntX_fr h
theorem ntM_o {I : m_I} {n a b c : Nat} (h : ¬ (a = 65 ∨ (a = 35 ∧ b = 0 ∧ c = 47))) : ntM I n a b c = I a b c := ntX_fr h
/-- both sides' traces behind an act -/
theorem gB_act {bn rn : Nat} (hB : gB I bn rn) {l : List Nat} (hl : l.length < 900) {v : Int32} : gB (ntS ntM (ui (ntS ntC (ui (ui I 29 0 3 0) 29 0 4 v) l) 35 0 47 0) l) bn l.length ∧ ∀ g, g ≠ 4 → g ≠ 0 → Qg g I (ntS ntM (ui (ntS ntC (ui (ui I 29 0 3 0) 29 0 4 v) l) 35 0 47 0) l) := by
  obtain ⟨b1, b2, b3, b4, b5, b6, b7, b8⟩ := hB
  have hA : (ui (ui I 29 0 3 0) 29 0 4 v) 29 0 3 = nI 0 := by rw [ui_j (by decide), ui_same]; rfl
  have hfr : ∀ a b c, ¬ (a = 31 ∨ a = 65 ∨ (a = 29 ∧ (c = 3 ∨ c = 4)) ∨ (a = 35 ∧ c = 47)) → ntS ntM (ui (ntS ntC (ui (ui I 29 0 3 0) 29 0 4 v) l) 35 0 47 0) l a b c = I a b c := fun a b c z => by
    rw [ntS_fr (fun J n => ntM_o (by omega))]
    have e1 : ∀ (J : m_I), ui J 35 0 47 0 a b c = J a b c := fun J => by
      by_cases q : a = 35
      · exact ui_j (by omega)
      · exact ui_k q
    have e2 : ∀ (J : m_I) (w : Int32), ui J 29 0 3 w a b c = J a b c := fun J w => by
      by_cases q : a = 29
      · exact ui_j (by omega)
      · exact ui_k q
    have e3 : ∀ (J : m_I) (w : Int32), ui J 29 0 4 w a b c = J a b c := fun J w => by
      by_cases q : a = 29
      · exact ui_j (by omega)
      · exact ui_k q
    rw [e1, ntS_fr (fun J n => ntC_o (by omega)), e3, e2]
  refine ⟨⟨b1, by rw [hfr 29 0 2 (by omega)]; exact b2, by rw [hfr 35 0 45 (by omega)]; exact b3, fun b hb => by rw [hfr 64 0 b (by omega), hfr 30 0 b (by omega)]; exact b4 b hb, by omega, ?_, ?_, fun i hi hi24 => ?_⟩, fun g n4 n0 a b c e => hfr a b c (fun z => ?_)⟩
  · rw [ntS_fr (fun J n => ntM_o (by omega)), ui_k (by decide), ntS_c (nt := ntC) (kr := 31) (kc := 29) (jc := 3) (fun _ _ => rfl) l _ 0 hA, Nat.zero_add]
  · rw [ntS_c (nt := ntM) (kr := 65) (kc := 35) (jc := 47) (fun _ _ => rfl) l _ 0 (by rw [ui_same]; rfl), Nat.zero_add]
  · rw [(ntS_row (nt := ntM) (kr := 65) (kc := 35) (jc := 47) (by decide) (fun _ _ => rfl) l _ 0 (by rw [ui_same]; rfl) (by omega) i hi24).2 i hi (by omega), ntS_fr (fun J n => ntM_o (by omega)), ui_k (by decide), (ntS_row (nt := ntC) (kr := 31) (kc := 29) (jc := 3) (by decide) (fun _ _ => rfl) l _ 0 hA (by omega) i hi24).2 i hi (by omega)]
  · rcases z with rfl | rfl | ⟨rfl, rfl | rfl⟩ | ⟨rfl, rfl⟩
    · exact n4 e.symm
    · exact n4 e.symm
    · exact n4 e.symm
    · exact n0 e.symm
    · exact n4 e.symm
theorem gB_no {bn rn : Nat} (hB : gB I bn rn) : gB (ui (ui I 29 0 3 0) 35 0 47 0) bn 0 ∧ ∀ g, g ≠ 4 → Qg g I (ui (ui I 29 0 3 0) 35 0 47 0) := by
  obtain ⟨b1, b2, b3, b4, b5, b6, b7, b8⟩ := hB
  refine ⟨⟨b1, ?_, ?_, fun b hb => ?_, by omega, ?_, ?_, fun i hi => by omega⟩, fun g n4 => Qg_ui (Qg_ui Qg_rf (Ne.symm n4)) (Ne.symm n4)⟩
  · rw [ui_k (by decide), ui_j (by decide)]; exact b2
  · rw [ui_j (by decide), ui_k (by decide)]; exact b3
  · rw [ui_k (by decide), ui_k (by decide), ui_k (by decide), ui_k (by decide)]; exact b4 b hb
  · rw [ui_k (by decide), ui_same]; rfl
  · rw [ui_same]; rfl
theorem jn_act {G : m_I → m_L → Prop} {bn rn : Nat} {b a x : Int32} (hB : gB I bn rn) (h : ∀ I' rn', gB I' bn rn' → (∀ g, g ≠ 4 → g ≠ 0 → Qg g I I') → G I' L) :
    bt_WP P (d + 27) mi_B_act [vr 0 0, vi b, vi a, vi x] (I, L) (kI fun x1 I1 L1 => bt_WP P (d + 27) mi_M_act [vr 35 0, vi b, vi a, vi x] (I1, L1) (kI fun y I2 L2 => x1 = y ∧ G I2 L2)) := by
  have hB0 := hB
  obtain ⟨b1, b2, b3, b4, b5, b6, b7, b8⟩ := hB
  obtain ⟨n1, n2⟩ := gB_no hB0
  have hno : G (ui (ui I 29 0 3 0) 35 0 47 0) L := h _ 0 n1 (fun g n4 _ => n2 g n4)
  have i4 : (4 : Int32).toInt = 4 := rfl
  have i3 : (3 : Int32).toInt = 3 := rfl
  have e2 : (ui I 29 0 3 0) 29 0 2 = nI bn := by rw [ui_j (by decide)]; exact b2
  have hm : ∀ (J : m_I) (Q : Int32 → m_I → m_L → Prop), J 35 0 45 = nI bn → (oob b bn → Q 0 (ui J 35 0 47 0) L) → (¬ (0 ≤ a ∧ a ≤ 3) → Q 0 (ui J 35 0 47 0) L) → (¬ oob b bn → (0 ≤ a ∧ a ≤ 3) → ((¬ a = 0 → ((¬ a = 1 → ((¬ a = 2 → (bt_WP P (d + 26) mi_M_writing [vr 35 0, vi b, vi x] (ui J 35 0 47 0, L) (kI Q))) ∧ (a = 2 → (bt_WP P (d + 26) mi_M_hearing [vr 35 0, vi b, vi x] (ui J 35 0 47 0, L) (kI Q))))) ∧ (a = 1 → (bt_WP P (d + 26) mi_M_brushing [vr 35 0, vi b, vi x] (ui J 35 0 47 0, L) (kI Q))))) ∧ (a = 0 → (bt_WP P (d + 26) mi_M_ringing [vr 35 0, vi b, vi x] (ui J 35 0 47 0, L) (kI Q))))) → bt_WP P (d + 27) mi_M_act [vr 35 0, vi b, vi a, vi x] (J, L) (kI Q) := fun J Q ej c1 c2 c3 => by
    refine ru_M_act (sm_isBody (bn := bn) (by rw [ui_j (by decide)]; exact ej) b1 (bP_br (fun z => c1 (Classical.byContradiction z)) (fun z => sm_in (bP_br' (fun z2 => ?_) (fun z2 => c2 z2)))))
    obtain ⟨g1, g2⟩ := c3 z z2
    refine ⟨fun y0 => ?_, fun y0 => ?_⟩
    · obtain ⟨g3, g4⟩ := g1 y0
      refine ⟨fun y1 => ?_, fun y1 => ?_⟩
      · obtain ⟨g5, g6⟩ := g3 y1
        refine ⟨fun y2 => ?_, fun y2 => ?_⟩
        · refine bt_WP_imp (g5 y2) (fun r σ y => ?_)
          match r, y with
          | some (.inl v), y => exact y
        · refine bt_WP_imp (g6 y2) (fun r σ y => ?_)
          match r, y with
          | some (.inl v), y => exact y
      · refine bt_WP_imp (g4 y1) (fun r σ y => ?_)
        match r, y with
        | some (.inl v), y => exact y
    · refine bt_WP_imp (g2 y0) (fun r σ y => ?_)
      match r, y with
      | some (.inl v), y => exact y
  refine ru_B_act (ru_Bo_perform ?_)
  rcases ix b bn (by omega) with hb | ⟨bi, hbi, rfl⟩
  · have hh : bt_WP P (d + 27) mi_M_act [vr 35 0, vi b, vi a, vi x] (ui I 29 0 3 0, L) (kI fun y I2 L2 => 0 = y ∧ G I2 L2) := hm _ _ (by rw [ui_k (by decide)]; exact b3) (fun _ => ⟨rfl, hno⟩) (fun _ => ⟨rfl, hno⟩) (fun z => absurd hb z)
    rcases hb with hb | hb
    · exact ru_Bo_kindOf ⟨fun _ => ⟨fun _ => hh, fun z => absurd (show (-1 : Int32) < 0 by decide) z⟩, fun z => absurd hb z⟩
    · exact ru_Bo_kindOf ⟨fun _ => ⟨fun _ => hh, fun z => absurd (show (-1 : Int32) < 0 by decide) z⟩, fun _ => ⟨fun _ => ⟨fun _ => hh, fun z => absurd (show (-1 : Int32) < 0 by decide) z⟩, fun z => absurd (by rw [e2]; exact hb) z⟩⟩
  · obtain ⟨e64, K, hK, eK⟩ := b4 bi hbi
    have hnb : ¬ oob (nI bi) bn := n_oob hbi (by omega)
    refine ru_Bo_kindOf ⟨fun z => absurd z (n_neg (by omega)), fun _ => ⟨fun z => ?_, fun _ => ⟨ti_in (by omega) (by omega), ?_⟩⟩⟩
    · rw [e2, nle (by omega) (by omega)] at z; omega
    · rw [ti_tn (by omega), ui_k (by decide), eK]
      refine ⟨fun z => absurd z (n_neg (by omega)), fun _ => ?_⟩
      have hbad : ¬ (0 ≤ a ∧ a ≤ 3) → bt_WP P (d + 27) mi_M_act [vr 35 0, vi (nI bi), vi a, vi x] (ui I 29 0 3 0, L) (kI fun y I2 L2 => 0 = y ∧ G I2 L2) := fun z => hm _ _ (by rw [ui_k (by decide)]; exact b3) (fun y => absurd y hnb) (fun _ => ⟨rfl, hno⟩) (fun _ y => absurd y z)
      refine ⟨fun z => hbad (fun y => absurd z (Int32.not_lt.mpr y.1)), fun za => ⟨fun zb => ?_, fun zb => hbad (fun y => zb ?_)⟩⟩
      · have ha3 : 0 ≤ a ∧ a ≤ 3 := ⟨Int32.not_lt.mp za, by rw [ti_lt, i4] at zb; rw [ti_le, i3]; omega⟩
        have hC : acC (ui (ui I 29 0 3 0) 29 0 4 (nI bi)) bi bn K 0 := ⟨ui_same _ _ _ _ _, hbi, b1, by rw [ui_j (by decide)]; exact e2, by rw [ui_k (by decide), ui_k (by decide)]; exact eK, hK, by rw [ui_j (by decide), ui_same]; rfl⟩
        have hM : ∀ l : List Nat, acM (ui (ntS ntC (ui (ui I 29 0 3 0) 29 0 4 (nI bi)) l) 35 0 47 0) bi bn K 0 := fun l => ⟨hbi, b1, by rw [ui_k (by decide), ntS_fr (fun J n => ntC_o (by omega)), ui_k (by decide), ui_k (by decide)]; exact e64.trans eK, hK, by rw [ui_same]; rfl⟩
        have hend : ∀ l : List Nat, l.length ≤ 30 → G (ntS ntM (ui (ntS ntC (ui (ui I 29 0 3 0) 29 0 4 (nI bi)) l) 35 0 47 0) l) L := fun l hl => by
          obtain ⟨g1, g2⟩ := gB_act (v := nI bi) hB0 (l := l) (by omega)
          exact h _ _ g1 g2
        have h45 : ∀ l : List Nat, (ntS ntC (ui (ui I 29 0 3 0) 29 0 4 (nI bi)) l) 35 0 45 = nI bn := fun l => by rw [ntS_fr (fun J n => ntC_o (by omega)), ui_k (by decide), ui_k (by decide)]; exact b3
        obtain ⟨k, hk, rfl⟩ : ∃ k, k < 4 ∧ a = nI k := in_of (by omega) za (fun z => by rw [ti_le, ti_nI (by omega)] at z; rw [ti_lt, i4] at zb; omega)
        have l0 := ac_len K 0 (nI bi) x
        have l1 := ac_len K 1 (nI bi) x
        have l2 := ac_len K 2 (nI bi) x
        have l3 := ac_len K 3 (nI bi) x
        have hk4 : k = 0 ∨ k = 1 ∨ k = 2 ∨ k = 3 := by omega
        rcases hk4 with rfl | rfl | rfl | rfl
        · refine sp_ring (dp := 0) hC (by omega) (by omega) (hm _ _ (h45 _) (fun y => absurd y hnb) (fun y => absurd ha3 y) (fun _ _ => ⟨(fun z => absurd rfl z), fun _ => sm_ringing (hM _) (by omega) ⟨rfl, hend _ l0⟩⟩))
        · refine sp_brush (dp := 0) hC (by omega) (by omega) (hm _ _ (h45 _) (fun y => absurd y hnb) (fun y => absurd ha3 y) (fun _ _ => ⟨fun _ => ⟨(fun z => absurd rfl z), fun _ => sm_brushing (hM _) (by omega) ⟨rfl, hend _ l1⟩⟩, (fun z => absurd z (by decide))⟩))
        · refine sp_hear (dp := 0) hC (by omega) (by omega) (hm _ _ (h45 _) (fun y => absurd y hnb) (fun y => absurd ha3 y) (fun _ _ => ⟨fun _ => ⟨fun _ => ⟨(fun z => absurd rfl z), fun _ => sm_hearing (hM _) (by omega) ⟨rfl, hend _ l2⟩⟩, (fun z => absurd z (by decide))⟩, (fun z => absurd z (by decide))⟩))
        · refine sp_write (dp := 0) hC (by omega) (by omega) (hm _ _ (h45 _) (fun y => absurd y hnb) (fun y => absurd ha3 y) (fun _ _ => ⟨fun _ => ⟨fun _ => ⟨fun _ => sm_writing (hM _) (by omega) ⟨rfl, hend _ l3⟩, (fun z => absurd z (by decide))⟩, (fun z => absurd z (by decide))⟩, (fun z => absurd z (by decide))⟩))
      · have := y.2
        rw [ti_le, i3] at this
        rw [ti_lt, i4]; omega
end ACM
