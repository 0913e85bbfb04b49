/-! THE LAW: every level's outcome, at every place -/
/-- the loops' outcomes -/
def lpC (P : bt_PT) (fd : Nat) (tp : Nat → Nat) (l op more p p' : Nat) (k : List Nat) : Prop := ∀ (d : Nat) (f : Int32 → m_I → m_L → Prop) (I : m_I) (L : m_L) (cs : List Int32), tcS I fd tp p cs → cs.length ≤ p → (∀ I', tcS I' fd tp p' (cs ++ k.map cC) → tcF I I' → f 1 I' L) → cL P (d + Dc (l + 1) op) l op more f I L
def lpX (P : bt_PT) (fd : Nat) (tp : Nat → Nat) (l op more p p' : Nat) (v : Int32) : Prop := ∀ (d : Nat) (f : Int32 → m_I → m_L → Prop) (I : m_I) (L : m_L) (cs : List Int32), tcS I fd tp p cs → cs.length ≤ p → (∀ I', tcB I' fd tp p' → tcF I I' → f v I' L) → cL P (d + Dc (l + 1) op) l op more f I L
def lpM (P : bt_PT) (fd : Nat) (tp : Nat → Nat) (l op more p p' : Nat) (k : List Nat) : Prop := ∀ (d : Nat) (f : m_I → m_L → Prop) (I : m_I) (L : m_L) (ss : List Nat), rfS I fd tp p op ss → ss.length ≤ p → (∀ I', rfS I' fd tp p' op (ss ++ k) → rfF I I' → f I' L) → rL P (d + Dm (l + 1) op) l more f I L
def lpF (P : bt_PT) (fd : Nat) (tp : Nat → Nat) (l op more p p' : Nat) : Prop := ∀ (d : Nat) (f : m_I → m_L → Prop) (I : m_I) (L : m_L) (ss : List Nat), rfS I fd tp p op ss → ss.length ≤ p → (∀ I' ln, rfB I' fd tp p' ln → ln ≤ ss.length + (p' - p) + 1 → rfF I I' → f I' L) → rL P (d + Dm (l + 1) op) l more f I L
def lpO (P : bt_PT) (fd : Nat) (tp : Nat → Nat) (l op more p : Nat) : Prop :=
  (∃ p' k, p ≤ p' ∧ p' ≤ fd ∧ tlT k ∧ k.length ≤ p' - p ∧ lpC P fd tp l op more p p' k ∧ lpM P fd tp l op more p p' k) ∨
  (∃ p', p ≤ p' ∧ p' ≤ fd ∧ lpX P fd tp l op more p p' 0 ∧ lpF P fd tp l op more p p') ∨
  (∃ p', p ≤ p' ∧ p' ≤ fd ∧ dgP (chB fd tp p') ∧ lpX P fd tp l op more p p' 1 ∧ lpF P fd tp l op more p p')
section OUT
variable {P : bt_PT} {fd p op l more : Nat} {tp : Nat → Nat}
theorem Dc_5 {l op : Nat} (hl : l < 6) : Dc l op = Dc (l + 1) op + 1 := by unfold Dc; omega
theorem Dm_5 {l op : Nat} (hl : l < 5) : Dm l op = Dm (l + 1) op + 1 := by unfold Dm; omega
theorem Dc_1 (l op : Nat) : ∃ e, Dc l op = e + 1 := ⟨Dc l op - 1, by unfold Dc; omega⟩
theorem Dm_1 (l op : Nat) : ∃ e, Dm l op = e + 1 := ⟨Dm l op - 1, by unfold Dm; omega⟩
theorem lvl_cls {d : Nat} {f : Int32 → m_I → m_L → Prop} {I : m_I} {L : m_L} (hl : l < 6) : bt_WP P d (cM l) (cG l op) (I, L) (kI f) = bt_WP P d mi_La_readLevel [vr 7 0, vi (nI l), vi (nI op)] (I, L) (kI f) := by
  match l, hl with
  | 0, _ => rfl
  | 1, _ => rfl
  | 2, _ => rfl
  | 3, _ => rfl
  | 4, _ => rfl
  | 5, _ => rfl
theorem pO_5 (h : pO P fd tp 6 op p) : pO P fd tp 5 op p := by
  have hc : ∀ {d : Nat} {f : Int32 → m_I → m_L → Prop} {I : m_I} {L : m_L}, bt_WP P (d + Dc 6 op) mi_La_readOperand [vr 7 0, vi (nI op)] (I, L) (kI fun x I' L' => (x = 0 ∨ x = 1) ∧ f x I' L') → bt_WP P (d + Dc 5 op) (cM 5) (cG 5 op) (I, L) (kI f) := fun {d f I L} g => by
    rw [lvl_cls (by omega), Dc_5 (by omega)]
    exact ru_La_readLevel ⟨fun z => absurd z (by decide), fun _ => g⟩
  rcases h with ⟨p', k, h1, h2, h3, h4, h5, h6⟩ | ⟨p', h1, h2, h5, h6⟩ | ⟨p', h1, h2, h3, h5, h6⟩
  · exact Or.inl ⟨p', k, h1, h2, h3, h4, fun d f I L cs a b g => hc (h5 d _ I L cs a b (fun I' x y => ⟨o01, g I' x y⟩)), h6⟩
  · exact Or.inr (Or.inl ⟨p', h1, h2, fun d f I L cs a b g => hc (h5 d _ I L cs a b (fun I' x y => ⟨z01, g I' x y⟩)), h6⟩)
  · exact Or.inr (Or.inr ⟨p', h1, h2, h3, fun d f I L cs a b g => hc (h5 d _ I L cs a b (fun I' x y => ⟨o01, g I' x y⟩)), h6⟩)
theorem dg_lv {c : Nat} (h : dgP c) : lvO c = 9 := by
  have h1 := h.1
  have h2 := h.2
  have hc := lvO_e c
  omega
theorem dg_no {q : Nat} (hl : l < 5) (h : dgP (chB fd tp q)) : ¬ lvO (chB fd tp q) = l := by
  have := dg_lv h
  omega
theorem mB_aC (ht : ∀ j, j < fd → tp j < 256) (h : lvO (chB fd tp p) < 9) : mBy fd tp p = aC (10100 + chB fd tp p) ∧ wC (10100 + chB fd tp p) = 0 ∧ okT (10100 + chB fd tp p) := by
  have hc := lvO_lt h
  refine ⟨?_, ?_, Or.inr ⟨by omega, by rw [show 10100 + chB fd tp p - 10100 = chB fd tp p by omega]; exact h⟩⟩
  · unfold aC
    rw [if_neg (by omega), if_neg (by omega), if_neg (by omega), if_neg (by omega), show 10100 + chB fd tp p - 10100 = chB fd tp p by omega]
    exact (mB_eq ht (by omega)).mpr rfl
  · unfold wC
    rw [if_neg (by omega), if_neg (by omega)]
theorem app_t (cs : List Int32) (k k' : List Nat) (t : Nat) : cs ++ (k ++ t :: k').map cC = ((cs ++ k.map cC) ++ [cC t]) ++ k'.map cC := by
  simp
theorem app_n (ss k k' : List Nat) (t : Nat) : ss ++ (k ++ t :: k') = ((ss ++ k) ++ [t]) ++ k' := by
  simp
theorem sp_noteD {D : Nat} {I : m_I} {L : m_L} {f : m_I → m_L → Prop} {cs : List Int32} {v : Int32} (hD : 0 < D) (h : tcS I fd tp p cs) (hc : cs.length < 128) (g : ∀ I', tcS I' fd tp p (cs ++ [v]) → tcF I I' → f I' L) : bt_WP P D mi_La_note [vr 7 0, vi v] (I, L) (kV f) := by
  obtain ⟨e, rfl⟩ : ∃ e, D = e + 1 := ⟨D - 1, by omega⟩
  exact sp_note h hc g
theorem sp_noteBD {D : Nat} {I : m_I} {L : m_L} {f : m_I → m_L → Prop} {v : Int32} (hD : 0 < D) (h : tcB I fd tp p) (g : ∀ I', tcB I' fd tp p → tcF I I' → f I' L) : bt_WP P D mi_La_note [vr 7 0, vi v] (I, L) (kV f) := by
  obtain ⟨e, rfl⟩ : ∃ e, D = e + 1 := ⟨D - 1, by omega⟩
  exact sp_noteB h g
theorem sm_addD {D : Nat} {I : m_I} {L : m_L} {f : m_I → m_L → Prop} {ss : List Nat} {t : Nat} {v w : Int32} (hD : 0 < D) (h : rfS I fd tp p op ss) (ht : okT t) (hl : ss.length < 130) (ev : v = aC t) (ew : w = wC t) (g : ∀ I', rfS I' fd tp p op (ss ++ [t]) → rfF I I' → f I' L) : bt_WP P D mi_M_addStep [vr 35 0, vi v, vi w] (I, L) (kV f) := by
  obtain ⟨e, rfl⟩ : ∃ e, D = e + 1 := ⟨D - 1, by omega⟩
  exact sm_addS h ht hl ev ew g
theorem sm_addBD {D ln : Nat} {I : m_I} {L : m_L} {f : m_I → m_L → Prop} {v w : Int32} (hD : 0 < D) (h : rfB I fd tp p ln) (hl : ln < 130) (g : ∀ I', rfB I' fd tp p (ln + 1) → rfF I I' → f I' L) : bt_WP P D mi_M_addStep [vr 35 0, vi v, vi w] (I, L) (kV f) := by
  obtain ⟨e, rfl⟩ : ∃ e, D = e + 1 := ⟨D - 1, by omega⟩
  exact sm_addStepB h hl g
theorem rL_BD {D ln : Nat} {I : m_I} {L : m_L} {f : m_I → m_L → Prop} (hD : 0 < D) (h : rfB I fd tp p ln) (g : f I L) : rL P D l more f I L := by
  obtain ⟨e, rfl⟩ : ∃ e, D = e + 1 := ⟨D - 1, by omega⟩
  exact rL_B h g
theorem cL_noD {D : Nat} {I : m_I} {L : m_L} {f : Int32 → m_I → m_L → Prop} (hD : 0 < D) (hl : l < 5) (hm : more ≤ 120) (h : tcP I fd tp p) (hx : ¬ lvO (chB fd tp p) = l ∨ mst l ≤ more) (g : f 1 I L) : cL P D l op more f I L := by
  obtain ⟨e, rfl⟩ : ∃ e, D = e + 1 := ⟨D - 1, by omega⟩
  exact cL_no hl hm h hx g
theorem lpO_all (hfd : fd ≤ 120) (hl : l < 5) {p0 : Nat} (H : ∀ q, p0 < q → q ≤ fd → pO P fd tp (l + 1) op q) : ∀ (n p more : Nat), fd - p < n → p0 ≤ p → p ≤ fd → more ≤ p → lpO P fd tp l op more p
  | 0, p, more, hn, _, _, _ => absurd hn (Nat.not_lt_zero _)
  | n + 1, p, more, hn, h0, hp, hm => by
    obtain ⟨ec, hec⟩ := Dc_1 (l + 1) op
    obtain ⟨em, hem⟩ := Dm_1 (l + 1) op
    have hec0 : ∀ d, 0 < d + Dc (l + 1) op := fun d => by omega
    have hem0 : ∀ d, 0 < d + Dm (l + 1) op := fun d => by omega
    have hms : mst l ≤ 120 := by unfold mst; split <;> omega
    by_cases hs : lvO (chB fd tp p) = l ∧ more < mst l
    · have hs1 := hs.1
      have hc := lvO_lt (show lvO (chB fd tp p) < 9 by omega)
      have hpf : p < fd := ch_lt (tp := tp) rfl (by omega)
      have hm2 : l = 2 → more = 0 := fun z => by
        have := hs.2
        unfold mst at this
        rw [if_pos z] at this; omega
      have hcl : ∀ {d : Nat} {f : Int32 → m_I → m_L → Prop} {I : m_I} {L : m_L}, tcP I fd tp p → bt_WP P (d + Dc (l + 1) op) (cM (l + 1)) (cG (l + 1) op) (ui I 7 0 5 (nI p + 1), L) (kI fun x I1 N1 => (¬ x = 0 → (bt_WP P (d + Dc (l + 1) op) mi_La_note [vr 7 0, vi (cC (10100 + chB fd tp p))] (I1, N1) (kV fun I2 N2 => cL P (d + Dc (l + 1) op) l op (more + 1) f I2 N2))) ∧ (x = 0 → f 0 I1 N1)) → cL P (d + Dc (l + 1) op) l op more f I L := fun {d f I L} h g => by
        rw [lvl_cls (by omega), hec] at g
        rw [hec]
        exact cL_go hl h hs1 hs.2 g
      have hml : ∀ {d : Nat} {f : m_I → m_L → Prop} {I : m_I} {L : m_L} {ss : List Nat}, rfS I fd tp p op ss → bt_WP P (d + Dm (l + 1) op) (mM (l + 1)) [vr 35 0] (ui I 35 0 23 (nI p + 1), L) (kV fun I1 N1 => bt_WP P (d + Dm (l + 1) op) mi_M_addStep [vr 35 0, vi (mBy fd tp p), vi 0] (I1, N1) (kV fun I2 N2 => rL P (d + Dm (l + 1) op) l (more + 1) f I2 N2)) → rL P (d + Dm (l + 1) op) l more f I L := fun {d f I L ss} h g => by
        rw [hem] at g ⊢
        exact rL_go hl h hs1 hm2 g
      rcases H (p + 1) (by omega) (by omega) with ⟨p', k, h1, h2, h3, h4, h5, h6⟩ | ⟨p', h1, h2, h5, h6⟩ | ⟨p', h1, h2, h3, h5, h6⟩
      · have hC : ∀ {d : Nat} {f : Int32 → m_I → m_L → Prop} {I : m_I} {L : m_L} {cs : List Int32}, tcS I fd tp p cs → cs.length ≤ p → (∀ I', tcS I' fd tp p' ((cs ++ k.map cC) ++ [cC (10100 + chB fd tp p)]) → ((cs ++ k.map cC) ++ [cC (10100 + chB fd tp p)]).length ≤ p' → tcF I I' → cL P (d + Dc (l + 1) op) l op (more + 1) f I' L) → cL P (d + Dc (l + 1) op) l op more f I L := fun {d f I L cs} h hcs g => by
          refine hcl h.1 ?_
          obtain ⟨a1, a2⟩ := tcS_at h hpf
          have hln : ((cs ++ k.map cC) ++ [cC (10100 + chB fd tp p)]).length ≤ p' := by
            rw [List.length_append, List.length_append, List.length_map]; show cs.length + k.length + 1 ≤ p'; omega
          refine h5 d _ _ L cs a1 (by omega) (fun I' b1 b2 => ⟨fun _ => sp_noteD (hec0 d) b1 ?_ (fun I2 c1 c2 => g I2 c1 hln (tcF_tr (tcF_tr a2 b2) c2)), (fun z => absurd z (by decide))⟩)
          rw [List.length_append, List.length_map]; omega
        have hM : ∀ {d : Nat} {f : m_I → m_L → Prop} {I : m_I} {L : m_L} {ss : List Nat}, rfS I fd tp p op ss → ss.length ≤ p → (∀ I', rfS I' fd tp p' op ((ss ++ k) ++ [10100 + chB fd tp p]) → ((ss ++ k) ++ [10100 + chB fd tp p]).length ≤ ss.length + (p' - p) → rfF I I' → rL P (d + Dm (l + 1) op) l (more + 1) f I' L) → rL P (d + Dm (l + 1) op) l more f I L := fun {d f I L ss} h hss g => by
          refine hml h ?_
          obtain ⟨ma, mw, mo⟩ := mB_aC h.1.2.2.2.1 (show lvO (chB fd tp p) < 9 by omega)
          have hln : ((ss ++ k) ++ [10100 + chB fd tp p]).length ≤ ss.length + (p' - p) := by
            rw [List.length_append, List.length_append]; show ss.length + k.length + 1 ≤ _; omega
          refine h6 d _ _ L ss (rfS_at h hpf) (by omega) (fun I' b1 b2 => sm_addD (hem0 d) b1 mo ?_ ma mw.symm (fun I2 c1 c2 => g I2 c1 hln (rfF_tr (rfF_tr (rfF_35 (by omega)) b2) c2)))
          rw [List.length_append]; omega
        rcases lpO_all hfd hl H n p' (more + 1) (by omega) (by omega) h2 (by omega) with ⟨p2, k2, g1, g2, g3, g4, g5, g6⟩ | ⟨p2, g1, g2, g5, g6⟩ | ⟨p2, g1, g2, g3, g5, g6⟩
        · left
          refine ⟨p2, k ++ (10100 + chB fd tp p) :: k2, by omega, g2, tl_cons h3 (by omega) g3, ?_, fun d f I L cs h hcs g => hC h hcs (fun I' a1 a2 a3 => g5 d _ _ L _ a1 a2 (fun I2 b1 b2 => g I2 ?_ (tcF_tr a3 b2))), fun d f I L ss h hss g => hM h hss (fun I' a1 a2 a3 => g6 d _ _ L _ a1 (by omega) (fun I2 b1 b2 => g I2 ?_ (rfF_tr a3 b2)))⟩
          · rw [List.length_append, List.length_cons]; omega
          · rw [app_t]; exact b1
          · rw [app_n]; exact b1
        · right; left
          exact ⟨p2, by omega, g2, fun d f I L cs h hcs g => hC h hcs (fun I' a1 a2 a3 => g5 d _ _ L _ a1 a2 (fun I2 b1 b2 => g I2 b1 (tcF_tr a3 b2))), fun d f I L ss h hss g => hM h hss (fun I' a1 a2 a3 => g6 d _ _ L _ a1 (by omega) (fun I2 ln b1 bl b2 => g I2 ln b1 (by omega) (rfF_tr a3 b2)))⟩
        · right; right
          exact ⟨p2, by omega, g2, g3, fun d f I L cs h hcs g => hC h hcs (fun I' a1 a2 a3 => g5 d _ _ L _ a1 a2 (fun I2 b1 b2 => g I2 b1 (tcF_tr a3 b2))), fun d f I L ss h hss g => hM h hss (fun I' a1 a2 a3 => g6 d _ _ L _ a1 (by omega) (fun I2 ln b1 bl b2 => g I2 ln b1 (by omega) (rfF_tr a3 b2)))⟩
      · right; left
        refine ⟨p', by omega, h2, fun d f I L cs h hcs g => hcl h.1 ?_, fun d f I L ss h hss g => hml h ?_⟩
        · obtain ⟨a1, a2⟩ := tcS_at h hpf
          exact h5 d _ _ L cs a1 (by omega) (fun I' b1 b2 => ⟨(fun z => absurd rfl z), fun _ => g I' b1 (tcF_tr a2 b2)⟩)
        · exact h6 d _ _ L ss (rfS_at h hpf) (by omega) (fun I' ln b1 bl b2 => sm_addBD (hem0 d) b1 (by omega) (fun I2 c1 c2 => rL_BD (hem0 d) c1 (g I2 _ c1 (by omega) (rfF_tr (rfF_tr (rfF_35 (by omega)) b2) c2))))
      · right; right
        refine ⟨p', by omega, h2, h3, fun d f I L cs h hcs g => hcl h.1 ?_, fun d f I L ss h hss g => hml h ?_⟩
        · obtain ⟨a1, a2⟩ := tcS_at h hpf
          exact h5 d _ _ L cs a1 (by omega) (fun I' b1 b2 => ⟨fun _ => sp_noteBD (hec0 d) b1 (fun I2 c1 c2 => cL_noD (hec0 d) hl (by omega) c1.1 (Or.inl (dg_no hl h3)) (g I2 c1 (tcF_tr (tcF_tr a2 b2) c2))), (fun z => absurd z (by decide))⟩)
        · exact h6 d _ _ L ss (rfS_at h hpf) (by omega) (fun I' ln b1 bl b2 => sm_addBD (hem0 d) b1 (by omega) (fun I2 c1 c2 => rL_BD (hem0 d) c1 (g I2 _ c1 (by omega) (rfF_tr (rfF_tr (rfF_35 (by omega)) b2) c2))))
    · left
      refine ⟨p, [], Nat.le_refl _, hp, tl_nil, Nat.zero_le _, fun d f I L cs h hcs g => cL_noD (hec0 d) hl (by omega) h.1 (by omega) (g I ?_ tcF_rf), fun d f I L ss h hss g => ?_⟩
      · show tcS I fd tp p (cs ++ []); rw [List.append_nil]; exact h
      · rw [hem]
        have hx : ¬ lvO (chB fd tp p) = l ∨ (l = 2 ∧ 0 < more) := by
          by_cases q : lvO (chB fd tp p) = l
          · right
            have hc := lvO_lt (show lvO (chB fd tp p) < 9 by omega)
            have hpf : p < fd := ch_lt (tp := tp) rfl (by omega)
            unfold mst at hs
            by_cases q2 : l = 2
            · rw [if_pos q2] at hs; omega
            · rw [if_neg q2] at hs; omega
          · exact Or.inl q
        refine rL_no (ss := ss) hl h hx (g I ?_ rfF_rf)
        rw [List.append_nil]; exact h
theorem pO_lev (hfd : fd ≤ 120) (hl : l < 5) (hp : p ≤ fd) (h0 : pO P fd tp (l + 1) op p) (H : ∀ q, p < q → q ≤ fd → pO P fd tp (l + 1) op q) : pO P fd tp l op p := by
  obtain ⟨ec, hec⟩ := Dc_1 (l + 1) op
  obtain ⟨em, hem⟩ := Dm_1 (l + 1) op
  have hec0 : ∀ d, 0 < d + Dc (l + 1) op := fun d => by omega
  have hem0 : ∀ d, 0 < d + Dm (l + 1) op := fun d => by omega
  have hcl : ∀ {d : Nat} {f : Int32 → m_I → m_L → Prop} {I : m_I} {L : m_L}, bt_WP P (d + Dc (l + 1) op) (cM (l + 1)) (cG (l + 1) op) (I, L) (kI fun x I1 N1 => (¬ x = 0 → cL P (d + Dc (l + 1) op) l op 0 f I1 N1) ∧ (x = 0 → f 0 I1 N1)) → bt_WP P (d + Dc l op) (cM l) (cG l op) (I, L) (kI f) := fun {d f I L} g => by
    rw [lvl_cls (by omega)] at g
    rw [lvl_cls (by omega), Dc_5 (by omega)]
    exact cL_in hl g
  have hml : ∀ {d : Nat} {f : m_I → m_L → Prop} {I : m_I} {L : m_L}, bt_WP P (d + Dm (l + 1) op) (mM (l + 1)) [vr 35 0] (I, L) (kV fun I1 N1 => rL P (d + Dm (l + 1) op) l 0 f I1 N1) → bt_WP P (d + Dm l op) (mM l) [vr 35 0] (I, L) (kV f) := fun {d f I L} g => by
    rw [Dm_5 hl]
    exact rL_in hl g
  rcases h0 with ⟨p', k, h1, h2, h3, h4, h5, h6⟩ | ⟨p', h1, h2, h5, h6⟩ | ⟨p', h1, h2, h3, h5, h6⟩
  · have hcc : ∀ {cs : List Int32}, cs.length ≤ p → (cs ++ k.map cC).length ≤ p' := fun {cs} q => by
      rw [List.length_append, List.length_map]; omega
    have hss : ∀ {ss : List Nat}, (ss ++ k).length ≤ ss.length + (p' - p) := fun {ss} => by
      rw [List.length_append]; omega
    rcases lpO_all hfd hl (p0 := p) H (fd - p' + 1) p' 0 (by omega) (by omega) h2 (by omega) with ⟨p2, k2, g1, g2, g3, g4, g5, g6⟩ | ⟨p2, g1, g2, g5, g6⟩ | ⟨p2, g1, g2, g3, g5, g6⟩
    · left
      refine ⟨p2, k ++ k2, by omega, g2, wf_tl h3 g3, ?_, fun d f I L cs h hcs g => hcl (h5 d _ _ L cs h hcs (fun I' a1 a2 => ⟨fun _ => g5 d _ _ L _ a1 (hcc hcs) (fun I2 b1 b2 => g I2 ?_ (tcF_tr a2 b2)), (fun z => absurd z (by decide))⟩)), fun d f I L ss h hs g => hml (h6 d _ _ L ss h hs (fun I' a1 a2 => g6 d _ _ L _ a1 ?_ (fun I2 b1 b2 => g I2 ?_ (rfF_tr a2 b2))))⟩
      · rw [List.length_append]; omega
      · rw [List.map_append, ← List.append_assoc]; exact b1
      · have := hss (ss := ss); omega
      · rw [← List.append_assoc]; exact b1
    · right; left
      refine ⟨p2, by omega, g2, fun d f I L cs h hcs g => hcl (h5 d _ _ L cs h hcs (fun I' a1 a2 => ⟨fun _ => g5 d _ _ L _ a1 (hcc hcs) (fun I2 b1 b2 => g I2 b1 (tcF_tr a2 b2)), (fun z => absurd z (by decide))⟩)), fun d f I L ss h hs g => hml (h6 d _ _ L ss h hs (fun I' a1 a2 => g6 d _ _ L _ a1 ?_ (fun I2 ln b1 bl b2 => g I2 ln b1 ?_ (rfF_tr a2 b2))))⟩
      · have := hss (ss := ss); omega
      · have := hss (ss := ss); omega
    · right; right
      refine ⟨p2, by omega, g2, g3, fun d f I L cs h hcs g => hcl (h5 d _ _ L cs h hcs (fun I' a1 a2 => ⟨fun _ => g5 d _ _ L _ a1 (hcc hcs) (fun I2 b1 b2 => g I2 b1 (tcF_tr a2 b2)), (fun z => absurd z (by decide))⟩)), fun d f I L ss h hs g => hml (h6 d _ _ L ss h hs (fun I' a1 a2 => g6 d _ _ L _ a1 ?_ (fun I2 ln b1 bl b2 => g I2 ln b1 ?_ (rfF_tr a2 b2))))⟩
      · have := hss (ss := ss); omega
      · have := hss (ss := ss); omega
  · right; left
    exact ⟨p', h1, h2, fun d f I L cs h hcs g => hcl (h5 d _ _ L cs h hcs (fun I' a1 a2 => ⟨(fun z => absurd rfl z), fun _ => g I' a1 a2⟩)), fun d f I L ss h hs g => hml (h6 d _ _ L ss h hs (fun I' ln a1 al a2 => rL_BD (hem0 d) a1 (g I' ln a1 al a2)))⟩
  · right; right
    exact ⟨p', h1, h2, h3, fun d f I L cs h hcs g => hcl (h5 d _ _ L cs h hcs (fun I' a1 a2 => ⟨fun _ => cL_noD (hec0 d) hl (by omega) a1.1 (Or.inl (dg_no hl h3)) (g I' a1 a2), (fun z => absurd z (by decide))⟩)), fun d f I L ss h hs g => hml (h6 d _ _ L ss h hs (fun I' ln a1 al a2 => rL_BD (hem0 d) a1 (g I' ln a1 al a2)))⟩
theorem pO_dn (hfd : fd ≤ 120) (hop : op ≤ 6) (hp : p ≤ fd) (H : ∀ q, p < q → q ≤ fd → ∀ l op, op ≤ 6 → l ≤ 6 → pO P fd tp l op q) : ∀ l, l ≤ 6 → pO P fd tp l op p := by
  have h6 : pO P fd tp 6 op p := pO_op hfd hp hop (fun z => H (p + 1) (by omega) (by omega))
  have h5 := pO_5 h6
  have step : ∀ l, l < 5 → pO P fd tp (l + 1) op p → pO P fd tp l op p := fun l hl h => pO_lev hfd hl hp h (fun q a b => H q a b (l + 1) op hop (by omega))
  have h4 := step 4 (by omega) h5
  have h3 := step 3 (by omega) h4
  have h2 := step 2 (by omega) h3
  have h1 := step 1 (by omega) h2
  have h0 := step 0 (by omega) h1
  intro l hl
  match l, hl with
  | 0, _ => exact h0
  | 1, _ => exact h1
  | 2, _ => exact h2
  | 3, _ => exact h3
  | 4, _ => exact h4
  | 5, _ => exact h5
  | 6, _ => exact h6
theorem pO_n (P : bt_PT) {fd : Nat} (tp : Nat → Nat) (hfd : fd ≤ 120) : ∀ (n p : Nat), fd - p < n → p ≤ fd → ∀ l op, op ≤ 6 → l ≤ 6 → pO P fd tp l op p
  | 0, p, hn, _ => absurd hn (Nat.not_lt_zero _)
  | n + 1, p, hn, hp => fun l op hop hl => pO_dn hfd hop hp (fun q a b => pO_n P tp hfd n q (by omega) b) l hl
theorem pO_all (P : bt_PT) {fd p op l : Nat} (tp : Nat → Nat) (hfd : fd ≤ 120) (hp : p ≤ fd) (hop : op ≤ 6) (hl : l ≤ 6) : pO P fd tp l op p := pO_n P tp hfd (fd - p + 1) p (by omega) hp l op hop hl
end OUT
