/-! THE LAW: what both parsers find, place by place -/
def mM (l : Nat) : bt_MI := match l with
  | 0 => mi_M_either
  | 1 => mi_M_both
  | 2 => mi_M_compared
  | 3 => mi_M_sum
  | 4 => mi_M_product
  | _ => mi_M_operand
def cM (l : Nat) : bt_MI := match l with
  | 6 => mi_La_readOperand
  | _ => mi_La_readLevel
def cG (l op : Nat) : List av_T := match l with
  | 6 => [vr 7 0, vi (nI op)]
  | l => [vr 7 0, vi (nI l), vi (nI op)]
def Dc (l op : Nat) : Nat := 4 + 7 * (6 - op) + (6 - l)
def Dm (l op : Nat) : Nat := 5 + 6 * (6 - op) + (5 - l)
/-- the class reads on and answers v, with these codes -/
def oC (P : bt_PT) (fd : Nat) (tp : Nat → Nat) (l op p p' : Nat) (k : List Nat) : Prop := ∀ (d : Nat) (f : Int32 → m_I → m_L → Prop) (I : m_I) (L : m_L) (cs : List Int32), tcS I fd tp p cs → cs.length ≤ p → (∀ I', tcS I' fd tp p' (cs ++ k.map cC) → tcF I I' → f 1 I' L) → bt_WP P (d + Dc l op) (cM l) (cG l op) (I, L) (kI f)
/-- the class reads on and answers v; what was noted doesn't matter -/
def oX (P : bt_PT) (fd : Nat) (tp : Nat → Nat) (l op p p' : Nat) (v : Int32) : Prop := ∀ (d : Nat) (f : Int32 → m_I → m_L → Prop) (I : m_I) (L : m_L) (cs : List Int32), tcS I fd tp p cs → cs.length ≤ p → (∀ I', tcB I' fd tp p' → tcF I I' → f v I' L) → bt_WP P (d + Dc l op) (cM l) (cG l op) (I, L) (kI f)
def oM (P : bt_PT) (fd : Nat) (tp : Nat → Nat) (l op p p' : Nat) (k : List Nat) : Prop := ∀ (d : Nat) (f : m_I → m_L → Prop) (I : m_I) (L : m_L) (ss : List Nat), rfS I fd tp p op ss → ss.length ≤ p → (∀ I', rfS I' fd tp p' op (ss ++ k) → rfF I I' → f I' L) → bt_WP P (d + Dm l op) (mM l) [vr 35 0] (I, L) (kV f)
def oF (P : bt_PT) (fd : Nat) (tp : Nat → Nat) (l op p p' : Nat) : Prop := ∀ (d : Nat) (f : m_I → m_L → Prop) (I : m_I) (L : m_L) (ss : List Nat), rfS I fd tp p op ss → ss.length ≤ p → (∀ I' ln, rfB I' fd tp p' ln → ln ≤ ss.length + (p' - p) + 1 → rfF I I' → f I' L) → bt_WP P (d + Dm l op) (mM l) [vr 35 0] (I, L) (kV f)
def pO (P : bt_PT) (fd : Nat) (tp : Nat → Nat) (l op p : Nat) : Prop :=
  (∃ p' k, p < p' ∧ p' ≤ fd ∧ wfT k ∧ k.length ≤ p' - p ∧ oC P fd tp l op p p' k ∧ oM P fd tp l op p p' k) ∨
  (∃ p', p ≤ p' ∧ p' ≤ fd ∧ oX P fd tp l op p p' 0 ∧ oF P fd tp l op p p') ∨
  (∃ p', p < p' ∧ p' ≤ fd ∧ dgP (chB fd tp p') ∧ oX P fd tp l op p p' 1 ∧ oF P fd tp l op p p')
theorem map_1 (cs : List Int32) (k : List Nat) (u : Nat) : cs ++ (k ++ [u]).map cC = (cs ++ k.map cC) ++ [cC u] := by rw [List.map_append, ← List.append_assoc]; rfl
section PAR
variable {P : bt_PT} {fd p op : Nat} {tp : Nat → Nat}
theorem rfS_cl {I : m_I} {ss : List Nat} (h : rfS I fd tp p (op + 1) ss) : rfS (ui I 35 0 25 (I 35 0 25 - 1)) fd tp p op ss := by
  obtain ⟨⟨h1, h2, h3, h4, h5, h6⟩, h7, h8, h9, h10⟩ := h
  exact ⟨⟨h1, by rw [ui_j (by decide)]; exact h2, fun j hj => by rw [ui_k (by decide)]; exact h3 j hj, h4, by rw [ui_j (by decide)]; exact h5, h6⟩, by rw [ui_j (by decide)]; exact h7, by rw [ui_same, h8, nI_pred], by rw [ui_j (by decide)]; exact h9, fun i hi => by rw [ui_k (by decide), ui_k (by decide)]; exact h10 i hi⟩
theorem rfB_25 {I : m_I} {ln : Nat} {v : Int32} (h : rfB I fd tp p ln) : rfB (ui I 35 0 25 v) fd tp p ln := by
  obtain ⟨⟨h1, h2, h3, h4, h5, h6⟩, h7, h9⟩ := h
  exact ⟨⟨h1, by rw [ui_j (by decide)]; exact h2, fun j hj => by rw [ui_k (by decide)]; exact h3 j hj, h4, by rw [ui_j (by decide)]; exact h5, h6⟩, by rw [ui_j (by decide)]; exact h7, by rw [ui_j (by decide)]; exact h9⟩
theorem sp_closing {d : Nat} {f : Int32 → m_I → m_L → Prop} {I : m_I} {L : m_L} (h : tcP I fd tp p) (g1 : chB fd tp p = 41 → f 1 (ui I 7 0 5 (nI p + 1)) L) (g0 : ¬ chB fd tp p = 41 → f 0 I L) : bt_WP P (d + 2) mi_La_readClosing [vr 7 0] (I, L) (kI f) := by
  have e41 : cBy fd tp p = 41 ↔ chB fd tp p = 41 := cB_eq (c := 41) h.2.2.2.1 (by omega)
  refine ru_La_readClosing (sp_next h ?_)
  rw [e41, h.2.2.2.2.1]
  exact ⟨fun z => ⟨o01, g1 z⟩, fun z => ⟨z01, g0 z⟩⟩
/-- a class's operand that is no number -/
theorem sp_op {d : Nat} {f : Int32 → m_I → m_L → Prop} {I : m_I} {L : m_L} (h : tcP I fd tp p) (hd : ¬ dgP (chB fd tp p)) (hop : op ≤ 6)
    (gN : nmO (chB fd tp p) < 9 → bt_WP P d mi_La_note [vr 7 0, vi (-cBy fd tp p)] (ui I 7 0 5 (nI p + 1), L) (kV fun I43 N44 => f 1 I43 N44))
    (gP : chB fd tp p = 40 → op < 6 → bt_WP P d mi_La_readLevel [vr 7 0, vi 0, vi (nI (op + 1))] (ui I 7 0 5 (nI p + 1), L) (kI fun x13 I11 N12 => (x13 = 0 → f 0 I11 N12) ∧ (¬ x13 = 0 → (bt_WP P d mi_La_readClosing [vr 7 0] (I11, N12) (kI fun x16 I14 N15 => (x16 = 0 → f 0 I14 N15) ∧ (¬ x16 = 0 → f 1 I14 N15))))))
    (gU : (chB fd tp p = 33 ∨ chB fd tp p = 45) → op < 6 → bt_WP P d mi_La_readOperand [vr 7 0, vi (nI (op + 1))] (ui I 7 0 5 (nI p + 1), L) (kI fun x19 I17 N18 => (¬ x19 = 0 → (bt_WP P d mi_La_note [vr 7 0, vi (if chB fd tp p = 33 then -33 else -126)] (I17, N18) (kV fun I20 N21 => f 1 I20 N21))) ∧ (x19 = 0 → f 0 I17 N18)))
    (gB : ¬ nmO (chB fd tp p) < 9 → (op = 6 ∨ (¬ chB fd tp p = 40 ∧ ¬ chB fd tp p = 33 ∧ ¬ chB fd tp p = 45)) → f 0 I L) (hd1 : 0 < d) : bt_WP P (d + 1) mi_La_readOperand [vr 7 0, vi (nI op)] (I, L) (kI f) := by
  obtain ⟨d, rfl⟩ : ∃ d', d = d' + 1 := ⟨d - 1, by omega⟩
  have e40 : cBy fd tp p = 40 ↔ chB fd tp p = 40 := cB_eq (c := 40) h.2.2.2.1 (by omega)
  have e33 : cBy fd tp p = 33 ↔ chB fd tp p = 33 := cB_eq (c := 33) h.2.2.2.1 (by omega)
  have e45 : cBy fd tp p = 45 ↔ chB fd tp p = 45 := cB_eq (c := 45) h.2.2.2.1 (by omega)
  have e6 : nI op < 6 ↔ op < 6 := nlt (b := 6) (by omega) (by omega)
  have hn := nmO_c (chB fd tp p)
  have h23 : bt_Go P (d + 1) mi_La_readOperand (kI f) 23 [some (vr 7 0), some (vi (nI op)), some (vi (cBy fd tp p))] [] (I, L) := by
    refine ru_La_readOperand_23 (sp_isName h (fun n9 => ⟨fun _ => ?_, (fun z => absurd rfl z)⟩) (fun n9 => ⟨(fun z => absurd z (by decide)), fun _ => ?_⟩))
    · rw [e40, e33, e45, e6, h.2.2.2.2.1, nI_s]
      have hU : (chB fd tp p = 33 ∨ chB fd tp p = 45) → op < 6 → bt_WP P (d + 1) mi_La_readOperand [vr 7 0, vi (nI (op + 1))] (ui I 7 0 5 (nI p + 1), L) (kI fun x19 I17 N18 => (¬ x19 = 0 → ((¬ chB fd tp p = 45 → (bt_WP P (d + 1) mi_La_note [vr 7 0, vi (-cBy fd tp p)] (I17, N18) (kV fun I20 N21 => ((1 : Int32) = 0 ∨ (1 : Int32) = 1) ∧ f 1 I20 N21))) ∧ (chB fd tp p = 45 → (bt_WP P (d + 1) mi_La_note [vr 7 0, vi (-126)] (I17, N18) (kV fun I22 N23 => ((1 : Int32) = 0 ∨ (1 : Int32) = 1) ∧ f 1 I22 N23))))) ∧ (x19 = 0 → (((0 : Int32) = 0 ∨ (0 : Int32) = 1) ∧ f 0 I17 N18))) := fun hu ho => by
        refine bt_WP_imp (gU hu ho) (fun r σ y => ?_)
        match r, y with
        | some (.inl x), y =>
          refine ⟨fun z => ⟨fun n45 => ?_, fun y45 => ?_⟩, fun z => ⟨z01, y.2 z⟩⟩
          · have h33 : chB fd tp p = 33 := hu.resolve_right n45
            have y1 := y.1 z
            rw [if_pos h33] at y1
            rw [e33.mpr h33]
            refine bt_WP_imp y1 (fun r σ w => ?_)
            match r, w with
            | none, w => exact ⟨o01, w⟩
          · have y1 := y.1 z
            rw [if_neg (by omega)] at y1
            refine bt_WP_imp y1 (fun r σ w => ?_)
            match r, w with
            | none, w => exact ⟨o01, w⟩
      have hb : (op = 6 ∨ (¬ chB fd tp p = 40 ∧ ¬ chB fd tp p = 33 ∧ ¬ chB fd tp p = 45)) → ((0 : Int32) = 0 ∨ (0 : Int32) = 1) ∧ f 0 I L := fun q => ⟨z01, gB (by omega) q⟩
      refine ⟨fun z => ⟨fun ho => ⟨fun y => absurd z y, fun _ => ?_⟩, fun ho => hb (Or.inl (by omega))⟩, fun n40 => ⟨fun z => ⟨fun ho => ⟨fun _ => hU (Or.inl z) ho, fun y => absurd y n40⟩, fun ho => hb (Or.inl (by omega))⟩, fun n33 => ⟨fun n45 => hb (Or.inr ⟨n40, n33, n45⟩), fun z => ⟨fun ho => ⟨fun _ => hU (Or.inr z) ho, fun y => absurd y n40⟩, fun ho => hb (Or.inl (by omega))⟩⟩⟩⟩
      refine bt_WP_imp (gP z ho) (fun r σ y => ?_)
      match r, y with
      | some (.inl x), y =>
        refine ⟨fun w => ⟨z01, y.1 w⟩, fun w => bt_WP_imp (y.2 w) (fun r σ y2 => ?_)⟩
        match r, y2 with
        | some (.inl x), y2 => exact ⟨fun w => ⟨z01, y2.1 w⟩, fun w => ⟨o01, y2.2 w⟩⟩
    · rw [h.2.2.2.2.1]
      refine bt_WP_imp (gN n9) (fun r σ y => ?_)
      match r, y with
      | none, y => exact ⟨o01, y⟩
  refine ru_La_readOperand (sp_next h ⟨fun _ => h23, fun z1 => ⟨fun _ => h23, fun z2 => absurd ((cB_dg h.2.2.2.1).mp ⟨z1, z2⟩) hd⟩⟩)
/-- the reference's operand that is no number -/
theorem sm_op {d : Nat} {f : m_I → m_L → Prop} {I : m_I} {L : m_L} {ss : List Nat} (h : rfS I fd tp p op ss) (hop : op ≤ 6) (hd : ¬ dgP (chB fd tp p)) (hl : ss.length < 129)
    (gN : nmO (chB fd tp p) < 9 → p < fd → ∀ I', rfS I' fd tp (p + 1) op (ss ++ [10000 + nmO (chB fd tp p)]) → rfF I I' → f I' L)
    (gP : chB fd tp p = 40 → op < 6 → ∀ I', rfS I' fd tp (p + 1) (op + 1) ss → rfF I I' → bt_WP P (d + 3) mi_M_either [vr 35 0] (I', L) (kV fun I21 N22 => ((I21 35 0 24) < 0 → (bt_WP P (d + 3) mi_M_look [vr 35 0] (I21, N22) (kI fun x25 I23 N24 => (x25 = 41 → (f (ui (ui I23 35 0 23 ((I23 35 0 23) + 1)) 35 0 25 (((ui I23 35 0 23 ((I23 35 0 23) + 1)) 35 0 25) - 1)) N24)) ∧ (¬ x25 = 41 → (bt_WP P (d + 3) mi_M_faulty [vr 35 0] (I23, N24) (kV fun I26 N27 => f I26 N27)))))) ∧ (¬ (I21 35 0 24) < 0 → (f I21 N22))))
    (gU : (chB fd tp p = 33 ∨ chB fd tp p = 45) → op < 6 → ∀ I', rfS I' fd tp (p + 1) (op + 1) ss → rfF I I' → bt_WP P (d + 3) mi_M_operand [vr 35 0] (I', L) (kV fun I10 N11 => bt_WP P (d + 3) mi_M_addStep [vr 35 0, vi (aC (if chB fd tp p = 33 then 10006 else 10007)), vi 0] (ui I10 35 0 25 ((I10 35 0 25) - 1), N11) (kV fun I12 N13 => f I12 N13)))
    (gB : ¬ nmO (chB fd tp p) < 9 → (op = 6 ∨ (¬ chB fd tp p = 40 ∧ ¬ chB fd tp p = 33 ∧ ¬ chB fd tp p = 45)) → ∀ I' ln, ln ≤ ss.length + 1 → rfB I' fd tp p ln → rfF I I' → f I' L) : bt_WP P (d + 4) mi_M_operand [vr 35 0] (I, L) (kV f) := by
  have ht := h.1.2.2.2.1
  have e33 : mBy fd tp p = 33 ↔ chB fd tp p = 33 := mB_eq (c := 33) ht (by omega)
  have e45 : mBy fd tp p = 45 ↔ chB fd tp p = 45 := mB_eq (c := 45) ht (by omega)
  have e40 : mBy fd tp p = 40 ↔ chB fd tp p = 40 := mB_eq (c := 40) ht (by omega)
  have hn := nmO_c (chB fd tp p)
  refine ru_M_operand (sm_look h.1 (sm_nameOf ht (fun n9 => ⟨fun _ => ?_, fun z => absurd (by decide) z⟩) (fun n9 => ⟨fun z => absurd z (n_neg (by omega)), fun _ => sm_nameOf ht (fun y => by omega) (fun _ => ?_)⟩)))
  · rw [e33, e45, e40]
    have hU : (chB fd tp p = 33 ∨ chB fd tp p = 45) → bt_WP P (d + 3) mi_M_opens [vr 35 0] (I, L) (kI fun x9 I7 N8 => (¬ x9 = 0 → (bt_WP P (d + 3) mi_M_operand [vr 35 0] (I7, N8) (kV fun I10 N11 => (¬ chB fd tp p = 33 → (bt_WP P (d + 3) mi_M_addStep [vr 35 0, vi 4, vi 0] (ui I10 35 0 25 ((I10 35 0 25) - 1), N11) (kV fun I12 N13 => f I12 N13))) ∧ (chB fd tp p = 33 → (bt_WP P (d + 3) mi_M_addStep [vr 35 0, vi 3, vi 0] (ui I10 35 0 25 ((I10 35 0 25) - 1), N11) (kV fun I14 N15 => f I14 N15)))))) ∧ (x9 = 0 → (f I7 N8))) := fun hu => by
      have hp : p < fd := by
        rcases hu with q | q
        · exact ch_lt q (by omega)
        · exact ch_lt q (by omega)
      refine sm_opens h hop hp (fun ho I' a1 a2 => ⟨fun _ => ?_, (fun z => absurd z (by decide))⟩) (fun ho I' a1 a2 => ⟨(fun z => absurd rfl z), fun _ => gB (by omega) (Or.inl ho) I' _ (by omega) a1 a2⟩)
      refine bt_WP_imp (gU hu ho I' a1 a2) (fun r σ y => ?_)
      match r, y with
      | none, y =>
        refine ⟨fun z => ?_, fun z => ?_⟩
        · rw [if_neg z] at y; exact y
        · rw [if_pos z] at y; exact y
    refine ⟨fun z => hU (Or.inl z), fun n33 => ⟨fun n45 => ⟨fun n40 => ?_, fun z => ?_⟩, fun z => hU (Or.inr z)⟩⟩
    · exact sm_figure (n := 0) hl (by omega) (fun i hi => by omega) (Or.inr hd) h (fun z => by omega) (fun _ I' a1 a2 => gB (by omega) (Or.inr ⟨n40, n33, n45⟩) I' _ (Nat.le_refl _) a1 a2)
    · have hp : p < fd := ch_lt z (by omega)
      exact sm_opens h hop hp (fun ho I' a1 a2 => ⟨fun _ => gP z ho I' a1 a2, (fun z => absurd z (by decide))⟩) (fun ho I' a1 a2 => ⟨(fun z => absurd rfl z), fun _ => gB (by omega) (Or.inl ho) I' _ (by omega) a1 a2⟩)
  · have hp : p < fd := by
      obtain ⟨e1, e2⟩ := nmO_e n9
      have : chB fd tp p < 256 := by omega
      exact ch_lt rfl this
    obtain ⟨e1, e2⟩ := nmO_e n9
    have eac : aC (10000 + nmO (chB fd tp p)) = 2 ∧ wC (10000 + nmO (chB fd tp p)) = nI (nmO (chB fd tp p)) := by
      unfold aC wC
      rw [if_neg (by omega), if_pos (by omega), if_neg (by omega), if_pos (by omega), show 10000 + nmO (chB fd tp p) - 10000 = nmO (chB fd tp p) by omega]
      exact ⟨rfl, rfl⟩
    refine sm_addS (t := 10000 + nmO (chB fd tp p)) h (Or.inl (by omega)) (by omega) eac.1.symm eac.2.symm (fun I' a1 a2 => ?_)
    rw [a1.1.2.2.2.2.1]
    exact gN n9 hp _ (rfS_at a1 hp) (rfF_tr a2 (rfF_35 (by omega)))
end PAR
