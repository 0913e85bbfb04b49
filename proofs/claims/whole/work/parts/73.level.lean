/-! THE LAW: the levels, both sides -/
def mst (l : Nat) : Nat := if l = 2 then 1 else 120
def rL (P : bt_PT) (d l more : Nat) (f : m_I → m_L → Prop) (I : m_I) (L : m_L) : Prop := match l with
  | 0 => bt_Go P d mi_M_either (kV f) 4 [some (vr 35 0)] [] (I, L)
  | 1 => bt_Go P d mi_M_both (kV f) 4 [some (vr 35 0)] [] (I, L)
  | 2 => match more with
    | 0 => bt_WP P d mi_M_look [vr 35 0] (I, L) (kI fun x5 I3 N4 => (0 ≤ (I3 35 0 24) → (f I3 N4)) ∧ (¬ 0 ≤ (I3 35 0 24) → ((x5 = 60 → (bt_WP P d mi_M_sum [vr 35 0] (ui I3 35 0 23 ((I3 35 0 23) + 1), N4) (kV fun I6 N7 => bt_WP P d mi_M_addStep [vr 35 0, vi x5, vi 0] (I6, N7) (kV fun I8 N9 => f I8 N9)))) ∧ (¬ x5 = 60 → ((x5 = 61 → (bt_WP P d mi_M_sum [vr 35 0] (ui I3 35 0 23 ((I3 35 0 23) + 1), N4) (kV fun I10 N11 => bt_WP P d mi_M_addStep [vr 35 0, vi x5, vi 0] (I10, N11) (kV fun I12 N13 => f I12 N13)))) ∧ (¬ x5 = 61 → ((x5 = 62 → (bt_WP P d mi_M_sum [vr 35 0] (ui I3 35 0 23 ((I3 35 0 23) + 1), N4) (kV fun I14 N15 => bt_WP P d mi_M_addStep [vr 35 0, vi x5, vi 0] (I14, N15) (kV fun I16 N17 => f I16 N17)))) ∧ (¬ x5 = 62 → (f I3 N4)))))))))
    | _ + 1 => f I L
  | 3 => bt_Go P d mi_M_sum (kV f) 4 [some (vr 35 0), none] [] (I, L)
  | _ => bt_Go P d mi_M_product (kV f) 4 [some (vr 35 0), none] [] (I, L)
def cL (P : bt_PT) (d l op more : Nat) (f : Int32 → m_I → m_L → Prop) (I : m_I) (L : m_L) : Prop := bt_Go P d mi_La_readLevel (kI f) 39 [some (vr 7 0), some (vi (nI l)), some (vi (nI op)), some (vi (nI (mst l))), some (vi (nI more)), none] [] (I, L)
section LEV
variable {P : bt_PT} {d fd p op l more ln : Nat} {I : m_I} {L : m_L} {tp : Nat → Nat}
theorem rL_in {f : m_I → m_L → Prop} (hl : l < 5) (h : bt_WP P d (mM (l + 1)) [vr 35 0] (I, L) (kV fun I1 N2 => rL P d l 0 f I1 N2)) : bt_WP P (d + 1) (mM l) [vr 35 0] (I, L) (kV f) := by
  match l, hl, h with
  | 0, _, h => exact ru_M_either h
  | 1, _, h => exact ru_M_both h
  | 2, _, h => exact ru_M_compared h
  | 3, _, h => exact ru_M_sum h
  | 4, _, h => exact ru_M_product h
theorem rL_B {f : m_I → m_L → Prop} (h : rfB I fd tp p ln) (g : f I L) : rL P (d + 1) l more f I L := by
  have hp := h.1.2.2.2.2.2
  have hf := h.1.1
  have e : (0 : Int32) ≤ I 35 0 24 := by rw [h.2.1]; exact (nle (a := 0) (by omega) (by omega)).mpr (by omega)
  match l with
  | 0 => exact ru_M_either_4 ⟨fun _ => g, fun z => absurd e z⟩
  | 1 => exact ru_M_both_4 ⟨fun _ => g, fun z => absurd e z⟩
  | 2 => 
    match more with
    | 0 => exact sm_look h.1 ⟨fun _ => g, fun z => absurd e z⟩
    | _ + 1 => exact g
  | 3 => exact ru_M_sum_4 ⟨fun _ => g, fun z => absurd e z⟩
  | _ + 4 => exact ru_M_product_4 ⟨fun _ => g, fun z => absurd e z⟩
theorem rL_no {f : m_I → m_L → Prop} {ss : List Nat} (hl : l < 5) (h : rfS I fd tp p op ss) (hx : ¬ lvO (chB fd tp p) = l ∨ (l = 2 ∧ 0 < more)) (g : f I L) : rL P (d + 1) l more f I L := by
  have e : ¬ (0 : Int32) ≤ I 35 0 24 := by rw [h.2.1]; decide
  have ht := h.1.2.2.2.1
  have em : ∀ c, c < 128 → (mBy fd tp p = nI c ↔ chB fd tp p = c) := fun c hc => mB_eq ht hc
  have hc := lvO_e (chB fd tp p)
  match l, hl, hx with
  | 0, _, hx => exact ru_M_either_4 ⟨fun z => absurd z e, fun _ => sm_look h.1 ⟨fun _ => g, fun z => absurd ((em 124 (by omega)).mp z) (by omega)⟩⟩
  | 1, _, hx => exact ru_M_both_4 ⟨fun z => absurd z e, fun _ => sm_look h.1 ⟨fun _ => g, fun z => absurd ((em 38 (by omega)).mp z) (by omega)⟩⟩
  | 2, _, hx => 
    match more, hx with
    | 0, hx => exact sm_look h.1 ⟨fun z => absurd z e, fun _ => ⟨fun z => absurd ((em 60 (by omega)).mp z) (by omega), fun _ => ⟨fun z => absurd ((em 61 (by omega)).mp z) (by omega), fun _ => ⟨fun z => absurd ((em 62 (by omega)).mp z) (by omega), fun _ => g⟩⟩⟩⟩
    | _ + 1, _ => exact g
  | 3, _, hx => exact ru_M_sum_4 ⟨fun z => absurd z e, fun _ => sm_look h.1 ⟨fun z => absurd ((em 43 (by omega)).mp z) (by omega), fun _ => sm_look h.1 ⟨fun _ => g, fun z => absurd ((em 45 (by omega)).mp z) (by omega)⟩⟩⟩
  | 4, _, hx => exact ru_M_product_4 ⟨fun z => absurd z e, fun _ => sm_look h.1 ⟨fun z => absurd ((em 42 (by omega)).mp z) (by omega), fun _ => sm_look h.1 ⟨fun z => absurd ((em 47 (by omega)).mp z) (by omega), fun _ => sm_look h.1 ⟨fun _ => g, fun z => absurd ((em 37 (by omega)).mp z) (by omega)⟩⟩⟩⟩
theorem rL_go {f : m_I → m_L → Prop} {ss : List Nat} (hl : l < 5) (h : rfS I fd tp p op ss) (hs : lvO (chB fd tp p) = l) (hm : l = 2 → more = 0) (g : bt_WP P (d + 1) (mM (l + 1)) [vr 35 0] (ui I 35 0 23 (nI p + 1), L) (kV fun I1 N1 => bt_WP P (d + 1) mi_M_addStep [vr 35 0, vi (mBy fd tp p), vi 0] (I1, N1) (kV fun I2 N2 => rL P (d + 1) l (more + 1) f I2 N2))) : rL P (d + 1) l more f I L := by
  have e : ¬ (0 : Int32) ≤ I 35 0 24 := by rw [h.2.1]; decide
  have ht := h.1.2.2.2.1
  have e5 := h.1.2.2.2.2.1
  have em : ∀ c, c < 128 → (mBy fd tp p = nI c ↔ chB fd tp p = c) := fun c hc => mB_eq ht hc
  have hc := lvO_e (chB fd tp p)
  rw [← e5] at g
  match l, hl, hs, hm, g with
  | 0, _, hs, _, g =>
    have e1 := (em 124 (by omega)).mpr (by omega)
    rw [e1] at g
    exact ru_M_either_4 ⟨fun z => absurd z e, fun _ => sm_look h.1 ⟨fun z => absurd e1 z, fun _ => g⟩⟩
  | 1, _, hs, _, g =>
    have e1 := (em 38 (by omega)).mpr (by omega)
    rw [e1] at g
    exact ru_M_both_4 ⟨fun z => absurd z e, fun _ => sm_look h.1 ⟨fun z => absurd e1 z, fun _ => g⟩⟩
  | 2, _, hs, hm, g =>
    have hm := hm rfl
    subst hm
    exact sm_look h.1 ⟨fun z => absurd z e, fun _ => ⟨fun _ => g, fun z60 => ⟨fun _ => g, fun z61 => ⟨fun _ => g, fun z62 => by
      have h60 : ¬ chB fd tp p = 60 := fun z => z60 ((em 60 (by omega)).mpr z)
      have h61 : ¬ chB fd tp p = 61 := fun z => z61 ((em 61 (by omega)).mpr z)
      have h62 : ¬ chB fd tp p = 62 := fun z => z62 ((em 62 (by omega)).mpr z)
      omega⟩⟩⟩⟩
  | 3, _, hs, _, g =>
    exact ru_M_sum_4 ⟨fun z => absurd z e, fun _ => sm_look h.1 ⟨fun _ => sm_look h.1 g, fun z43 => sm_look h.1 ⟨fun z45 => by
      have h43 : ¬ chB fd tp p = 43 := fun z => z43 ((em 43 (by omega)).mpr z)
      have h45 : ¬ chB fd tp p = 45 := fun z => z45 ((em 45 (by omega)).mpr z)
      omega, fun _ => sm_look h.1 g⟩⟩⟩
  | 4, _, hs, _, g =>
    exact ru_M_product_4 ⟨fun z => absurd z e, fun _ => sm_look h.1 ⟨fun _ => sm_look h.1 g, fun z42 => sm_look h.1 ⟨fun _ => sm_look h.1 g, fun z47 => sm_look h.1 ⟨fun z37 => by
      have h42 : ¬ chB fd tp p = 42 := fun z => z42 ((em 42 (by omega)).mpr z)
      have h47 : ¬ chB fd tp p = 47 := fun z => z47 ((em 47 (by omega)).mpr z)
      have h37 : ¬ chB fd tp p = 37 := fun z => z37 ((em 37 (by omega)).mpr z)
      omega, fun _ => sm_look h.1 g⟩⟩⟩⟩
-- the class
theorem cL_in {f : Int32 → m_I → m_L → Prop} (hl : l < 5) (h : bt_WP P d mi_La_readLevel [vr 7 0, vi (nI (l + 1)), vi (nI op)] (I, L) (kI fun x I1 N2 => (¬ x = 0 → cL P d l op 0 f I1 N2) ∧ (x = 0 → f 0 I1 N2))) : bt_WP P (d + 1) mi_La_readLevel [vr 7 0, vi (nI l), vi (nI op)] (I, L) (kI f) := by
  have e2 : nI l = 2 ↔ l = 2 := neq (b := 2) (by omega) (by omega)
  refine ru_La_readLevel ⟨fun _ => ?_, fun z => absurd ((nlt (b := 5) (by omega) (by omega)).mpr hl) z⟩
  rw [nI_s]
  refine bt_WP_imp h (fun r σ y => ?_)
  match r, y with
  | some (.inl x), y =>
    refine ⟨fun z => ?_, fun z => ⟨z01, y.2 z⟩⟩
    have y1 := y.1 z
    unfold cL mst at y1
    rw [e2]
    refine ⟨fun z2 => ?_, fun z2 => ?_⟩
    · rw [if_neg z2] at y1; exact y1
    · rw [if_pos z2] at y1; exact y1
theorem cL_no {f : Int32 → m_I → m_L → Prop} (hl : l < 5) (hm : more ≤ 120) (h : tcP I fd tp p) (hx : ¬ lvO (chB fd tp p) = l ∨ mst l ≤ more) (g : f 1 I L) : cL P (d + 1) l op more f I L := by
  have hms : mst l ≤ 120 := by unfold mst; split <;> omega
  refine ru_La_readLevel_39 ⟨fun _ => ⟨o01, g⟩, fun z => ?_⟩
  have z' : ¬ mst l ≤ more := fun y => z ((nle (by omega) (by omega)).mpr y)
  have hx := hx.resolve_right z'
  refine sp_next h (sp_levelOf h (fun n9 => ⟨fun _ => ⟨o01, g⟩, fun z => absurd (show nI l < 0 from by rw [← z]; decide) (n_neg (by omega))⟩) (fun n9 => ⟨fun _ => ⟨o01, g⟩, fun z => absurd ((neq (by omega) (by omega)).mp z) hx⟩))
theorem cL_go {f : Int32 → m_I → m_L → Prop} (hl : l < 5) (h : tcP I fd tp p) (hs : lvO (chB fd tp p) = l) (hm : more < mst l) (g : bt_WP P (d + 1) mi_La_readLevel [vr 7 0, vi (nI (l + 1)), vi (nI op)] (ui I 7 0 5 (nI p + 1), L) (kI fun x I1 N1 => (¬ x = 0 → (bt_WP P (d + 1) mi_La_note [vr 7 0, vi (cC (10100 + chB fd tp p))] (I1, N1) (kV fun I2 N2 => cL P (d + 1) l op (more + 1) f I2 N2))) ∧ (x = 0 → f 0 I1 N1))) : cL P (d + 1) l op more f I L := by
  have hms : mst l ≤ 120 := by unfold mst; split <;> omega
  have hc : chB fd tp p < 128 := lvO_lt (by omega)
  have ec : cC (10100 + chB fd tp p) = -cBy fd tp p := by
    unfold cC
    rw [if_neg (by omega), if_neg (by omega), if_neg (by omega), if_neg (by omega), show 10100 + chB fd tp p - 10100 = chB fd tp p by omega, (cB_eq (c := chB fd tp p) h.2.2.2.1 (by omega)).mpr rfl]
  rw [ec] at g
  refine ru_La_readLevel_39 ⟨fun z => absurd ((nle (by omega) (by omega)).mp z) (by omega), fun _ => sp_next h (sp_levelOf h (fun n9 => by omega) (fun n9 => ⟨fun z => absurd (by rw [hs]) z, fun _ => sp_next h ?_⟩))⟩
  rw [nI_s, h.2.2.2.2.1]
  refine bt_WP_imp g (fun r σ y => ?_)
  match r, y with
  | some (.inl x), y =>
    refine ⟨fun z => ?_, fun z => ⟨z01, y.2 z⟩⟩
    refine bt_WP_imp (y.1 z) (fun r σ y => ?_)
    match r, y with
    | none, y =>
      rw [nI_s]; exact y
end LEV
