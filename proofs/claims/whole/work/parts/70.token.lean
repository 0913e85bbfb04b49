/-! THE LAW: tokens evaluated; numbers read -/
def tw (s : Nat) (a b : Int32) : Int32 :=
  if s = 124 then (if a = 0 then (if b = 0 then 0 else 1) else 1) else
  if s = 38 then (if a = 0 then 0 else (if b = 0 then 0 else 1)) else
  if s = 60 then (if b ≤ a then 0 else 1) else
  if s = 61 then (if a = b then 1 else 0) else
  if s = 62 then (if a ≤ b then 0 else 1) else
  if s = 43 then a + b else if s = 45 then a - b else if s = 42 then a * b else
  if s = 47 then (if b = 0 then 0 else a / b) else (if b = 0 then 0 else a - a / b * b)
def ev1 (env : Nat → Int32) (t : Nat) (st : List Int32) : Option (List Int32) :=
  if t < 10000 then some (nI t :: st) else
  if t < 10006 then some (env (t - 10000) :: st) else
  if t = 10006 then (match st with | a :: r => some ((if a = 0 then 1 else 0) :: r) | [] => none) else
  if t = 10007 then (match st with | a :: r => some (-a :: r) | [] => none) else
  (match st with | b :: a :: r => some (tw (t - 10100) a b :: r) | _ => none)
def evS (env : Nat → Int32) : List Nat → List Int32 → Option (List Int32)
  | [], st => some st
  | t :: ts, st => match ev1 env t st with
    | some st' => evS env ts st'
    | none => none
theorem evS_app {env : Nat → Int32} : ∀ (k k' : List Nat) (st st' : List Int32), evS env k st = some st' → evS env (k ++ k') st = evS env k' st'
  | [], k', st, st', h => by cases h; rfl
  | t :: ts, k', st, st', h => by
    have h' : (match ev1 env t st with | some s => evS env ts s | none => none) = some st' := h
    show (match ev1 env t st with | some s => evS env (ts ++ k') s | none => none) = _
    cases hc : ev1 env t st with
    | none => rw [hc] at h'; cases h'
    | some s =>
      rw [hc] at h'
      exact evS_app ts k' s st' h'
def wfT (k : List Nat) : Prop := (∀ t, t ∈ k → okT t) ∧ ∀ env st, ∃ v, evS env k st = some (v :: st)
def tlT (k : List Nat) : Prop := (∀ t, t ∈ k → okT t) ∧ ∀ env v st, ∃ v', evS env k (v :: st) = some (v' :: st)
theorem ok_app {k k' : List Nat} (h : ∀ t, t ∈ k → okT t) (h' : ∀ t, t ∈ k' → okT t) : ∀ t, t ∈ k ++ k' → okT t := fun t ht => by
  rcases List.mem_append.mp ht with q | q
  · exact h t q
  · exact h' t q
theorem ok_1 {t : Nat} (h : okT t) : ∀ u, u ∈ [t] → okT u := fun u hu => by
  rw [List.mem_singleton] at hu; subst hu; exact h
theorem wf_num {v : Nat} (h : v < 10000) : wfT [v] := ⟨ok_1 (Or.inl (by omega)), fun env st => ⟨nI v, by
  show (match ev1 env v st with | some s => evS env [] s | none => none) = _
  unfold ev1; rw [if_pos h]; rfl⟩⟩
theorem wf_name {i : Nat} (h : i < 6) : wfT [10000 + i] := ⟨ok_1 (Or.inl (by omega)), fun env st => ⟨env i, by
  show (match ev1 env (10000 + i) st with | some s => evS env [] s | none => none) = _
  unfold ev1; rw [if_neg (by omega), if_pos (by omega), show 10000 + i - 10000 = i by omega]; rfl⟩⟩
theorem wf_un {k : List Nat} {u : Nat} (h : wfT k) (hu : u = 10006 ∨ u = 10007) : wfT (k ++ [u]) := by
  refine ⟨ok_app h.1 (ok_1 (Or.inl (by omega))), fun env st => ?_⟩
  obtain ⟨v, hv⟩ := h.2 env st
  rw [evS_app k [u] st _ hv]
  rcases hu with rfl | rfl
  · exact ⟨_, rfl⟩
  · exact ⟨_, rfl⟩
theorem tl_nil : tlT [] := ⟨fun t ht => absurd ht (List.not_mem_nil), fun env v st => ⟨v, rfl⟩⟩
theorem tl_cons {k k' : List Nat} {s : Nat} (h : wfT k) (hs : lvO s < 9) (h' : tlT k') : tlT (k ++ (10100 + s) :: k') := by
  have hok : okT (10100 + s) := Or.inr ⟨by omega, by rw [show 10100 + s - 10100 = s by omega]; exact hs⟩
  refine ⟨ok_app h.1 (fun t ht => ?_), fun env v st => ?_⟩
  · rcases List.mem_cons.mp ht with q | q
    · subst q; exact hok
    · exact h'.1 t q
  · obtain ⟨w, hw⟩ := h.2 env (v :: st)
    rw [evS_app k _ _ _ hw]
    obtain ⟨v', hv'⟩ := h'.2 env (tw s v w) st
    refine ⟨v', ?_⟩
    show (match ev1 env (10100 + s) (w :: v :: st) with | some z => evS env k' z | none => none) = _
    unfold ev1
    rw [if_neg (by omega), if_neg (by omega), if_neg (by omega), if_neg (by omega), show 10100 + s - 10100 = s by omega]
    exact hv'
theorem wf_tl {k k' : List Nat} (h : wfT k) (h' : tlT k') : wfT (k ++ k') := by
  refine ⟨ok_app h.1 h'.1, fun env st => ?_⟩
  obtain ⟨v, hv⟩ := h.2 env st
  rw [evS_app k k' st _ hv]
  exact h'.2 env v st
-- numbers
def nvN (fd : Nat) (tp : Nat → Nat) (p : Nat) : Nat → Nat
  | 0 => 0
  | j + 1 => 10 * nvN fd tp p j + (chB fd tp (p + j) - 48)
section NUM
variable {P : bt_PT} {d : Nat} {I : m_I} {L : m_L} {fd p op : Nat} {tp : Nat → Nat}
theorem nv_lt : ∀ n, (∀ i, i < n → dgP (chB fd tp (p + i))) → nvN fd tp p n < 10 ^ n
  | 0, _ => by show 0 < 1; omega
  | n + 1, h => by
    have ih := nv_lt n (fun i hi => h i (by omega))
    have hd : chB fd tp (p + n) ≤ 57 := (h n (by omega)).2
    show 10 * nvN fd tp p n + (chB fd tp (p + n) - 48) < 10 ^ (n + 1)
    rw [Nat.pow_succ]; omega
theorem nv_4 {n : Nat} (hn : n ≤ 4) (h : ∀ i, i < n → dgP (chB fd tp (p + i))) : nvN fd tp p n < 10000 := by
  have h1 := nv_lt n h
  have h2 : 10 ^ n ≤ 10 ^ 4 := Nat.pow_le_pow_right (by omega) hn
  have h3 : 10 ^ 4 = 10000 := rfl
  omega
theorem nv_ex (fd p : Nat) (tp : Nat → Nat) : ∀ k j, j + k = 4 → (∀ i, i < j → dgP (chB fd tp (p + i))) → ∃ n, j ≤ n ∧ n ≤ 4 ∧ (∀ i, i < n → dgP (chB fd tp (p + i))) ∧ (n = 4 ∨ ¬ dgP (chB fd tp (p + n)))
  | 0, j, e, h => ⟨j, Nat.le_refl _, by omega, h, Or.inl (by omega)⟩
  | k + 1, j, e, h => by
    by_cases q : dgP (chB fd tp (p + j))
    · obtain ⟨n, h1, h2, h3, h4⟩ := nv_ex fd p tp k (j + 1) (by omega) (fun i hi => by
        by_cases e : i = j
        · subst e; exact q
        · exact h i (by omega))
      exact ⟨n, by omega, h2, h3, h4⟩
    · exact ⟨j, Nat.le_refl _, by omega, h, Or.inr q⟩
theorem dg_lt {q : Nat} (h : dgP (chB fd tp q)) : q < fd := by
  unfold dgP chB at h
  split at h
  · assumption
  · omega
theorem nv_i {a c : Nat} (hc : 48 ≤ c) : ((nI a * 10) + nI c) - 48 = nI (10 * a + (c - 48)) := by
  rw [show (10 : Int32) = nI 10 from rfl, pk_mul, nI_add, show (48 : Int32) = nI 48 from rfl, pk_sub (by omega)]
  congr 1; omega
theorem nv_i' {a c : Nat} (hc : 48 ≤ c) : ((10 * nI a) + nI c) - 48 = nI (10 * a + (c - 48)) := by
  rw [show (10 : Int32) = nI 10 from rfl, pk_mul, nI_add, show (48 : Int32) = nI 48 from rfl, pk_sub (by omega)]
  congr 1; omega
theorem sp_numL {f : m_I → m_L → Prop} {cs : List Int32} {n : Nat} (hc : cs.length < 128) (hn : n ≤ 4) (h1 : ∀ i, i < n → dgP (chB fd tp (p + i))) (h2 : n = 4 ∨ ¬ dgP (chB fd tp (p + n))) : ∀ (k j : Nat) (I : m_I), j + k = n → tcS I fd tp (p + j) cs → (∀ I', tcS I' fd tp (p + n) (cs ++ [nI (nvN fd tp p n)]) → tcF I I' → f I' L) → bt_Go P (d + 1) mi_La_readNumber (kV f) 4 [some (vr 7 0), some (vi (nI (nvN fd tp p j))), some (vi (nI j))] [] (I, L)
  | 0, j, I, e, h, g => by
    have e : j = n := by omega
    subst e
    have hnote := sp_note (P := P) (d := d) (f := f) (L := L) (v := nI (nvN fd tp p j)) h hc g
    refine ru_La_readNumber_4 ⟨fun _ => hnote, fun z => sp_next h.1 ?_⟩
    have hj : ¬ dgP (chB fd tp (p + j)) := h2.resolve_left (fun y => z (by rw [y]; decide))
    refine ⟨fun _ => hnote, fun z1 => sp_next h.1 ⟨fun _ => hnote, fun z2 => absurd ((cB_dg h.1.2.2.2.1).mp ⟨z1, z2⟩) hj⟩⟩
  | k + 1, j, I, e, h, g => by
    have hd := h1 j (by omega)
    obtain ⟨d1, d2⟩ := (cB_dg h.1.2.2.2.1).mpr hd
    have hlt := dg_lt hd
    refine ru_La_readNumber_4 ⟨fun z => absurd ((nle (a := 4) (by omega) (by omega)).mp z) (by omega), fun _ => sp_next h.1 ⟨fun z => absurd z d1, fun _ => sp_next h.1 ⟨fun z => absurd z d2, fun _ => sp_next h.1 ?_⟩⟩⟩
    rw [cB_d hd, nv_i hd.1, nI_s, h.1.2.2.2.2.1]
    obtain ⟨a1, a2⟩ := tcS_at h hlt
    exact sp_numL hc hn h1 h2 k (j + 1) _ (by omega) a1 (fun I' b1 b2 => g I' b1 (tcF_tr a2 b2))
theorem sp_readNumber {f : m_I → m_L → Prop} {cs : List Int32} {n : Nat} (hc : cs.length < 128) (hn : n ≤ 4) (h1 : ∀ i, i < n → dgP (chB fd tp (p + i))) (h2 : n = 4 ∨ ¬ dgP (chB fd tp (p + n))) (h : tcS I fd tp p cs) (g : ∀ I', tcS I' fd tp (p + n) (cs ++ [nI (nvN fd tp p n)]) → tcF I I' → f I' L) : bt_WP P (d + 2) mi_La_readNumber [vr 7 0] (I, L) (kV f) :=
  ru_La_readNumber (sp_numL hc hn h1 h2 n 0 I (by omega) h g)
theorem sm_addS {f : m_I → m_L → Prop} {ss : List Nat} {t : Nat} {v w : Int32} (h : rfS I fd tp p op ss) (ht : okT t) (hl : ss.length < 130) (ev : v = aC t) (ew : w = wC t) (g : ∀ I', rfS I' fd tp p op (ss ++ [t]) → rfF I I' → f I' L) : bt_WP P (d + 1) mi_M_addStep [vr 35 0, vi v, vi w] (I, L) (kV f) := by
  subst ev; subst ew; exact sm_addStep h ht hl g
theorem ac_n {v : Nat} (h : v < 10000) : aC v = 1 ∧ wC v = nI v := by
  unfold aC wC; rw [if_pos h, if_pos h]; exact ⟨rfl, rfl⟩
theorem sm_figL {f : m_I → m_L → Prop} {ss : List Nat} {n : Nat} (hl : ss.length < 129) (hn : n ≤ 4) (h1 : ∀ i, i < n → dgP (chB fd tp (p + i))) (h2 : n = 4 ∨ ¬ dgP (chB fd tp (p + n))) : ∀ (k j : Nat) (I : m_I), j + k = n → rfS I fd tp (p + j) op ss → (0 < n → ¬ dgP (chB fd tp (p + n)) → ∀ I', rfS I' fd tp (p + n) op (ss ++ [nvN fd tp p n]) → rfF I I' → f I' L) → (n = 0 ∨ dgP (chB fd tp (p + n)) → ∀ I', rfB I' fd tp (p + n) (ss.length + 1) → rfF I I' → f I' L) → bt_Go P (d + 2) mi_M_figure (kV f) 4 [some (vr 35 0), some (vi (nI (nvN fd tp p j))), some (vi (nI j))] [] (I, L)
  | 0, j, I, e, h, gA, gB => by
    have e : j = n := by omega
    subst e
    have hv := nv_4 hn h1
    obtain ⟨ea, ew⟩ := ac_n hv
    have h0 : nI j = 0 ↔ j = 0 := neq (b := 0) (by omega) (by omega)
    have hbad : j = 0 ∨ dgP (chB fd tp (p + j)) → bt_WP P (d + 2) mi_M_faulty [vr 35 0] (I, L) (kV fun I1 N2 => bt_WP P (d + 2) mi_M_addStep [vr 35 0, vi 1, vi (nI (nvN fd tp p j))] (I1, N2) (kV fun I3 N4 => f I3 N4)) := fun q => sm_faulty h (fun I' a1 a2 => sm_addStepB a1 (by omega) (fun I'' b1 b2 => gB q I'' b1 (rfF_tr a2 b2)))
    have hend : ¬ j = 0 → bt_WP P (d + 2) mi_M_look [vr 35 0] (I, L) (kI fun x7 I5 N6 => bt_WP P (d + 2) mi_M_in [vi x7, vi 48, vi 57] (I5, N6) (kI fun x10 I8 N9 => (x10 = 0 → (bt_WP P (d + 2) mi_M_addStep [vr 35 0, vi 1, vi (nI (nvN fd tp p j))] (I8, N9) (kV fun I11 N12 => f I11 N12))) ∧ (¬ x10 = 0 → (bt_WP P (d + 2) mi_M_faulty [vr 35 0] (I8, N9) (kV fun I13 N14 => bt_WP P (d + 2) mi_M_addStep [vr 35 0, vi 1, vi (nI (nvN fd tp p j))] (I13, N14) (kV fun I15 N16 => f I15 N16)))))) := fun q => sm_look h.1 (sm_in (bP_br (fun z => sm_addS (t := nvN fd tp p j) h (Or.inl (by omega)) (by omega) ea.symm ew.symm (gA (by omega) (fun y => z ((mB_dg h.1.2.2.2.1).mpr y)))) (fun z => hbad (Or.inr ((mB_dg h.1.2.2.2.1).mp z)))))
    refine ru_M_figure_4 ⟨fun _ => ⟨fun z => hbad (Or.inl (h0.mp z)), fun z => hend (fun y => z (h0.mpr y))⟩, fun z4 => sm_look h.1 (sm_in (bP_br (fun _ => ⟨fun z => hbad (Or.inl (h0.mp z)), fun z => hend (fun y => z (h0.mpr y))⟩) (fun z => ?_)))⟩
    have hj : ¬ dgP (chB fd tp (p + j)) := h2.resolve_left (fun y => z4 (by rw [y]; decide))
    exact absurd ((mB_dg h.1.2.2.2.1).mp z) hj
  | k + 1, j, I, e, h, gA, gB => by
    have hd := h1 j (by omega)
    have hlt := dg_lt hd
    refine ru_M_figure_4 ⟨fun z => absurd ((nle (a := 4) (by omega) (by omega)).mp z) (by omega), fun _ => sm_look h.1 (sm_in (bP_br (fun z => absurd ((mB_dg h.1.2.2.2.1).mpr hd) z) (fun _ => sm_look h.1 ?_)))⟩
    rw [mB_d hd, nv_i' hd.1, nI_s, h.1.2.2.2.2.1]
    have a2 : rfF I (ui I 35 0 23 (nI (p + j) + 1)) := rfF_35 (by omega)
    exact sm_figL hl hn h1 h2 k (j + 1) _ (by omega) (rfS_at h hlt) (fun q1 q2 I' b1 b2 => gA q1 q2 I' b1 (rfF_tr a2 b2)) (fun q I' b1 b2 => gB q I' b1 (rfF_tr a2 b2))
theorem sm_figure {f : m_I → m_L → Prop} {ss : List Nat} {n : Nat} (hl : ss.length < 129) (hn : n ≤ 4) (h1 : ∀ i, i < n → dgP (chB fd tp (p + i))) (h2 : n = 4 ∨ ¬ dgP (chB fd tp (p + n))) (h : rfS I fd tp p op ss) (gA : 0 < n → ¬ dgP (chB fd tp (p + n)) → ∀ I', rfS I' fd tp (p + n) op (ss ++ [nvN fd tp p n]) → rfF I I' → f I' L) (gB : n = 0 ∨ dgP (chB fd tp (p + n)) → ∀ I', rfB I' fd tp (p + n) (ss.length + 1) → rfF I I' → f I' L) : bt_WP P (d + 3) mi_M_figure [vr 35 0] (I, L) (kV f) :=
  ru_M_figure (sm_figL hl hn h1 h2 n 0 I (by omega) h gA gB)
end NUM
