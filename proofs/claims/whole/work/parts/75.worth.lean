/-! THE LAW: what the lines are worth; the class works it out -/
abbrev Ln : Type := Option (List Nat) × List Nat
def lnK (l : Ln) : List Int32 := (match l.1 with | some t => t.map cC ++ [-63] | none => []) ++ l.2.map cC
def lnC (l : Ln) : List Int32 := lnK l ++ [-59]
def lnT (l : Ln) : List Nat := (match l.1 with | some t => t | none => []) ++ l.2
def cdA : List Ln → List Int32
  | [] => []
  | l :: r => lnC l ++ cdA r
def tkA : List Ln → List Nat
  | [] => []
  | l :: r => lnT l ++ tkA r
def wfL (l : Ln) : Prop := (∀ t, l.1 = some t → wfT t) ∧ wfT l.2
def vlE (env : Nat → Int32) (e : List Nat) : Int32 := match evS env e [] with | some (v :: _) => v | _ => 0
def gvE (env : Nat → Int32) : List Ln → Int32
  | [] => 0
  | l :: r => match l.1 with
    | none => vlE env l.2
    | some t => if vlE env t = 0 then gvE env r else vlE env l.2
def mkS (T E : Nat → Int32) : Nat → Nat → List Ln → Prop
  | _, _, [] => True
  | s, j, l :: r => T j = nI (s + ((lnT l).length - l.2.length)) ∧ E j = nI (s + (lnT l).length) ∧ mkS T E (s + (lnT l).length) (j + 1) r
def atP {α : Type} (R : Nat → α → Prop) : Nat → List α → Prop
  | _, [] => True
  | q, a :: r => R q a ∧ atP R (q + 1) r
theorem at_app {α : Type} {R : Nat → α → Prop} : ∀ (l l' : List α) (q : Nat), atP R q (l ++ l') ↔ atP R q l ∧ atP R (q + l.length) l'
  | [], l', q => ⟨fun h => ⟨trivial, h⟩, fun h => h.2⟩
  | a :: l, l', q => by
    show (R q a ∧ atP R (q + 1) (l ++ l')) ↔ ((R q a ∧ atP R (q + 1) l) ∧ atP R (q + (l.length + 1)) l')
    rw [at_app l l' (q + 1), show q + 1 + l.length = q + (l.length + 1) by omega]
    exact ⟨fun h => ⟨⟨h.1, h.2.1⟩, h.2.2⟩, fun h => ⟨h.1.1, h.1.2, h.2⟩⟩
theorem at_of {α : Type} {R : Nat → α → Prop} {z : α} : ∀ (l : List α) (q : Nat), (∀ i, i < l.length → R (q + i) (l.getD i z)) → atP R q l
  | [], q, h => trivial
  | a :: l, q, h => ⟨h 0 (Nat.zero_lt_succ _), at_of l (q + 1) (fun i hi => by
    have := h (i + 1) (Nat.succ_lt_succ hi)
    rw [show q + 1 + i = q + (i + 1) by omega]; exact this)⟩
theorem at_imp {α : Type} {R R' : Nat → α → Prop} : ∀ (l : List α) (q : Nat), (∀ i a, R i a → R' i a) → atP R q l → atP R' q l
  | [], q, h, _ => trivial
  | a :: l, q, h, g => ⟨h _ _ g.1, at_imp l (q + 1) h g.2⟩
/-- a pile -/
def piA (g : Nat → Int32) : List Int32 → Prop
  | [] => True
  | v :: r => g r.length = v ∧ piA g r
theorem pi_imp {g g' : Nat → Int32} : ∀ (st : List Int32), (∀ i, i < st.length → g' i = g i) → piA g st → piA g' st
  | [], _, _ => trivial
  | v :: r, h, p => ⟨(h r.length (Nat.lt_succ_self _)).trans p.1, pi_imp r (fun i hi => h i (Nat.lt_succ_of_lt hi)) p.2⟩
theorem ev_ext {env : Nat → Int32} : ∀ (k : List Nat) (st st' r : List Int32), evS env k st = some st' → evS env k (st ++ r) = some (st' ++ r)
  | [], st, st', r, h => by cases h; rfl
  | t :: ts, st, st', r, h => by
    have h' : (match ev1 env t st with | some s => evS env ts s | none => none) = some st' := h
    cases hc : ev1 env t st with
    | none => rw [hc] at h'; cases h'
    | some s =>
      rw [hc] at h'
      have h1 : ev1 env t (st ++ r) = some (s ++ r) := by
        unfold ev1 at hc ⊢
        split
        · rw [if_pos (by assumption)] at hc; cases hc; rfl
        · rw [if_neg (by assumption)] at hc
          split
          · rw [if_pos (by assumption)] at hc; cases hc; rfl
          · rw [if_neg (by assumption)] at hc
            split
            · rw [if_pos (by assumption)] at hc
              match st, hc with
              | a :: q, hc => cases hc; rfl
            · rw [if_neg (by assumption)] at hc
              split
              · rw [if_pos (by assumption)] at hc
                match st, hc with
                | a :: q, hc => cases hc; rfl
              · rw [if_neg (by assumption)] at hc
                match st, hc with
                | b :: a :: q, hc => cases hc; rfl
      show (match ev1 env t (st ++ r) with | some s => evS env ts s | none => none) = _
      rw [h1]
      exact ev_ext ts s st' r h'
theorem vl_e {env : Nat → Int32} {k : List Nat} (h : wfT k) (st : List Int32) : evS env k st = some (vlE env k :: st) := by
  obtain ⟨v, hv⟩ := h.2 env []
  have := ev_ext k [] [v] st hv
  unfold vlE
  rw [hv]
  exact this
theorem wf_pos {k : List Nat} (h : wfT k) : 0 < k.length := by
  match k, h with
  | [], h =>
    obtain ⟨v, hv⟩ := h.2 (fun _ => 0) []
    cases hv
  | _ :: _, _ => exact Nat.zero_lt_succ _
theorem ev1_len {env : Nat → Int32} {t : Nat} {st s : List Int32} (h : ev1 env t st = some s) : s.length ≤ st.length + 1 := by
  unfold ev1 at h
  split at h
  · cases h; exact Nat.le_refl _
  split at h
  · cases h; exact Nat.le_refl _
  split at h
  · match st, h with
    | a :: r, h => cases h; exact Nat.le_succ _
  split at h
  · match st, h with
    | a :: r, h => cases h; exact Nat.le_succ _
  · match st, h with
    | b :: a :: r, h => cases h; show r.length + 1 ≤ r.length + 1 + 1 + 1; omega
theorem nmS_lt : ∀ i, i < 6 → nmO (nmS i) = i ∧ nmS i < 128 := by decide
section WOR
variable {P : bt_PT} {d : Nat} {I : m_I} {L : m_L} {env : Nat → Int32}
theorem sv_isName {f : Int32 → m_I → m_L → Prop} {s : Nat} (hs : s < 256) (g9 : nmO s = 9 → f 0 I L) (g : nmO s < 9 → f 1 I L) : bt_WP P (d + 1) mi_La_isName [vi (nI s)] (I, L) (kI f) := by
  have e : ∀ c, c < 256 → (nI s = nI c ↔ s = c) := fun c hc => neq (by omega) (by omega)
  have e108 : nI s = 108 ↔ s = 108 := e 108 (by omega)
  have e100 : nI s = 100 ↔ s = 100 := e 100 (by omega)
  have e119 : nI s = 119 ↔ s = 119 := e 119 (by omega)
  have e112 : nI s = 112 ↔ s = 112 := e 112 (by omega)
  have e115 : nI s = 115 ↔ s = 115 := e 115 (by omega)
  have e107 : nI s = 107 ↔ s = 107 := e 107 (by omega)
  refine ru_La_isName ?_
  rw [e108, e100, e119, e112, e115, e107]
  have hl := nmO_c s
  exact ⟨fun z => ⟨o01, g (by omega)⟩, fun z1 => ⟨fun z => ⟨o01, g (by omega)⟩, fun z2 => ⟨fun z => ⟨o01, g (by omega)⟩, fun z3 => ⟨fun z => ⟨o01, g (by omega)⟩, fun z4 => ⟨fun z => ⟨o01, g (by omega)⟩, fun z5 => ⟨fun z => ⟨z01, g9 (by omega)⟩, fun z => ⟨o01, g (by omega)⟩⟩⟩⟩⟩⟩⟩
/-- the class's pile -/
def cPi (I : m_I) (st : List Int32) : Prop := I 7 0 8 = nI st.length ∧ piA (fun i => I 11 0 i) st
def cFr (I I' : m_I) : Prop := ∀ a b c, ¬ (a = 11 ∨ (a = 7 ∧ c = 8)) → I' a b c = I a b c
theorem cFr_tr {I I' I'' : m_I} (h : cFr I I') (h' : cFr I' I'') : cFr I I'' := fun a b c z => (h' a b c z).trans (h a b c z)
theorem sv_push {f : m_I → m_L → Prop} {st : List Int32} {v : Int32} (h : cPi I st) (hl : st.length < 128) (g : ∀ I', cPi I' (v :: st) → cFr I I' → f I' L) : bt_WP P (d + 1) mi_La_push [vr 7 0, vi v] (I, L) (kV f) := by
  obtain ⟨h1, h2⟩ := h
  refine ru_La_push ?_
  rw [h1]
  refine ⟨fun z => absurd z (n_neg (by omega)), fun _ => ⟨fun z => absurd ((nle (a := 128) (by omega) (by omega)).mp z) (by omega), fun _ => ⟨ti_in hl (by omega), ?_⟩⟩⟩
  rw [ti_tn (by omega), ui_k (by decide), h1, nI_s]
  refine g _ ⟨ui_same _ _ _ _ _, ?_, pi_imp st (fun i hi => ?_) h2⟩ (fun a b c z => ?_)
  · show ui (ui I 11 0 st.length v) 7 0 8 _ 11 0 st.length = v
    rw [ui_k (by decide), ui_same]
  · show ui (ui I 11 0 st.length v) 7 0 8 _ 11 0 i = I 11 0 i
    rw [ui_k (by decide), ui_j (by omega)]
  · have e1 : ∀ (J : m_I) (w : Int32), ui J 7 0 8 w a b c = J a b c := fun J w => by
      by_cases q : a = 7
      · exact ui_j (fun e => z (Or.inr ⟨q, e⟩))
      · exact ui_k q
    rw [e1, ui_k (fun e => z (Or.inl e))]
theorem sv_pop {f : Int32 → m_I → m_L → Prop} {st : List Int32} {v : Int32} (h : cPi I (v :: st)) (hl : st.length < 128) (g : ∀ I', cPi I' st → cFr I I' → f v I' L) : bt_WP P (d + 1) mi_La_pop [vr 7 0] (I, L) (kI f) := by
  obtain ⟨h1, h2, h3⟩ := h
  have h1 : I 7 0 8 = nI (st.length + 1) := h1
  refine ru_La_pop ?_
  rw [ui_same, h1, nI_pred]
  refine ⟨fun z => absurd ((nle (b := 0) (by omega) (by omega)).mp z) (by omega), fun _ => ⟨fun _ => ⟨ti_in hl (by omega), ?_⟩, fun z => absurd ((nle (b := 128) (by omega) (by omega)).mpr (by omega)) z⟩⟩
  have h2 : I 11 0 st.length = v := h2
  rw [ti_tn (by omega), ui_k (by decide), h2]
  refine g _ ⟨ui_same _ _ _ _ _, pi_imp st (fun i hi => ?_) h3⟩ (fun a b c z => ?_)
  · show ui I 7 0 8 _ 11 0 i = I 11 0 i
    rw [ui_k (by decide)]
  · by_cases q : a = 7
    · exact ui_j (fun e => z (Or.inr ⟨q, e⟩))
    · exact ui_k q
theorem sv_joined {f : Int32 → m_I → m_L → Prop} {s : Nat} {a b : Int32} (hs : lvO s < 9) (g : f (tw s a b) I L) : bt_WP P (d + 1) mi_La_joined [vi (nI s), vi a, vi b] (I, L) (kI f) := by
  have hc := lvO_e s
  have hc' : s = 124 ∨ s = 38 ∨ s = 60 ∨ s = 61 ∨ s = 62 ∨ s = 43 ∨ s = 45 ∨ s = 42 ∨ s = 47 ∨ s = 37 := by omega
  have hn : ∀ x y : Nat, x < 200 → y < 200 → ¬ x = y → ¬ nI x = nI y := fun x y hx hy h z => h ((neq (by omega) (by omega)).mp z)
  refine ru_La_joined ?_
  rcases hc' with rfl | rfl | rfl | rfl | rfl | rfl | rfl | rfl | rfl | rfl
  · repeat refine ⟨fun z => absurd z (by decide), fun _ => ?_⟩
    refine ⟨fun _ => ⟨fun z => ?_, fun z => ⟨fun z2 => ?_, fun z2 => ?_⟩⟩, (fun z => absurd rfl z)⟩
    · unfold tw at g; rw [if_pos rfl, if_neg z] at g; exact g
    · unfold tw at g; rw [if_pos rfl, if_pos z, if_pos z2] at g; exact g
    · unfold tw at g; rw [if_pos rfl, if_pos z, if_neg z2] at g; exact g
  · refine ⟨fun _ => ⟨fun z => ?_, fun z => ⟨fun z2 => ?_, fun z2 => ?_⟩⟩, (fun z => absurd rfl z)⟩
    · unfold tw at g; rw [if_neg (by omega), if_pos rfl, if_pos z] at g; exact g
    · unfold tw at g; rw [if_neg (by omega), if_pos rfl, if_neg z, if_pos z2] at g; exact g
    · unfold tw at g; rw [if_neg (by omega), if_pos rfl, if_neg z, if_neg z2] at g; exact g
  · repeat refine ⟨fun z => absurd z (by decide), fun _ => ?_⟩
    refine ⟨fun _ => ⟨fun z => ?_, fun z => ?_⟩, (fun z => absurd rfl z)⟩
    · have g' : f (if b ≤ a then 0 else 1) I L := g
      rw [if_pos z] at g'; exact g'
    · have g' : f (if b ≤ a then 0 else 1) I L := g
      rw [if_neg z] at g'; exact g'
  · repeat refine ⟨fun z => absurd z (by decide), fun _ => ?_⟩
    refine ⟨fun _ => ⟨fun z => ?_, fun z => ?_⟩, (fun z => absurd rfl z)⟩
    · have g' : f (if a = b then 1 else 0) I L := g
      rw [if_neg z] at g'; exact g'
    · have g' : f (if a = b then 1 else 0) I L := g
      rw [if_pos z] at g'; exact g'
  · repeat refine ⟨fun z => absurd z (by decide), fun _ => ?_⟩
    refine ⟨fun _ => ⟨fun z => ?_, fun z => ?_⟩, (fun z => absurd rfl z)⟩
    · have g' : f (if a ≤ b then 0 else 1) I L := g
      rw [if_pos z] at g'; exact g'
    · have g' : f (if a ≤ b then 0 else 1) I L := g
      rw [if_neg z] at g'; exact g'
  · repeat refine ⟨fun z => absurd z (by decide), fun _ => ?_⟩
    exact ⟨fun _ => g, (fun z => absurd rfl z)⟩
  · repeat refine ⟨fun z => absurd z (by decide), fun _ => ?_⟩
    exact ⟨fun _ => g, (fun z => absurd rfl z)⟩
  · repeat refine ⟨fun z => absurd z (by decide), fun _ => ?_⟩
    exact ⟨fun _ => g, (fun z => absurd rfl z)⟩
  · repeat refine ⟨fun z => absurd z (by decide), fun _ => ?_⟩
    have g' : f (if b = 0 then 0 else a / b) I L := g
    refine ⟨fun _ => ⟨fun z => ⟨z, ?_⟩, fun z => ?_⟩, (fun z => absurd rfl z)⟩
    · rw [if_neg z] at g'; exact g'
    · rw [if_pos z] at g'; exact g'
  · repeat refine ⟨fun z => absurd z (by decide), fun _ => ?_⟩
    have g' : f (if b = 0 then 0 else a - a / b * b) I L := g
    refine ⟨fun z => ⟨z, ?_⟩, fun z => ?_⟩
    · rw [if_neg z] at g'; exact g'
    · rw [if_pos z] at g'; exact g'
/-- what the names stand for -/
def cEn (env : Nat → Int32) (I : m_I) : Prop := I 7 0 9 = env 0 ∧ I 7 0 10 = env 1 ∧ I 7 0 11 = env 2 ∧ I 7 0 12 = env 3 ∧ I 7 0 13 = env 4 ∧ I 7 0 14 = env 5
theorem cEn_F {I I' : m_I} (h : cEn env I) (q : cFr I I') : cEn env I' := by
  obtain ⟨h1, h2, h3, h4, h5, h6⟩ := h
  exact ⟨by rw [q 7 0 9 (by omega)]; exact h1, by rw [q 7 0 10 (by omega)]; exact h2, by rw [q 7 0 11 (by omega)]; exact h3, by rw [q 7 0 12 (by omega)]; exact h4, by rw [q 7 0 13 (by omega)]; exact h5, by rw [q 7 0 14 (by omega)]; exact h6⟩
theorem sv_named {f : Int32 → m_I → m_L → Prop} {i : Nat} (h : cEn env I) (hi : i < 6) (g : f (env i) I L) : bt_WP P (d + 1) mi_La_named [vr 7 0, vi (nI (nmS i))] (I, L) (kI f) := by
  obtain ⟨h1, h2, h3, h4, h5, h6⟩ := h
  refine ru_La_named ?_
  rw [h1, h2, h3, h4, h5, h6]
  match i, hi with
  | 0, _ =>
    repeat refine ⟨fun z => absurd z (by decide), fun _ => ?_⟩
    exact ⟨fun _ => g, (fun z => absurd rfl z)⟩
  | 1, _ => exact ⟨fun _ => g, (fun z => absurd rfl z)⟩
  | 2, _ =>
    repeat refine ⟨fun z => absurd z (by decide), fun _ => ?_⟩
    exact ⟨fun _ => g, (fun z => absurd rfl z)⟩
  | 3, _ =>
    repeat refine ⟨fun z => absurd z (by decide), fun _ => ?_⟩
    exact ⟨fun _ => g, (fun z => absurd rfl z)⟩
  | 4, _ =>
    repeat refine ⟨fun z => absurd z (by decide), fun _ => ?_⟩
    exact ⟨fun _ => g, (fun z => absurd rfl z)⟩
  | 5, _ =>
    repeat refine ⟨fun z => absurd z (by decide), fun _ => ?_⟩
    exact g
theorem n_ng : ∀ s, s < 128 → 0 < s → -nI s < 0 := by decide +kernel
theorem sv_tok {f : m_I → m_L → Prop} {st st' : List Int32} {t : Nat} (h : cPi I st) (he : cEn env I) (ht : okT t) (hl : st.length < 128) (hv : ev1 env t st = some st') (g : ∀ I', cPi I' st' → cFr I I' → f I' L) : bt_WP P (d + 2) mi_La_valueBy [vr 7 0, vi (cC t)] (I, L) (kI fun x I1 N2 => bt_WP P (d + 2) mi_La_push [vr 7 0, vi x] (I1, N2) (kV f)) := by
  unfold ev1 at hv
  refine ru_La_valueBy ?_
  by_cases c1 : t < 10000
  · rw [if_pos c1] at hv; cases hv
    rw [cC_num c1]
    exact ⟨fun z => absurd z (n_neg (by omega)), fun _ => sv_push h hl g⟩
  rw [if_neg c1] at hv
  by_cases c2 : t < 10006
  · rw [if_pos c2] at hv; cases hv
    have hi : t - 10000 < 6 := by omega
    obtain ⟨n1, n2⟩ := nmS_lt _ hi
    have n0 : 0 < nmS (t - 10000) := by
      rcases Nat.eq_zero_or_pos (nmS (t - 10000)) with q | q
      · rw [q] at n1; have : nmO 0 = 9 := rfl; omega
      · exact q
    have ec : cC t = -nI (nmS (t - 10000)) := by unfold cC; rw [if_neg c1, if_pos c2]
    rw [ec, Int32.neg_neg]
    refine ⟨fun _ => sv_isName (by omega) (fun z => by omega) (fun _ => ⟨(fun z => absurd z (by decide)), fun _ => sv_named he hi (sv_push h hl g)⟩), fun z => absurd (n_ng _ n2 n0) z⟩
  rw [if_neg c2] at hv
  by_cases c3 : t = 10006
  · subst c3
    match st, hv, h with
    | a :: r, hv, h =>
      rw [if_pos rfl] at hv
      cases hv
      have hl : r.length + 1 < 128 := hl
      refine ⟨fun _ => sv_isName (s := 33) (by omega) (fun _ => ⟨fun _ => sv_pop h (by omega) (fun I' a1 a2 => ⟨fun _ => ⟨fun z => absurd (by decide) z, fun _ => ⟨fun q => ?_, fun q => ?_⟩⟩, (fun z => absurd z (by decide))⟩), (fun z => absurd rfl z)⟩) (fun z => absurd z (by decide)), fun z => absurd (by decide) z⟩
      · rw [if_neg q] at g
        exact sv_push a1 (by omega) (fun I2 b1 b2 => g I2 b1 (cFr_tr a2 b2))
      · rw [if_pos q] at g
        exact sv_push a1 (by omega) (fun I2 b1 b2 => g I2 b1 (cFr_tr a2 b2))
  rw [if_neg c3] at hv
  by_cases c4 : t = 10007
  · subst c4
    match st, hv, h with
    | a :: r, hv, h =>
      rw [if_pos rfl] at hv
      cases hv
      have hl : r.length + 1 < 128 := hl
      exact ⟨fun _ => sv_isName (s := 126) (by omega) (fun _ => ⟨fun _ => sv_pop h (by omega) (fun I' a1 a2 => ⟨fun z => absurd (by decide) z, fun _ => sv_push a1 (by omega) (fun I2 b1 b2 => g I2 b1 (cFr_tr a2 b2))⟩), (fun z => absurd rfl z)⟩) (fun z => absurd z (by decide)), fun z => absurd (by decide) z⟩
  rw [if_neg c4] at hv
  have ht := ht.resolve_left (by omega)
  have ec : cC t = -nI (t - 10100) := by unfold cC; rw [if_neg c1, if_neg c2, if_neg c3, if_neg c4]
  generalize hse : t - 10100 = s at *
  have hs := lvO_lt ht.2
  have hlv := lvO_e s
  have hnm := nmO_c s
  match st, hv, h with
  | b :: a :: r, hv, h =>
    cases hv
    have hl : r.length + 1 + 1 < 128 := hl
    have n126 : ¬ nI s = 126 := fun z => absurd ((neq (b := 126) (by omega) (by omega)).mp z) (by omega)
    have n33 : ¬ nI s = 33 := fun z => absurd ((neq (b := 33) (by omega) (by omega)).mp z) (by omega)
    rw [ec, Int32.neg_neg]
    exact ⟨fun _ => sv_isName (by omega) (fun _ => ⟨fun _ => sv_pop h (by show r.length + 1 < 128; omega) (fun I' a1 a2 => ⟨fun _ => ⟨fun _ => sv_pop a1 (by omega) (fun I2 b1 b2 => sv_joined ht.2 (sv_push b1 (by omega) (fun I3 c1 c2 => g I3 c1 (cFr_tr a2 (cFr_tr b2 c2))))), fun z => absurd z n33⟩, fun z => absurd z n126⟩), (fun z => absurd rfl z)⟩) (fun z => by omega), fun z => absurd (n_ng s hs (by omega)) z⟩
/-- the codes that are no END and no ASK -/
theorem cC_pl {t : Nat} (ht : okT t) : ¬ -(cC t) = 59 ∧ ¬ -(cC t) = 63 := by
  unfold cC
  by_cases c1 : t < 10000
  · rw [if_pos c1]
    exact ⟨fun z => absurd (show nI t < 0 from by rw [show nI t = -59 from Int32.neg_neg.symm.trans (congrArg (fun x : Int32 => -x) z)]; decide) (n_neg (by omega)), fun z => absurd (show nI t < 0 from by rw [show nI t = -63 from Int32.neg_neg.symm.trans (congrArg (fun x : Int32 => -x) z)]; decide) (n_neg (by omega))⟩
  rw [if_neg c1]
  by_cases c2 : t < 10006
  · rw [if_pos c2, Int32.neg_neg]
    have hi : t - 10000 < 6 := by omega
    have : ∀ i, i < 6 → ¬ nI (nmS i) = 59 ∧ ¬ nI (nmS i) = 63 := by decide +kernel
    exact this _ hi
  rw [if_neg c2]
  by_cases c3 : t = 10006
  · rw [if_pos c3]; decide
  rw [if_neg c3]
  by_cases c4 : t = 10007
  · rw [if_pos c4]; decide
  rw [if_neg c4, Int32.neg_neg]
  have ht := ht.resolve_left (by omega)
  have hs := lvO_lt ht.2
  have hlv := lvO_e (t - 10100)
  exact ⟨fun z => absurd ((neq (b := 59) (by omega) (by omega)).mp z) (by omega), fun z => absurd ((neq (b := 63) (by omega) (by omega)).mp z) (by omega)⟩
/-- the class's codes from q on -/
def cAt (I : m_I) (q : Nat) (cs : List Int32) : Prop := atP (fun i c => I 10 0 i = c) q cs
theorem cAt_F {I I' : m_I} {q : Nat} {cs : List Int32} (h : cAt I q cs) (g : cFr I I') : cAt I' q cs := at_imp cs q (fun i a e => (g 10 0 i (by omega)).trans e) h
def wGo (P : bt_PT) (d v q : Nat) (f : Int32 → m_I → m_L → Prop) (I : m_I) (L : m_L) : Prop := bt_Go P (d + 2) mi_La_workOut (kI f) 9 [some (vr 7 0), some (vi (nI v)), some (vi (nI q)), none] [] (I, L)
theorem wk_st {f : Int32 → m_I → m_L → Prop} {q n v : Nat} (hn : I 7 0 7 = nI n) (hn8 : n ≤ 128) (hq : q < n) (g0 : v = 0 → (-(I 10 0 q) = 59 → bt_WP P (d + 2) mi_La_pop [vr 7 0] (I, L) (kI f)) ∧ (-(I 10 0 q) = 63 → bt_WP P (d + 2) mi_La_pop [vr 7 0] (I, L) (kI fun x I1 L1 => (¬ x = 0 → wGo P d 0 (q + 1) f I1 L1) ∧ (x = 0 → wGo P d 1 (q + 1) f I1 L1))) ∧ (¬ -(I 10 0 q) = 59 → ¬ -(I 10 0 q) = 63 → bt_WP P (d + 2) mi_La_valueBy [vr 7 0, vi (I 10 0 q)] (I, L) (kI fun x I1 N2 => bt_WP P (d + 2) mi_La_push [vr 7 0, vi x] (I1, N2) (kV fun I2 N3 => wGo P d 0 (q + 1) f I2 N3)))) (g1 : v = 1 → (-(I 10 0 q) = 59 → wGo P d 0 (q + 1) f I L) ∧ (¬ -(I 10 0 q) = 59 → wGo P d 1 (q + 1) f I L)) (hv : v = 0 ∨ v = 1) : wGo P d v q f I L := by
  unfold wGo at *
  refine ru_La_workOut_9 ?_
  rw [hn, ti_tn (by omega), nI_s]
  refine ⟨fun z => absurd ((nle (by omega) (by omega)).mp z) (by omega), fun _ => ⟨fun z => absurd ((nle (a := 128) (by omega) (by omega)).mp z) (by omega), fun _ => ⟨ti_in (by omega) (by omega), ?_⟩⟩⟩
  rcases hv with rfl | rfl
  · obtain ⟨a1, a2, a3⟩ := g0 rfl
    exact ⟨fun _ => ⟨fun z => ⟨fun z2 => ⟨ti_in (by omega) (by omega), a3 z z2⟩, fun z2 => a2 z2⟩, fun z => a1 z⟩, fun z => absurd rfl z⟩
  · obtain ⟨a1, a2⟩ := g1 rfl
    exact ⟨(fun z => absurd z (by decide)), fun _ => ⟨a1, a2⟩⟩
theorem wk_toks {f : Int32 → m_I → m_L → Prop} {n : Nat} (hn8 : n ≤ 128) : ∀ (k : List Nat) (st st' : List Int32) (q : Nat) (I : m_I), (∀ t, t ∈ k → okT t) → cPi I st → cEn env I → st.length ≤ q → I 7 0 7 = nI n → q + k.length ≤ n → cAt I q (k.map cC) → evS env k st = some st' → (∀ I', cPi I' st' → cFr I I' → wGo P d 0 (q + k.length) f I' L) → wGo P d 0 q f I L
  | [], st, st', q, I, hk, h, he, hl, hn, hq, hc, hv, g => by
    cases hv
    exact g I h (fun _ _ _ _ => rfl)
  | t :: ts, st, st', q, I, hk, h, he, hl, hn, hq, hc, hv, g => by
    have hv' : (match ev1 env t st with | some s => evS env ts s | none => none) = some st' := hv
    have ht := hk t List.mem_cons_self
    have hq : q + (ts.length + 1) ≤ n := hq
    cases h1 : ev1 env t st with
    | none => rw [h1] at hv'; cases hv'
    | some s =>
      rw [h1] at hv'
      have e : I 10 0 q = cC t := hc.1
      obtain ⟨p1, p2⟩ := cC_pl ht
      have hsl := ev1_len h1
      refine wk_st hn hn8 (by omega) (fun _ => ⟨fun z => absurd (by rw [← e]; exact z) p1, fun z => absurd (by rw [← e]; exact z) p2, fun _ _ => ?_⟩) (fun z => by omega) (Or.inl rfl)
      rw [e]
      refine sv_tok h he ht (by omega) h1 (fun I' a1 a2 => wk_toks hn8 ts s st' (q + 1) I' (fun u hu => hk u (List.mem_cons_of_mem _ hu)) a1 (cEn_F he a2) (by omega) (by rw [a2 7 0 7 (by omega)]; exact hn) (by omega) (cAt_F hc.2 a2) hv' (fun I2 b1 b2 => ?_))
      have := g I2 b1 (cFr_tr a2 b2)
      rw [show q + 1 + ts.length = q + (t :: ts).length by rw [List.length_cons]; omega]
      exact this
theorem wk_skip {f : Int32 → m_I → m_L → Prop} {n : Nat} (hn8 : n ≤ 128) : ∀ (k : List Nat) (q : Nat) (I : m_I), (∀ t, t ∈ k → okT t) → I 7 0 7 = nI n → q + k.length ≤ n → cAt I q (k.map cC) → wGo P d 1 (q + k.length) f I L → wGo P d 1 q f I L
  | [], q, I, hk, hn, hq, hc, g => g
  | t :: ts, q, I, hk, hn, hq, hc, g => by
    have hq : q + (ts.length + 1) ≤ n := hq
    have e : I 10 0 q = cC t := hc.1
    obtain ⟨p1, p2⟩ := cC_pl (hk t List.mem_cons_self)
    refine wk_st hn hn8 (by omega) (fun z => by omega) (fun _ => ⟨fun z => absurd (by rw [← e]; exact z) p1, fun _ => ?_⟩) (Or.inr rfl)
    refine wk_skip hn8 ts (q + 1) I (fun u hu => hk u (List.mem_cons_of_mem _ hu)) hn (by omega) hc.2 ?_
    rw [show q + 1 + ts.length = q + (t :: ts).length by rw [List.length_cons]; omega]
    exact g
theorem wk_end {f : Int32 → m_I → m_L → Prop} {n q : Nat} {v : Int32} (hn : I 7 0 7 = nI n) (hn8 : n ≤ 128) (hq : q < n) (hc : I 10 0 q = -59) (h : cPi I [v]) (g : ∀ I', cPi I' [] → cFr I I' → f v I' L) : wGo P d 0 q f I L := by
  refine wk_st hn hn8 hq (fun _ => ⟨fun _ => sv_pop h (by show 0 < 128; omega) g, fun z => absurd z (by rw [hc]; decide), fun z => absurd (by rw [hc]; decide) z⟩) (fun z => by omega) (Or.inl rfl)
theorem wk_lines {f : Int32 → m_I → m_L → Prop} {n : Nat} (hn8 : n ≤ 128) : ∀ (ls : List Ln) (q : Nat) (I : m_I), (∀ l, l ∈ ls → wfL l) → cPi I [] → cEn env I → I 7 0 7 = nI n → q + (cdA ls).length = n → cAt I q (cdA ls) → (∀ I', cFr I I' → f (gvE env ls) I' L) → wGo P d 0 q f I L
  | [], q, I, hw, h, he, hn, hq, hc, g => by
    have hq : q + 0 = n := hq
    unfold wGo
    refine ru_La_workOut_9 ⟨fun _ => g I (fun _ _ _ _ => rfl), fun z => absurd ?_ z⟩
    rw [hn]; exact (nle (by omega) (by omega)).mpr (by omega)
  | (none, e) :: r, q, I, hw, h, he, hn, hq, hc, g => by
    have hwl := (hw _ List.mem_cons_self).2
    have hc : cAt I q (((([] : List Int32) ++ e.map cC) ++ [-59]) ++ cdA r) := hc
    have hq : q + (((([] : List Int32) ++ e.map cC) ++ [-59]) ++ cdA r).length = n := hq
    rw [List.nil_append] at hc hq
    have hc1 := (at_app _ _ _).mp hc
    have hc2 := (at_app _ _ _).mp hc1.1
    have hc3 : I 10 0 (q + (e.map cC).length) = -59 := hc2.2.1
    rw [List.length_map] at hc3
    rw [List.length_append, List.length_append, List.length_map] at hq
    have hq : q + (e.length + 1 + (cdA r).length) = n := hq
    refine wk_toks hn8 e [] [vlE env e] q I hwl.1 h he (Nat.zero_le _) hn (by omega) hc2.1 (vl_e hwl []) (fun I' a1 a2 => ?_)
    exact wk_end (v := vlE env e) (by rw [a2 7 0 7 (by omega)]; exact hn) hn8 (by omega) (by rw [a2 10 0 _ (by omega)]; exact hc3) a1 (fun I2 b1 b2 => g I2 (cFr_tr a2 b2))
  | (some t, e) :: r, q, I, hw, h, he, hn, hq, hc, g => by
    have hwe := (hw _ List.mem_cons_self).2
    have hwt := (hw _ List.mem_cons_self).1 t rfl
    have hc : cAt I q ((((t.map cC ++ [-63]) ++ e.map cC) ++ [-59]) ++ cdA r) := hc
    have hq : q + ((((t.map cC ++ [-63]) ++ e.map cC) ++ [-59]) ++ cdA r).length = n := hq
    have hc1 := (at_app _ _ _).mp hc
    have hc2 := (at_app _ _ _).mp hc1.1
    have hc3 := (at_app _ _ _).mp hc2.1
    have hc4 := (at_app _ _ _).mp hc3.1
    simp only [List.length_append, List.length_map, List.length_cons, List.length_nil] at hc1 hc2 hc3 hc4 hq
    have h63 : I 10 0 (q + t.length) = -63 := hc4.2.1
    have h59 : I 10 0 (q + (t.length + (0 + 1) + e.length)) = -59 := hc2.2.1
    refine wk_toks hn8 t [] [vlE env t] q I hwt.1 h he (Nat.zero_le _) hn (by omega) hc4.1 (vl_e hwt []) (fun I' a1 a2 => ?_)
    have n7 : I' 7 0 7 = nI n := by rw [a2 7 0 7 (by omega)]; exact hn
    have e63 : I' 10 0 (q + t.length) = -63 := by rw [a2 10 0 _ (by omega)]; exact h63
    have hg : gvE env ((some t, e) :: r) = if vlE env t = 0 then gvE env r else vlE env e := rfl
    rw [hg] at g
    refine wk_st n7 hn8 (by omega) (fun _ => ⟨fun z => absurd z (by rw [e63]; decide), fun _ => sv_pop a1 (by show 0 < 128; omega) (fun I2 b1 b2 => ⟨fun z => ?_, fun z => ?_⟩), fun _ z => absurd (by rw [e63]; decide) z⟩) (fun z => by omega) (Or.inl rfl)
    · have q2 := cFr_tr a2 b2
      rw [if_neg z] at g
      refine wk_toks hn8 e [] [vlE env e] (q + t.length + 1) I2 hwe.1 b1 (cEn_F he q2) (Nat.zero_le _) (by rw [q2 7 0 7 (by omega)]; exact hn) (by omega) ?_ (vl_e hwe []) (fun I3 c1 c2 => ?_)
      · exact cAt_F hc3.2 q2
      · have q3 := cFr_tr q2 c2
        refine wk_end (v := vlE env e) (by rw [q3 7 0 7 (by omega)]; exact hn) hn8 (by omega) ?_ c1 (fun I4 e1 e2 => g I4 (cFr_tr q3 e2))
        rw [q3 10 0 _ (by omega), show q + t.length + 1 + e.length = q + (t.length + (0 + 1) + e.length) by omega]; exact h59
    · have q2 := cFr_tr a2 b2
      have n72 : I2 7 0 7 = nI n := by rw [q2 7 0 7 (by omega)]; exact hn
      rw [if_pos z] at g
      refine wk_skip hn8 e (q + t.length + 1) I2 hwe.1 n72 (by omega) (cAt_F hc3.2 q2) ?_
      have e59 : I2 10 0 (q + t.length + 1 + e.length) = -59 := by
        rw [q2 10 0 _ (by omega), show q + t.length + 1 + e.length = q + (t.length + (0 + 1) + e.length) by omega]; exact h59
      refine wk_st n72 hn8 (by omega) (fun z => by omega) (fun _ => ⟨fun _ => ?_, fun z => absurd (by rw [e59]; decide) z⟩) (Or.inr rfl)
      refine wk_lines hn8 r (q + t.length + 1 + e.length + 1) I2 (fun l hl => hw l (List.mem_cons_of_mem _ hl)) b1 (cEn_F he q2) n72 (by omega) ?_ (fun I' e1 => g I' (cFr_tr q2 e1))
      have := cAt_F hc1.2 q2
      rw [show q + (t.length + (0 + 1) + e.length + (0 + 1)) = q + t.length + 1 + e.length + 1 by omega] at this
      exact this
end WOR
