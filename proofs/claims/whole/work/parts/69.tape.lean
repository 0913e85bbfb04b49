/-! THE LAW: tokens, the tape, both sides' small steps -/
/-- the sign's level; 9: none -/
def lvO (s : Nat) : Nat := if s = 124 then 0 else if s = 38 then 1 else if s = 60 ∨ s = 61 ∨ s = 62 then 2 else if s = 43 ∨ s = 45 then 3 else if s = 42 ∨ s = 47 ∨ s = 37 then 4 else 9
/-- a name's place; 9: none -/
def nmO (s : Nat) : Nat := if s = 108 then 0 else if s = 100 then 1 else if s = 119 then 2 else if s = 112 then 3 else if s = 115 then 4 else if s = 107 then 5 else 9
def nmS (i : Nat) : Nat := if i = 0 then 108 else if i = 1 then 100 else if i = 2 then 119 else if i = 3 then 112 else if i = 4 then 115 else 107
/-- tokens: numbers below 10000, names 10000 .., '!' 10006, minus 10007, a sign between two 10100 + s -/
def okT (t : Nat) : Prop := t < 10008 ∨ (10100 ≤ t ∧ lvO (t - 10100) < 9)
def cC (t : Nat) : Int32 := if t < 10000 then nI t else if t < 10006 then -nI (nmS (t - 10000)) else if t = 10006 then -33 else if t = 10007 then -126 else -nI (t - 10100)
def aC (t : Nat) : Int32 := if t < 10000 then 1 else if t < 10006 then 2 else if t = 10006 then 3 else if t = 10007 then 4 else nI (t - 10100)
def wC (t : Nat) : Int32 := if t < 10000 then nI t else if t < 10006 then nI (t - 10000) else 0
theorem lvO_lt {s : Nat} (h : lvO s < 9) : s < 128 := by
  unfold lvO at h
  repeat' split at h
  all_goals omega
theorem nmO_e {s : Nat} (h : nmO s < 9) : nmS (nmO s) = s ∧ nmO s < 6 := by
  unfold nmO at h ⊢
  repeat' split at h
  all_goals (first | (subst_vars; exact ⟨rfl, by decide⟩) | omega)
/-- what stands at a place; 256: nothing -/
def chB (fd : Nat) (tp : Nat → Nat) (p : Nat) : Nat := if p < fd then tp p else 256
def cBy (fd : Nat) (tp : Nat → Nat) (p : Nat) : Int32 := if p < fd then nI (tp p) else -1
def mBy (fd : Nat) (tp : Nat → Nat) (p : Nat) : Int32 := if p < fd then (nI (tp p)).toInt8.toInt32 else -1
theorem gd_l {α : Type} {l' : List α} {z : α} : ∀ (l : List α) (i : Nat), i < l.length → (l ++ l').getD i z = l.getD i z
  | [], i, h => absurd h (Nat.not_lt_zero _)
  | _ :: _, 0, _ => rfl
  | _ :: l, i + 1, h => gd_l l i (Nat.lt_of_succ_lt_succ h)
theorem gd_r {α : Type} {l' : List α} {a z : α} : ∀ (l : List α), (l ++ a :: l').getD l.length z = a
  | [] => rfl
  | _ :: l => gd_r l
theorem i8_lo : ∀ b, b < 128 → (nI b).toInt8.toInt32 = nI b := by decide +kernel
theorem i8_hi : ∀ b, b < 256 → ¬ b < 128 → (nI b).toInt8.toInt32 < 0 := by decide +kernel
theorem i16_lo : ∀ b, b < 200 → (nI b).toInt16.toInt32 = nI b := by decide +kernel
section TAP
variable {fd p : Nat} {tp : Nat → Nat}
theorem ch_256 (h : ∀ j, j < fd → tp j < 256) : chB fd tp p ≤ 256 := by
  unfold chB; split
  · have := h p (by assumption); omega
  · omega
theorem ch_lt {c : Nat} (h : chB fd tp p = c) (hc : c < 256) : p < fd := by
  unfold chB at h; split at h
  · assumption
  · omega
theorem cB_eq (h : ∀ j, j < fd → tp j < 256) {c : Nat} (hc : c < 256) : cBy fd tp p = nI c ↔ chB fd tp p = c := by
  unfold cBy chB
  by_cases q : p < fd
  · have := h p q
    rw [if_pos q, if_pos q, neq (by omega) (by omega)]
  · rw [if_neg q, if_neg q]
    exact ⟨fun z => absurd (show nI c < 0 from by rw [← z]; decide) (n_neg (by omega)), fun z => by omega⟩
theorem mB_eq (h : ∀ j, j < fd → tp j < 256) {c : Nat} (hc : c < 128) : mBy fd tp p = nI c ↔ chB fd tp p = c := by
  unfold mBy chB
  by_cases q : p < fd
  · have hq := h p q
    rw [if_pos q, if_pos q]
    by_cases q2 : tp p < 128
    · rw [i8_lo _ q2, neq (by omega) (by omega)]
    · exact ⟨fun z => absurd (show nI c < 0 from by rw [← z]; exact i8_hi _ hq q2) (n_neg (by omega)), fun z => by omega⟩
  · rw [if_neg q, if_neg q]
    exact ⟨fun z => absurd (show nI c < 0 from by rw [← z]; decide) (n_neg (by omega)), fun z => by omega⟩
theorem cB_m1 (h : ∀ j, j < fd → tp j < 256) : cBy fd tp p = -1 ↔ ¬ p < fd := by
  unfold cBy
  by_cases q : p < fd
  · have := h p q
    rw [if_pos q]
    exact ⟨fun z => absurd (show nI (tp p) < 0 from by rw [z]; decide) (n_neg (by omega)), fun z => absurd q z⟩
  · rw [if_neg q]; exact ⟨fun _ => q, fun _ => rfl⟩
def dgP (c : Nat) : Prop := 48 ≤ c ∧ c ≤ 57
theorem cB_dg (h : ∀ j, j < fd → tp j < 256) : (¬ cBy fd tp p < 48 ∧ ¬ 57 < cBy fd tp p) ↔ dgP (chB fd tp p) := by
  unfold cBy chB dgP
  by_cases q : p < fd
  · have := h p q
    rw [if_pos q, if_pos q]
    have e1 : nI (tp p) < 48 ↔ tp p < 48 := nlt (b := 48) (by omega) (by omega)
    have e2 : 57 < nI (tp p) ↔ 57 < tp p := nlt (a := 57) (by omega) (by omega)
    rw [e1, e2]; omega
  · rw [if_neg q, if_neg q]
    exact ⟨fun z => absurd (show (-1 : Int32) < 48 by decide) z.1, fun z => by omega⟩
theorem mB_dg (h : ∀ j, j < fd → tp j < 256) : ((48 : Int32) ≤ mBy fd tp p ∧ mBy fd tp p ≤ 57) ↔ dgP (chB fd tp p) := by
  unfold mBy chB dgP
  by_cases q : p < fd
  · have hq := h p q
    rw [if_pos q, if_pos q]
    by_cases q2 : tp p < 128
    · rw [i8_lo _ q2]
      have e1 : (48 : Int32) ≤ nI (tp p) ↔ 48 ≤ tp p := nle (a := 48) (by omega) (by omega)
      have e2 : nI (tp p) ≤ (57 : Int32) ↔ tp p ≤ 57 := nle (b := 57) (by omega) (by omega)
      rw [e1, e2]
    · have hn := i8_hi _ hq q2
      have i48 : (48 : Int32).toInt = 48 := rfl
      rw [ti_lt, i_0] at hn
      exact ⟨fun z => by have := z.1; rw [ti_le, i48] at this; omega, fun z => by omega⟩
  · rw [if_neg q, if_neg q]
    exact ⟨fun z => absurd z.1 (by decide), fun z => by omega⟩
theorem cB_d (h : dgP (chB fd tp p)) : cBy fd tp p = nI (chB fd tp p) := by
  unfold cBy chB dgP at *
  by_cases q : p < fd
  · rw [if_pos q, if_pos q]
  · rw [if_neg q] at h; omega
theorem mB_d (h : dgP (chB fd tp p)) : mBy fd tp p = nI (chB fd tp p) := by
  unfold mBy chB dgP at *
  by_cases q : p < fd
  · rw [if_pos q] at h
    rw [if_pos q, if_pos q, i8_lo _ (by omega)]
  · rw [if_neg q] at h; omega
end TAP
-- ---------- the class
section TPC
variable {P : bt_PT} {d : Nat} {I : m_I} {L : m_L} {fd p : Nat} {tp : Nat → Nat}
def tcP (I : m_I) (fd : Nat) (tp : Nat → Nat) (p : Nat) : Prop := fd ≤ 120 ∧ I 7 0 4 = nI fd ∧ (∀ j, j < fd → I 8 0 j = nI (tp j)) ∧ (∀ j, j < fd → tp j < 256) ∧ I 7 0 5 = nI p ∧ p ≤ fd
def tcS (I : m_I) (fd : Nat) (tp : Nat → Nat) (p : Nat) (cs : List Int32) : Prop := tcP I fd tp p ∧ I 7 0 6 = nI cs.length ∧ ∀ i, i < cs.length → I 9 0 i = cs.getD i 0
def tcB (I : m_I) (fd : Nat) (tp : Nat → Nat) (p : Nat) : Prop := tcP I fd tp p ∧ ∃ dn, dn ≤ 128 ∧ I 7 0 6 = nI dn
def tcF (I I' : m_I) : Prop := ∀ a b c, ¬ (a = 9 ∨ (a = 7 ∧ (c = 5 ∨ c = 6))) → I' a b c = I a b c
theorem tcF_rf : tcF I I := fun _ _ _ _ => rfl
theorem tcF_tr {I I' I'' : m_I} (h : tcF I I') (h' : tcF I' I'') : tcF I I'' := fun a b c z => (h' a b c z).trans (h a b c z)
theorem tcS_B {cs : List Int32} (h : tcS I fd tp p cs) (hc : cs.length ≤ 128) : tcB I fd tp p := ⟨h.1, cs.length, hc, h.2.1⟩
theorem tcP_at (h : tcP I fd tp p) (hp : p < fd) : tcP (ui I 7 0 5 (nI p + 1)) fd tp (p + 1) ∧ tcF I (ui I 7 0 5 (nI p + 1)) := by
  obtain ⟨h1, h2, h3, h4, h5, h6⟩ := h
  refine ⟨⟨h1, by rw [ui_j (by decide)]; exact h2, fun j hj => by rw [ui_k (by decide)]; exact h3 j hj, h4, by rw [ui_same, nI_s], by omega⟩, fun a b c z => ?_⟩
  by_cases q : a = 7
  · exact ui_j (fun e => z (Or.inr ⟨q, Or.inl e⟩))
  · exact ui_k q
theorem tcS_at {cs : List Int32} (h : tcS I fd tp p cs) (hp : p < fd) : tcS (ui I 7 0 5 (nI p + 1)) fd tp (p + 1) cs ∧ tcF I (ui I 7 0 5 (nI p + 1)) := by
  obtain ⟨g1, g2⟩ := tcP_at h.1 hp
  exact ⟨⟨g1, by rw [ui_j (by decide)]; exact h.2.1, fun i hi => by rw [ui_k (by decide)]; exact h.2.2 i hi⟩, g2⟩
theorem sp_next {f : Int32 → m_I → m_L → Prop} (h : tcP I fd tp p) (g : f (cBy fd tp p) I L) : bt_WP P (d + 1) mi_La_next [vr 7 0] (I, L) (kI f) := by
  obtain ⟨h1, h2, h3, h4, h5, h6⟩ := h
  unfold cBy at g
  refine ru_La_next ?_
  rw [h2, h5, nle (by omega) (by omega)]
  refine ⟨fun z => ?_, fun z => ⟨fun z2 => absurd ((nle (a := 120) (by omega) (by omega)).mp z2) (by omega), fun _ => ⟨ti_in (by omega) (by omega), ?_⟩⟩⟩
  · rw [if_neg (by omega)] at g; exact g
  · rw [if_pos (by omega)] at g
    rw [ti_tn (by omega), h3 p (by omega)]; exact g
theorem sp_note {f : m_I → m_L → Prop} {cs : List Int32} {v : Int32} (h : tcS I fd tp p cs) (hc : cs.length < 128) (g : ∀ I', tcS I' fd tp p (cs ++ [v]) → tcF I I' → f I' L) : bt_WP P (d + 1) mi_La_note [vr 7 0, vi v] (I, L) (kV f) := by
  obtain ⟨⟨h1, h2, h3, h4, h5, h6⟩, h7, h8⟩ := h
  refine ru_La_note ?_
  rw [h7]
  refine ⟨fun z => absurd ((nle (a := 128) (by omega) (by omega)).mp z) (by omega), fun _ => ⟨ti_in hc (by omega), ?_⟩⟩
  rw [ti_tn (by omega), ui_k (by decide), h7, nI_s]
  refine g _ ⟨⟨h1, by rw [ui_j (by decide), ui_k (by decide)]; exact h2, fun j hj => by rw [ui_k (by decide), ui_k (by decide)]; exact h3 j hj, h4, by rw [ui_j (by decide), ui_k (by decide)]; exact h5, h6⟩, by rw [ui_same, List.length_append]; rfl, fun i hi => ?_⟩ (fun a b c z => ?_)
  · rw [List.length_append] at hi
    have hi : i < cs.length + 1 := hi
    rw [ui_k (by decide)]
    by_cases q : i = cs.length
    · rw [q, ui_same, gd_r]
    · rw [ui_j q, gd_l _ _ (by omega)]; exact h8 i (by omega)
  · have e1 : ∀ (J : m_I) (w : Int32), ui J 7 0 6 w a b c = J a b c := fun J w => by
      by_cases q : a = 7
      · exact ui_j (fun e => z (Or.inr ⟨q, Or.inr e⟩))
      · exact ui_k q
    rw [e1, ui_k (fun e => z (Or.inl e))]
theorem sp_noteB {f : m_I → m_L → Prop} {v : Int32} (h : tcB I fd tp p) (g : ∀ I', tcB I' fd tp p → tcF I I' → f I' L) : bt_WP P (d + 1) mi_La_note [vr 7 0, vi v] (I, L) (kV f) := by
  have h0 := h
  obtain ⟨⟨h1, h2, h3, h4, h5, h6⟩, dn, h7, h8⟩ := h
  refine ru_La_note ?_
  rw [h8]
  refine ⟨fun z => g I h0 tcF_rf, fun z => ?_⟩
  have hd : ¬ 128 ≤ dn := fun y => z ((nle (a := 128) (by omega) (by omega)).mpr y)
  refine ⟨ti_in (by omega) (by omega), ?_⟩
  rw [ti_tn (by omega), ui_k (by decide), h8, nI_s]
  refine g _ ⟨⟨h1, by rw [ui_j (by decide), ui_k (by decide)]; exact h2, fun j hj => by rw [ui_k (by decide), ui_k (by decide)]; exact h3 j hj, h4, by rw [ui_j (by decide), ui_k (by decide)]; exact h5, h6⟩, dn + 1, by omega, ui_same _ _ _ _ _⟩ (fun a b c z => ?_)
  have e1 : ∀ (J : m_I) (w : Int32), ui J 7 0 6 w a b c = J a b c := fun J w => by
    by_cases q : a = 7
    · exact ui_j (fun e => z (Or.inr ⟨q, Or.inr e⟩))
    · exact ui_k q
  rw [e1, ui_k (fun e => z (Or.inl e))]
theorem lvO_e (c : Nat) : (lvO c = 0 ∧ c = 124) ∨ (lvO c = 1 ∧ c = 38) ∨ (lvO c = 2 ∧ (c = 60 ∨ c = 61 ∨ c = 62)) ∨ (lvO c = 3 ∧ (c = 43 ∨ c = 45)) ∨ (lvO c = 4 ∧ (c = 42 ∨ c = 47 ∨ c = 37)) ∨ (lvO c = 9 ∧ ¬ c = 124 ∧ ¬ c = 38 ∧ ¬ c = 60 ∧ ¬ c = 61 ∧ ¬ c = 62 ∧ ¬ c = 43 ∧ ¬ c = 45 ∧ ¬ c = 42 ∧ ¬ c = 47 ∧ ¬ c = 37) := by
  unfold lvO
  repeat' split
  all_goals omega
theorem sp_levelOf {f : Int32 → m_I → m_L → Prop} (h : tcP I fd tp p) (g9 : lvO (chB fd tp p) = 9 → f (-1) I L) (g : lvO (chB fd tp p) < 9 → f (nI (lvO (chB fd tp p))) I L) : bt_WP P (d + 1) mi_La_levelOf [vi (cBy fd tp p)] (I, L) (kI f) := by
  have ht := h.2.2.2.1
  have e : ∀ c, c < 256 → (cBy fd tp p = nI c ↔ chB fd tp p = c) := fun c hc => cB_eq ht hc
  have e37 : cBy fd tp p = 37 ↔ chB fd tp p = 37 := e 37 (by omega)
  have e38 : cBy fd tp p = 38 ↔ chB fd tp p = 38 := e 38 (by omega)
  have e42 : cBy fd tp p = 42 ↔ chB fd tp p = 42 := e 42 (by omega)
  have e43 : cBy fd tp p = 43 ↔ chB fd tp p = 43 := e 43 (by omega)
  have e45 : cBy fd tp p = 45 ↔ chB fd tp p = 45 := e 45 (by omega)
  have e47 : cBy fd tp p = 47 ↔ chB fd tp p = 47 := e 47 (by omega)
  have e60 : cBy fd tp p = 60 ↔ chB fd tp p = 60 := e 60 (by omega)
  have e61 : cBy fd tp p = 61 ↔ chB fd tp p = 61 := e 61 (by omega)
  have e62 : cBy fd tp p = 62 ↔ chB fd tp p = 62 := e 62 (by omega)
  have e124 : cBy fd tp p = 124 ↔ chB fd tp p = 124 := e 124 (by omega)
  refine ru_La_levelOf ?_
  rw [e37, e38, e42, e43, e45, e47, e60, e61, e62, e124]
  generalize chB fd tp p = c at *
  have hl := lvO_e c
  refine ⟨fun z => ?_, fun z1 => ⟨fun z => ?_, fun z2 => ⟨fun z => ?_, fun z3 => ⟨fun z => ?_, fun z4 => ⟨fun z => ?_, fun z5 => ⟨fun z => ?_, fun z6 => ⟨fun z => ?_, fun z7 => ⟨fun z => ?_, fun z8 => ⟨fun z => ?_, fun z9 => ⟨fun z => ?_, fun z10 => g9 (by omega)⟩⟩⟩⟩⟩⟩⟩⟩⟩⟩
  · have := g (by omega); rw [show lvO c = 4 by omega] at this; exact this
  · have := g (by omega); rw [show lvO c = 1 by omega] at this; exact this
  · have := g (by omega); rw [show lvO c = 4 by omega] at this; exact this
  · have := g (by omega); rw [show lvO c = 3 by omega] at this; exact this
  · have := g (by omega); rw [show lvO c = 3 by omega] at this; exact this
  · have := g (by omega); rw [show lvO c = 4 by omega] at this; exact this
  · have := g (by omega); rw [show lvO c = 2 by omega] at this; exact this
  · have := g (by omega); rw [show lvO c = 2 by omega] at this; exact this
  · have := g (by omega); rw [show lvO c = 2 by omega] at this; exact this
  · have := g (by omega); rw [show lvO c = 0 by omega] at this; exact this
theorem nmO_c (c : Nat) : (nmO c = 0 ∧ c = 108) ∨ (nmO c = 1 ∧ c = 100) ∨ (nmO c = 2 ∧ c = 119) ∨ (nmO c = 3 ∧ c = 112) ∨ (nmO c = 4 ∧ c = 115) ∨ (nmO c = 5 ∧ c = 107) ∨ (nmO c = 9 ∧ ¬ c = 108 ∧ ¬ c = 100 ∧ ¬ c = 119 ∧ ¬ c = 112 ∧ ¬ c = 115 ∧ ¬ c = 107) := by
  unfold nmO
  repeat' split
  all_goals omega
theorem sp_isName {f : Int32 → m_I → m_L → Prop} (h : tcP I fd tp p) (g9 : nmO (chB fd tp p) = 9 → f 0 I L) (g : nmO (chB fd tp p) < 9 → f 1 I L) : bt_WP P (d + 1) mi_La_isName [vi (cBy fd tp p)] (I, L) (kI f) := by
  have ht := h.2.2.2.1
  have e : ∀ c, c < 256 → (cBy fd tp p = nI c ↔ chB fd tp p = c) := fun c hc => cB_eq ht hc
  have e108 : cBy fd tp p = 108 ↔ chB fd tp p = 108 := e 108 (by omega)
  have e100 : cBy fd tp p = 100 ↔ chB fd tp p = 100 := e 100 (by omega)
  have e119 : cBy fd tp p = 119 ↔ chB fd tp p = 119 := e 119 (by omega)
  have e112 : cBy fd tp p = 112 ↔ chB fd tp p = 112 := e 112 (by omega)
  have e115 : cBy fd tp p = 115 ↔ chB fd tp p = 115 := e 115 (by omega)
  have e107 : cBy fd tp p = 107 ↔ chB fd tp p = 107 := e 107 (by omega)
  refine ru_La_isName ?_
  rw [e108, e100, e119, e112, e115, e107]
  generalize chB fd tp p = c at *
  have hl := nmO_c c
  exact ⟨fun z => ⟨o01, g (by omega)⟩, fun z1 => ⟨fun z => ⟨o01, g (by omega)⟩, fun z2 => ⟨fun z => ⟨o01, g (by omega)⟩, fun z3 => ⟨fun z => ⟨o01, g (by omega)⟩, fun z4 => ⟨fun z => ⟨o01, g (by omega)⟩, fun z5 => ⟨fun z => ⟨z01, g9 (by omega)⟩, fun z => ⟨o01, g (by omega)⟩⟩⟩⟩⟩⟩⟩
end TPC
-- ---------- the reference
section TPM
variable {P : bt_PT} {d : Nat} {I : m_I} {L : m_L} {fd p op ln : Nat} {tp : Nat → Nat}
def rfP (I : m_I) (fd : Nat) (tp : Nat → Nat) (p : Nat) : Prop := fd ≤ 120 ∧ I 35 0 22 = nI fd ∧ (∀ j, j < fd → I 49 0 j = (nI (tp j)).toInt8.toInt32) ∧ (∀ j, j < fd → tp j < 256) ∧ I 35 0 23 = nI p ∧ p ≤ fd
def rfS (I : m_I) (fd : Nat) (tp : Nat → Nat) (p op : Nat) (ss : List Nat) : Prop := rfP I fd tp p ∧ I 35 0 24 = -1 ∧ I 35 0 25 = nI op ∧ I 35 0 26 = nI ss.length ∧ ∀ i, i < ss.length → I 50 0 (130 + i) = aC (ss.getD i 0) ∧ I 51 0 (130 + i) = wC (ss.getD i 0)
def rfB (I : m_I) (fd : Nat) (tp : Nat → Nat) (p ln : Nat) : Prop := rfP I fd tp p ∧ I 35 0 24 = nI p ∧ I 35 0 26 = nI ln
def rfF (I I' : m_I) : Prop := ∀ a b c, ¬ ((a = 35 ∧ 23 ≤ c ∧ c ≤ 26) ∨ ((a = 50 ∨ a = 51) ∧ 130 ≤ c)) → I' a b c = I a b c
theorem rfF_rf : rfF I I := fun _ _ _ _ => rfl
theorem rfF_tr {I I' I'' : m_I} (h : rfF I I') (h' : rfF I' I'') : rfF I I'' := fun a b c z => (h' a b c z).trans (h a b c z)
theorem rfF_35 {c : Nat} {v : Int32} (hc : 23 ≤ c ∧ c ≤ 26) : rfF I (ui I 35 0 c v) := fun a b e z => by
  by_cases q : a = 35
  · exact ui_j (fun y => z (Or.inl ⟨q, by omega, by omega⟩))
  · exact ui_k q
theorem rfP_at (h : rfP I fd tp p) (hp : p < fd) : rfP (ui I 35 0 23 (nI p + 1)) fd tp (p + 1) := by
  obtain ⟨h1, h2, h3, h4, h5, h6⟩ := h
  exact ⟨h1, by rw [ui_j (by decide)]; exact h2, fun j hj => by rw [ui_k (by decide)]; exact h3 j hj, h4, by rw [ui_same, nI_s], by omega⟩
theorem rfS_at {ss : List Nat} (h : rfS I fd tp p op ss) (hp : p < fd) : rfS (ui I 35 0 23 (nI p + 1)) fd tp (p + 1) op ss :=
  ⟨rfP_at h.1 hp, by rw [ui_j (by decide)]; exact h.2.1, by rw [ui_j (by decide)]; exact h.2.2.1, by rw [ui_j (by decide)]; exact h.2.2.2.1, fun i hi => by rw [ui_k (by decide), ui_k (by decide)]; exact h.2.2.2.2 i hi⟩
theorem sm_look {f : Int32 → m_I → m_L → Prop} (h : rfP I fd tp p) (g : f (mBy fd tp p) I L) : bt_WP P (d + 1) mi_M_look [vr 35 0] (I, L) (kI f) := by
  obtain ⟨h1, h2, h3, h4, h5, h6⟩ := h
  unfold mBy at g
  refine ru_M_look ?_
  rw [h2, h5, nle (by omega) (by omega)]
  refine ⟨fun z => ?_, fun z => ⟨ti_in (by omega) (by omega), ?_⟩⟩
  · rw [if_neg (by omega)] at g; exact g
  · rw [if_pos (by omega)] at g
    rw [ti_tn (by omega), h3 p (by omega)]; exact g
theorem sm_faulty {f : m_I → m_L → Prop} {ss : List Nat} (h : rfS I fd tp p op ss) (g : ∀ I', rfB I' fd tp p ss.length → rfF I I' → f I' L) : bt_WP P (d + 1) mi_M_faulty [vr 35 0] (I, L) (kV f) := by
  obtain ⟨⟨h1, h2, h3, h4, h5, h6⟩, h7, h8, h9, h10⟩ := h
  refine ru_M_faulty ?_
  rw [h7, h5]
  refine ⟨fun z => absurd z (by decide), fun _ => g _ ⟨⟨h1, by rw [ui_j (by decide)]; exact h2, fun j hj => by rw [ui_k (by decide)]; exact h3 j hj, h4, by rw [ui_j (by decide)]; exact h5, h6⟩, ui_same _ _ _ _ _, by rw [ui_j (by decide)]; exact h9⟩ (rfF_35 (by omega))⟩
theorem aC_8 {t : Nat} (h : okT t) : ((aC t).toInt8.toInt32).toInt8.toInt32 = aC t := by
  have hv : ∀ n, n < 128 → ((nI n).toInt8.toInt32).toInt8.toInt32 = nI n := fun n hn => by rw [i8_lo n hn, i8_lo n hn]
  unfold aC
  repeat' split
  · exact hv 1 (by omega)
  · exact hv 2 (by omega)
  · exact hv 3 (by omega)
  · exact hv 4 (by omega)
  · rcases h with h | h
    · omega
    · exact hv _ (lvO_lt h.2)
theorem sm_addStep {f : m_I → m_L → Prop} {ss : List Nat} {t : Nat} (h : rfS I fd tp p op ss) (ht : okT t) (hl : ss.length < 130) (g : ∀ I', rfS I' fd tp p op (ss ++ [t]) → rfF I I' → f I' L) : bt_WP P (d + 1) mi_M_addStep [vr 35 0, vi (aC t), vi (wC t)] (I, L) (kV f) := by
  obtain ⟨⟨h1, h2, h3, h4, h5, h6⟩, h7, h8, h9, h10⟩ := h
  have e130 : (130 : Int32) + nI ss.length = nI (130 + ss.length) := nI_add 130 _
  refine ru_M_addStep ?_
  rw [ui_k (k := 50) (a := 35) (by decide), ui_k (k := 51) (a := 35) (by decide), ui_k (k := 50) (a := 35) (by decide), h9, e130, ti_tn (by omega), aC_8 ht, nI_s]
  refine ⟨ti_in (by omega) (by omega), ti_in (by omega) (by omega), g _ ⟨⟨h1, ?_, fun j hj => ?_, h4, ?_, h6⟩, ?_, ?_, ?_, fun i hi => ?_⟩ (fun a b c z => ?_)⟩
  · rw [ui_j (by decide), ui_k (by decide), ui_k (by decide)]; exact h2
  · rw [ui_k (by decide), ui_k (by decide), ui_k (by decide)]; exact h3 j hj
  · rw [ui_j (by decide), ui_k (by decide), ui_k (by decide)]; exact h5
  · rw [ui_j (by decide), ui_k (by decide), ui_k (by decide)]; exact h7
  · rw [ui_j (by decide), ui_k (by decide), ui_k (by decide)]; exact h8
  · rw [ui_same, List.length_append]; rfl
  · rw [List.length_append] at hi
    have hi : i < ss.length + 1 := hi
    refine ⟨?_, ?_⟩
    · rw [ui_k (by decide), ui_k (by decide)]
      by_cases q : i = ss.length
      · rw [q, ui_same, gd_r]
      · rw [ui_j (by omega), gd_l _ _ (by omega)]; exact (h10 i (by omega)).1
    · rw [ui_k (by decide)]
      by_cases q : i = ss.length
      · rw [q, ui_same, gd_r]
      · rw [ui_j (by omega), ui_k (by decide), gd_l _ _ (by omega)]; exact (h10 i (by omega)).2
  · have e1 : ∀ (J : m_I) (w : Int32), ui J 35 0 26 w a b c = J a b c := fun J w => by
      by_cases q : a = 35
      · exact ui_j (fun e => z (Or.inl ⟨q, by omega, by omega⟩))
      · exact ui_k q
    have e2 : ∀ (J : m_I) (w : Int32), ui J 51 0 (130 + ss.length) w a b c = J a b c := fun J w => by
      by_cases q : a = 51
      · exact ui_j (fun e => z (Or.inr ⟨Or.inr q, by omega⟩))
      · exact ui_k q
    have e3 : ∀ (J : m_I) (w : Int32), ui J 50 0 (130 + ss.length) w a b c = J a b c := fun J w => by
      by_cases q : a = 50
      · exact ui_j (fun e => z (Or.inr ⟨Or.inl q, by omega⟩))
      · exact ui_k q
    rw [e1, e2, e3]
theorem sm_addStepB {f : m_I → m_L → Prop} {v w : Int32} (h : rfB I fd tp p ln) (hl : ln < 130) (g : ∀ I', rfB I' fd tp p (ln + 1) → rfF I I' → f I' L) : bt_WP P (d + 1) mi_M_addStep [vr 35 0, vi v, vi w] (I, L) (kV f) := by
  obtain ⟨⟨h1, h2, h3, h4, h5, h6⟩, h7, h9⟩ := h
  have e130 : (130 : Int32) + nI ln = nI (130 + ln) := nI_add 130 _
  refine ru_M_addStep ?_
  rw [ui_k (k := 50) (a := 35) (by decide), ui_k (k := 51) (a := 35) (by decide), ui_k (k := 50) (a := 35) (by decide), h9, e130, ti_tn (by omega), nI_s]
  refine ⟨ti_in (by omega) (by omega), ti_in (by omega) (by omega), g _ ⟨⟨h1, ?_, fun j hj => ?_, h4, ?_, h6⟩, ?_, ?_⟩ (fun a b c z => ?_)⟩
  · rw [ui_j (by decide), ui_k (by decide), ui_k (by decide)]; exact h2
  · rw [ui_k (by decide), ui_k (by decide), ui_k (by decide)]; exact h3 j hj
  · rw [ui_j (by decide), ui_k (by decide), ui_k (by decide)]; exact h5
  · rw [ui_j (by decide), ui_k (by decide), ui_k (by decide)]; exact h7
  · rw [ui_same]
  · have e1 : ∀ (J : m_I) (w : Int32), ui J 35 0 26 w a b c = J a b c := fun J w => by
      by_cases q : a = 35
      · exact ui_j (fun e => z (Or.inl ⟨q, by omega, by omega⟩))
      · exact ui_k q
    have e2 : ∀ (J : m_I) (w : Int32), ui J 51 0 (130 + ln) w a b c = J a b c := fun J w => by
      by_cases q : a = 51
      · exact ui_j (fun e => z (Or.inr ⟨Or.inr q, by omega⟩))
      · exact ui_k q
    have e3 : ∀ (J : m_I) (w : Int32), ui J 50 0 (130 + ln) w a b c = J a b c := fun J w => by
      by_cases q : a = 50
      · exact ui_j (fun e => z (Or.inr ⟨Or.inl q, by omega⟩))
      · exact ui_k q
    rw [e1, e2, e3]
theorem sm_nameOf {f : Int32 → m_I → m_L → Prop} (ht : ∀ j, j < fd → tp j < 256) (g9 : nmO (chB fd tp p) = 9 → f (-1) I L) (g : nmO (chB fd tp p) < 9 → f (nI (nmO (chB fd tp p))) I L) : bt_WP P (d + 1) mi_M_nameOf [vi (mBy fd tp p)] (I, L) (kI f) := by
  have e : ∀ c, c < 128 → (mBy fd tp p = nI c ↔ chB fd tp p = c) := fun c hc => mB_eq ht hc
  have hl := nmO_c (chB fd tp p)
  refine ru_M_nameOf ?_
  refine ⟨fun z => ?_, fun z100 => ⟨fun z => ?_, fun _ => ⟨fun z => ?_, fun _ => ⟨fun z => ?_, fun _ => ⟨fun z => ?_, fun _ => ⟨fun z => ?_, fun _ => ⟨fun z => ?_, fun _ => ⟨fun z => ?_, fun z107 => ⟨fun z => ?_, fun z108 => ⟨fun z => ?_, fun _ => ⟨fun z => ?_, fun _ => ⟨fun z => ?_, fun _ => ⟨fun z => ?_, fun z112 => ⟨fun z => ?_, fun _ => ⟨fun z => ?_, fun _ => ⟨fun z => ?_, fun z115 => ⟨fun z => ?_, fun _ => ⟨fun z => ?_, fun _ => ⟨fun z => ?_, fun _ => ⟨fun z => ?_, fun z119 => ?_⟩⟩⟩⟩⟩⟩⟩⟩⟩⟩⟩⟩⟩⟩⟩⟩⟩⟩⟩⟩
  · have h := (e 100 (by omega)).mp z; have := g (by omega); rw [show nmO (chB fd tp p) = 1 by omega] at this; exact this
  · have h := (e 101 (by omega)).mp z; exact g9 (by omega)
  · have h := (e 102 (by omega)).mp z; exact g9 (by omega)
  · have h := (e 103 (by omega)).mp z; exact g9 (by omega)
  · have h := (e 104 (by omega)).mp z; exact g9 (by omega)
  · have h := (e 105 (by omega)).mp z; exact g9 (by omega)
  · have h := (e 106 (by omega)).mp z; exact g9 (by omega)
  · have h := (e 107 (by omega)).mp z; have := g (by omega); rw [show nmO (chB fd tp p) = 5 by omega] at this; exact this
  · have h := (e 108 (by omega)).mp z; have := g (by omega); rw [show nmO (chB fd tp p) = 0 by omega] at this; exact this
  · have h := (e 109 (by omega)).mp z; exact g9 (by omega)
  · have h := (e 110 (by omega)).mp z; exact g9 (by omega)
  · have h := (e 111 (by omega)).mp z; exact g9 (by omega)
  · have h := (e 112 (by omega)).mp z; have := g (by omega); rw [show nmO (chB fd tp p) = 3 by omega] at this; exact this
  · have h := (e 113 (by omega)).mp z; exact g9 (by omega)
  · have h := (e 114 (by omega)).mp z; exact g9 (by omega)
  · have h := (e 115 (by omega)).mp z; have := g (by omega); rw [show nmO (chB fd tp p) = 4 by omega] at this; exact this
  · have h := (e 116 (by omega)).mp z; exact g9 (by omega)
  · have h := (e 117 (by omega)).mp z; exact g9 (by omega)
  · have h := (e 118 (by omega)).mp z; exact g9 (by omega)
  · have h := (e 119 (by omega)).mp z; have := g (by omega); rw [show nmO (chB fd tp p) = 2 by omega] at this; exact this
  · have n100 : ¬ chB fd tp p = 100 := fun y => z100 ((e 100 (by omega)).mpr y)
    have n107 : ¬ chB fd tp p = 107 := fun y => z107 ((e 107 (by omega)).mpr y)
    have n108 : ¬ chB fd tp p = 108 := fun y => z108 ((e 108 (by omega)).mpr y)
    have n112 : ¬ chB fd tp p = 112 := fun y => z112 ((e 112 (by omega)).mpr y)
    have n115 : ¬ chB fd tp p = 115 := fun y => z115 ((e 115 (by omega)).mpr y)
    have n119 : ¬ chB fd tp p = 119 := fun y => z119 ((e 119 (by omega)).mpr y)
    exact g9 (by omega)
theorem sm_opens {f : Int32 → m_I → m_L → Prop} {ss : List Nat} (h : rfS I fd tp p op ss) (ho : op ≤ 6) (hp : p < fd) (g1 : op < 6 → ∀ I', rfS I' fd tp (p + 1) (op + 1) ss → rfF I I' → f 1 I' L) (g0 : op = 6 → ∀ I', rfB I' fd tp p ss.length → rfF I I' → f 0 I' L) : bt_WP P (d + 2) mi_M_opens [vr 35 0] (I, L) (kI f) := by
  have h0 := h
  obtain ⟨⟨h1, h2, h3, h4, h5, h6⟩, h7, h8, h9, h10⟩ := h
  have e6 : nI op = 6 ↔ op = 6 := neq (b := 6) (by omega) (by omega)
  refine ru_M_opens ?_
  rw [ui_j (c := 23) (by decide), h8, e6, h5]
  refine ⟨fun z => ⟨o01, g1 (by omega) _ ?_ ?_⟩, fun z => sm_faulty h0 (fun I' a1 a2 => ⟨z01, g0 z I' a1 a2⟩)⟩
  · have := rfS_at h0 hp
    refine ⟨⟨h1, ?_, fun j hj => ?_, h4, ?_, by omega⟩, ?_, ?_, ?_, fun i hi => ?_⟩
    · rw [ui_j (by decide), ui_j (by decide)]; exact h2
    · rw [ui_k (by decide), ui_k (by decide)]; exact h3 j hj
    · rw [ui_same, nI_s]
    · rw [ui_j (by decide), ui_j (by decide)]; exact h7
    · rw [ui_j (by decide), ui_same, nI_s]
    · rw [ui_j (by decide), ui_j (by decide)]; exact h9
    · rw [ui_k (by decide), ui_k (by decide), ui_k (by decide), ui_k (by decide)]; exact h10 i hi
  · exact rfF_tr (rfF_35 (by omega)) (rfF_35 (by omega))
end TPM
