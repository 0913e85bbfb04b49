/-! SOUNDS: the law as a question; the class's Sounds -/
abbrev lF : Type := Int32 → Int32 → Int32 → Int32 → Int32 → Int32 → Prop
/-- the cells that the law is told by are as before -/
def Qw (I I' : m_I) : Prop := (∀ c, I' 10 0 c = I 10 0 c) ∧ I' 7 0 7 = I 7 0 7 ∧ I' 35 0 34 = I 35 0 34 ∧ (∀ c, c < 130 → I' 50 0 c = I 50 0 c ∧ I' 51 0 c = I 51 0 c) ∧ I' 52 0 0 = I 52 0 0 ∧ ∀ c, c < 61 → I' 53 0 c = I 53 0 c ∧ I' 54 0 c = I 54 0 c
theorem Qw_rf {I : m_I} : Qw I I := ⟨fun _ => rfl, rfl, rfl, fun _ _ => ⟨rfl, rfl⟩, rfl, fun _ _ => ⟨rfl, rfl⟩⟩
theorem Qw_tr {I I' I'' : m_I} (h : Qw I I') (h' : Qw I' I'') : Qw I I'' := ⟨fun c => (h'.1 c).trans (h.1 c), h'.2.1.trans h.2.1, h'.2.2.1.trans h.2.2.1, fun c hc => ⟨(h'.2.2.2.1 c hc).1.trans (h.2.2.2.1 c hc).1, (h'.2.2.2.1 c hc).2.trans (h.2.2.2.1 c hc).2⟩, h'.2.2.2.2.1.trans h.2.2.2.2.1, fun c hc => ⟨(h'.2.2.2.2.2 c hc).1.trans (h.2.2.2.2.2 c hc).1, (h'.2.2.2.2.2 c hc).2.trans (h.2.2.2.2.2 c hc).2⟩⟩
theorem gp_50 : ∀ c, c < 130 → gp 50 c = 6 ∧ gp 51 c = 6 := by decide +kernel
theorem gp_53 : ∀ c, c < 61 → gp 53 c = 6 ∧ gp 54 c = 6 := by decide +kernel
theorem Qw_6 {I I' : m_I} (h : Qg 6 I I') : Qw I I' := ⟨fun c => h 10 0 c rfl, h 7 0 7 rfl, h 35 0 34 rfl, fun c hc => ⟨h 50 0 c (gp_50 c hc).1, h 51 0 c (gp_50 c hc).2⟩, h 52 0 0 rfl, fun c hc => ⟨h 53 0 c (gp_53 c hc).1, h 54 0 c (gp_53 c hc).2⟩⟩
theorem Qw_S {I I' : m_I} {L L' : m_L} (h : Scr I L I' L') : Qw I I' := Qw_6 (Qg_scr h (by decide))
/-- the class's law answers a question -/
def lawC (P : bt_PT) (I : m_I) (F : lF) : Prop := ∀ (d : Nat) (f : Int32 → m_I → m_L → Prop) (I' : m_I) (L : m_L) (w : Int32), Qw I I' → (∀ I'', (∀ a b c, ¬ (a = 11 ∨ (a = 7 ∧ (c = 8 ∨ c = 11))) → I'' a b c = I' a b c) → f (bP (F (I' 7 0 9) (I' 7 0 10) w (I' 7 0 12) (I' 7 0 13) (I' 7 0 14))) I'' L) → bt_WP P (d + 4) mi_La_hears [vr 7 0, vi w] (I', L) (kI f)
/-- the reference's -/
def lawM (P : bt_PT) (I : m_I) (F : lF) : Prop := ∀ (d : Nat) (f : Int32 → m_I → m_L → Prop) (I' : m_I) (L : m_L), Qw I I' → (∀ I'' v, (∀ a b c, ¬ a = 56 → I'' a b c = I' a b c) → (¬ v = 0 ↔ F (I' 55 0 0) (I' 55 0 1) (I' 55 0 2) (I' 55 0 3) (I' 55 0 4) (I' 55 0 5)) → f v I'' L) → bt_WP P (d + 3) mi_M_gives [vr 35 0, vi 0] (I', L) (kI f)
def dfL : lF := fun l d w _ s _ => ¬ l ≤ (d + w / 2) + s
def gL (P : bt_PT) (I : m_I) (F : lF) : Prop := lawC P I F ∧ ((I 35 0 34 = 0 ∧ ∀ l d w p s k, F l d w p s k ↔ dfL l d w p s k) ∨ (¬ I 35 0 34 = 0 ∧ lawM P I F))
theorem gL_Q {P : bt_PT} {I I' : m_I} {F : lF} (h : gL P I F) (q : Qw I I') : gL P I' F := by
  refine ⟨fun d f I1 L w q1 => h.1 d f I1 L w (Qw_tr q q1), ?_⟩
  rw [q.2.2.1]
  rcases h.2 with ⟨h1, h2⟩ | ⟨h1, h2⟩
  · exact Or.inl ⟨h1, h2⟩
  · exact Or.inr ⟨h1, fun d f I1 L q1 => h2 d f I1 L (Qw_tr q q1)⟩
/-- what is heard of a sort at a tree in a minute -/
noncomputable def snd (I : m_I) (F : lF) (fr : Nat → Nat) (T k t m : Nat) : Int32 := @ite Int32 (t < T ∧ (I 3 3 t = 1 ∧ I 3 2 t ≤ I 3 5 k) ∧ F (I 3 1 t) (nI (fr t)) (I 3 4 m) (I 3 0 t) (I 3 6 0) (nI k)) (Classical.propDecidable _) (I 3 0 t) (-1)
/-- what Sounds may change -/
def offS (s0 : Nat) (I I' : m_I) : Prop := ∀ a b c, ¬ (a = 5 ∨ (a = 14 ∧ 8 * s0 ≤ b ∧ b < 8 * s0 + 8) ∨ a = 15 ∨ a = 11 ∨ (a = 7 ∧ 8 ≤ c ∧ c ≤ 14)) → I' a b c = I a b c
theorem offS_Scr {s0 : Nat} {I I' : m_I} {L : m_L} (h : offS s0 I I') : Scr I L I' L := ⟨fun k i j e => h k i j (fun z => by
  rcases z with rfl | ⟨rfl, -, -⟩ | rfl | rfl | ⟨rfl, h1, h2⟩
  · cases e
  · cases e
  · cases e
  · cases e
  · have hc : j = 8 ∨ j = 9 ∨ j = 10 ∨ j = 11 ∨ j = 12 ∨ j = 13 ∨ j = 14 := by omega
    rcases hc with rfl | rfl | rfl | rfl | rfl | rfl | rfl <;> cases e), fun _ _ _ _ => rfl⟩
theorem offS_tr {s0 : Nat} {I I' I'' : m_I} (h : offS s0 I I') (h' : offS s0 I' I'') : offS s0 I I'' := fun a b c z => (h' a b c z).trans (h a b c z)
theorem sp_SoHeard {P : bt_PT} {d : Nat} {f : Int32 → m_I → m_L → Prop} {I0 I : m_I} {L : m_L} {s0 w : Nat} {F : lF} {l dd p s k : Int32} (hL : lawC P I0 F) (hq : Qw I0 I) (hw : w < 10) (e1 : I 7 0 9 = l) (e2 : I 7 0 10 = dd) (e3 : I 7 0 12 = p) (e4 : I 7 0 13 = s) (e5 : I 7 0 14 = k)
    (hc : ∀ w, w < 10 → I 15 s0 w = -1 ∨ I 15 s0 w = bP (F l dd (nI w) p s k))
    (h : ∀ I', (∀ w, w < 10 → I' 15 s0 w = -1 ∨ I' 15 s0 w = bP (F l dd (nI w) p s k)) → (∀ a b c, ¬ (a = 11 ∨ (a = 7 ∧ (c = 8 ∨ c = 11)) ∨ a = 15) → I' a b c = I a b c) → f (bP (F l dd (nI w) p s k)) I' L) : bt_WP P (d + 5) mi_So_isHeard [vr 12 s0, vi (nI w)] (I, L) (kI f) := by
  have vw : vp_in (nI w) 10 := ti_in hw (by omega)
  have tw : tn (nI w) = w := ti_tn (by omega)
  refine ru_So_isHeard ⟨fun q => absurd q (n_neg (by omega)), fun _ => ⟨fun _ => ⟨vw, ?_⟩, fun q => absurd ((nlt (b := 10) (by omega) (by omega)).mpr hw) q⟩⟩
  rw [tw]
  refine ⟨fun q => ⟨vw, ?_⟩, fun q => hL _ _ _ _ _ hq (fun I'' h1 => ?_)⟩
  · have e := (hc w hw).resolve_left q
    have h' := h I hc (fun _ _ _ _ => rfl)
    rw [e]
    by_cases g : F l dd (nI w) p s k
    · rw [bP_t g] at h' ⊢
      exact ⟨(fun z => absurd rfl z), fun _ => ⟨o01, h'⟩⟩
    · rw [bP_f g] at h' ⊢
      exact ⟨fun _ => ⟨z01, h'⟩, (fun z => absurd z (by decide))⟩
  · rw [e1, e2, e3, e4, e5]
    have hv : ∀ v : Int32, v = bP (F l dd (nI w) p s k) → f v (ui I'' 15 s0 w v) L := fun v ev => by
      have h' := h (ui I'' 15 s0 w v) (fun w' hw' => by
        by_cases q2 : w' = w
        · subst q2; rw [ui_same]; exact Or.inr ev
        · rw [ui_j q2, h1 15 s0 w' (by omega)]; exact hc w' hw') (fun a b c z => by
        rw [ui_k (fun e => z (Or.inr (Or.inr e))), h1 a b c (fun y => z (by rcases y with y | y; exact Or.inl y; exact Or.inr (Or.inl y)))])
      rw [← ev] at h'; exact h'
    rw [ui_same, ui_same]
    by_cases g : F l dd (nI w) p s k
    · rw [bP_t g] at hv ⊢
      exact ⟨(fun z => absurd z (by decide)), fun _ => ⟨vw, vw, (fun z => absurd rfl z), fun _ => ⟨o01, hv 1 rfl⟩⟩⟩
    · rw [bP_f g] at hv ⊢
      exact ⟨fun _ => ⟨vw, vw, fun _ => ⟨z01, hv 0 rfl⟩, (fun z => absurd z (by decide))⟩, (fun z => absurd rfl z)⟩
/-- Sounds on the way -/
def sdI (I0 I : m_I) (s0 T t m : Nat) (fr : Nat → Nat) (S : Nat → Nat → Int32) : Prop := offS s0 I0 I ∧ (∀ u, u < T → I 5 0 u = nI (fr u)) ∧ ∀ u n, u < 8 → n < 24 → (u < t ∨ (u = t ∧ n < m)) → I 14 (8 * s0 + u) n = S u n
theorem sdI_ui {I0 I : m_I} {s0 T t m : Nat} {fr : Nat → Nat} {S : Nat → Nat → Int32} {v : Int32} (h : sdI I0 I s0 T t m fr S) (ht : t < 8) (hv : v = S t m) : sdI I0 (ui I 14 (8 * s0 + t) m v) s0 T t (m + 1) fr S := by
  obtain ⟨h1, h2, h3⟩ := h
  refine ⟨fun a b c z => ?_, fun u hu => by rw [ui_k (by decide)]; exact h2 u hu, fun u n hu hn hh => ?_⟩
  · by_cases q : a = 14 ∧ b = 8 * s0 + t
    · exact absurd (Or.inr (Or.inl ⟨q.1, by omega, by omega⟩)) z
    · have e : ui I 14 (8 * s0 + t) m v a b c = I a b c := by
        by_cases q1 : a = 14
        · exact ui_i (fun q2 => q ⟨q1, q2⟩)
        · exact ui_k q1
      rw [e]; exact h1 a b c z
  · by_cases q : u = t
    · subst q
      by_cases q1 : n = m
      · subst q1; rw [ui_same, hv]
      · rw [ui_j q1]; exact h3 u n hu hn (by omega)
    · rw [ui_i (by omega)]; exact h3 u n hu hn (by omega)
theorem sp_f106 {P : bt_PT} {d : Nat} {f : m_I → m_L → Prop} {I0 : m_I} {L : m_L} {T t s0 : Nat} {nb fr : Nat → Nat} {F : lF} {S : Nat → Nat → Int32} {rv l dd p s k : Int32} (hF : iF I0 T nb) (hL : lawC P I0 F) (hW : ∀ m, m < 24 → lt' (I0 3 4 m) 10) (ht : t < 8)
    (hS1 : ∀ m, m < 24 → ¬ rv = 0 → F l dd (I0 3 4 m) p s k → S t m = p) (hS0 : ∀ m, m < 24 → (rv = 0 ∨ ¬ F l dd (I0 3 4 m) p s k) → S t m = -1)
    (hg : ∀ I, sdI I0 I s0 T (t + 1) 0 fr S → bt_Go P (d + 5) mi_So_fill (kV f) 20 [some (vr 12 s0), some (vi k), some (vi s), some (vi (nI (t + 1))), none, none, none] [] (I, L)) :
    ∀ (n m : Nat) (I : m_I), m + n = 24 → sdI I0 I s0 T t m fr S → I 7 0 9 = l → I 7 0 10 = dd → I 7 0 12 = p → I 7 0 13 = s → I 7 0 14 = k → (∀ w, w < 10 → I 15 s0 w = -1 ∨ I 15 s0 w = bP (F l dd (nI w) p s k)) → bt_Go P (d + 5) mi_So_fill (kV f) 106 [some (vr 12 s0), some (vi k), some (vi s), some (vi (nI t)), some (vi rv), some (vi p), some (vi (nI m))] [] (I, L)
  | 0, m, I, e, h, _, _, _, _, _, _ => by
    have e : m = 24 := by omega
    subst e
    refine ru_So_fill_106 ⟨fun _ => ?_, fun q => absurd (show (24 : Int32) ≤ nI 24 by decide) q⟩
    rw [nI_s]
    exact hg I ⟨h.1, h.2.1, fun u n hu hn hh => h.2.2 u n hu hn (by omega)⟩
  | n + 1, m, I, e, h, e1, e2, e3, e4, e5, hc => by
    have vm : vp_in (nI m) 24 := ti_in (by omega) (by omega)
    have hcT : I 1 0 4 = nI T := (h.1 1 0 4 (by omega)).trans hF.1
    refine ru_So_fill_106 ⟨fun q => absurd ((nle (a := 24) (by omega) (by omega)).mp q) (by omega), fun _ => ⟨ti_in ht (by omega), ?_⟩⟩
    rw [ti_tn (n := t) (by omega), ti_tn (n := m) (by omega), nI_s]
    refine ⟨fun q => ⟨vm, ?_⟩, fun q => sp_get (w := 4) hcT hF.2.1 (by omega) (by show m < 24; omega) ?_⟩
    · exact sp_f106 hF hL hW ht hS1 hS0 hg n (m + 1) _ (by omega) (sdI_ui h ht (hS0 m (by omega) (Or.inl q)).symm) (by rw [ui_k (by decide)]; exact e1) (by rw [ui_k (by decide)]; exact e2) (by rw [ui_k (by decide)]; exact e3) (by rw [ui_k (by decide)]; exact e4) (by rw [ui_k (by decide)]; exact e5) (fun w hw => by rw [ui_k (by decide)]; exact hc w hw)
    · obtain ⟨w, hw, ew⟩ := hW m (by omega)
      have ew' : I 3 4 m = nI w := (h.1 3 4 m (by omega)).trans ew
      rw [ew']
      refine sp_SoHeard hL (Qw_S (L := L) (L' := L) (offS_Scr h.1)) hw e1 e2 e3 e4 e5 hc (fun I' h1 h2 => ?_)
      have hI' : sdI I0 I' s0 T t m fr S := ⟨fun a b c z => (h2 a b c (fun y => z (by omega))).trans (h.1 a b c z), fun u hu => (h2 5 0 u (by omega)).trans (h.2.1 u hu), fun u n hu hn hh => (h2 14 _ n (by omega)).trans (h.2.2 u n hu hn hh)⟩
      have hgo : ∀ v, v = S t m → bt_Go P (d + 5) mi_So_fill (kV f) 106 [some (vr 12 s0), some (vi k), some (vi s), some (vi (nI t)), some (vi rv), some (vi p), some (vi (nI (m + 1)))] [] (ui I' 14 (8 * s0 + t) m v, L) := fun v hv => by
        refine sp_f106 hF hL hW ht hS1 hS0 hg n (m + 1) _ (by omega) (sdI_ui hI' ht hv) ?_ ?_ ?_ ?_ ?_ (fun w hw => by rw [ui_k (by decide)]; exact h1 w hw)
        · rw [ui_k (by decide), h2 7 0 9 (by omega)]; exact e1
        · rw [ui_k (by decide), h2 7 0 10 (by omega)]; exact e2
        · rw [ui_k (by decide), h2 7 0 12 (by omega)]; exact e3
        · rw [ui_k (by decide), h2 7 0 13 (by omega)]; exact e4
        · rw [ui_k (by decide), h2 7 0 14 (by omega)]; exact e5
      exact bP_br (fun g => ⟨vm, hgo _ (hS0 m (by omega) (Or.inr (by rw [ew]; exact g))).symm⟩) (fun g => ⟨vm, hgo _ (hS1 m (by omega) q (by rw [ew]; exact g)).symm⟩)
