/-! walk: joint -/
noncomputable def hvI (w : Nat → Nat) (c : Nat → Prop) (base : Nat → Int32) : Nat → Nat → Int32
  | 0, t => base t
  | m + 1, t => @ite Int32 (c m ∧ w m = t) (Classical.propDecidable _) (hvI w c base m t + 1) (hvI w c base m t)
noncomputable def cI (c : Nat → Prop) : Nat → Int32
  | 0 => 0
  | m + 1 => @ite Int32 (c m) (Classical.propDecidable _) (cI c m + 1) (cI c m)
section HVI
variable {w : Nat → Nat} {c : Nat → Prop} {base : Nat → Int32}
theorem hvI_t {m t : Nat} (h : c m ∧ w m = t) : hvI w c base (m + 1) t = hvI w c base m t + 1 := by
  show @ite Int32 _ (Classical.propDecidable _) _ _ = _
  rw [if_pos h]
theorem hvI_f {m t : Nat} (h : ¬ (c m ∧ w m = t)) : hvI w c base (m + 1) t = hvI w c base m t := by
  show @ite Int32 _ (Classical.propDecidable _) _ _ = _
  rw [if_neg h]
theorem cI_t {m : Nat} (h : c m) : cI c (m + 1) = cI c m + 1 := by
  show @ite Int32 _ (Classical.propDecidable _) _ _ = _
  rw [if_pos h]
theorem cI_f {m : Nat} (h : ¬ c m) : cI c (m + 1) = cI c m := by
  show @ite Int32 _ (Classical.propDecidable _) _ _ = _
  rw [if_neg h]
theorem hvI_c {base' : Nat → Int32} {t : Nat} (h : base t = base' t) : ∀ m, hvI w c base m t = hvI w c base' m t
  | 0 => h
  | m + 1 => by
    by_cases q : c m ∧ w m = t
    · rw [hvI_t q, hvI_t q, hvI_c h m]
    · rw [hvI_f q, hvI_f q, hvI_c h m]
theorem hvI_o {t : Nat} : ∀ m, (∀ i, i < m → ¬ w i = t) → hvI w c base m t = base t
  | 0, _ => rfl
  | m + 1, h => by rw [hvI_f (fun z => h m (by omega) z.2), hvI_o m (fun i hi => h i (by omega))]
end HVI
theorem snd_3 {I I' : m_I} {F : lF} {fr : Nat → Nat} {T : Nat} (h : ∀ b c, I' 3 b c = I 3 b c) : snd I' F fr T = snd I F fr T := by
  funext k t m
  unfold snd
  rw [h 3 t, h 2 t, h 5 k, h 1 t, h 4 m, h 0 t, h 6 0]
theorem gV_c {I I' : m_I} {T : Nat} (h : gV I T) (q3 : ∀ b c, I' 3 b c = I 3 b c) (q : ∀ a c, 36 ≤ a → a ≤ 43 → ¬ a = 40 → ¬ a = 41 → I' a 0 c = I a 0 c) (q1 : I' 35 0 12 = I 35 0 12) (q2 : I' 35 0 13 = I 35 0 13) : gV I' T := fun k t hk ht => by
  have e : mv I' k t = mv I k t := by
    unfold mv; split
    · exact q 36 t (by omega) (by omega) (by omega) (by omega)
    · exact q 37 t (by omega) (by omega) (by omega) (by omega)
    · exact q 38 t (by omega) (by omega) (by omega) (by omega)
    · exact q 39 t (by omega) (by omega) (by omega) (by omega)
    · exact q 42 t (by omega) (by omega) (by omega) (by omega)
    · exact q 43 t (by omega) (by omega) (by omega) (by omega)
    · exact q1
    · exact q2
  rw [e, q3 k t]; exact h k t hk ht
section WAK
variable {P : bt_PT} {d : Nat} {f : Int32 → m_I → m_L → Prop} {I0 I : m_I} {L : m_L} {T hu bn : Nat} {nb : Nat → Nat} {X : Nat → sH} {Z : Nat → Nat} {F : lF}
abbrev wkC (L : m_L) (S : Nat → Nat → Int32) (s : Nat) : Nat → Prop := fun m => ¬ S (wN L s m) m = -1
/-- what the reference's walk goes by -/
def cw (P : bt_PT) (J : m_I) (L : m_L) (T hu bn : Nat) (nb : Nat → Nat) (X : Nat → sH) (Z : Nat → Nat) (F : lF) : Prop := jF J T nb ∧ gV J T ∧ gL P J F ∧ hu < 8 ∧ J 35 0 13 = nI hu ∧ rowC J L bn X Z
theorem cw_of (h : cx P I0 L T hu bn nb X Z F) {J : m_I} (q : ∀ a b c, ¬ (a = 6 ∨ (a = 1 ∧ c = 6)) → J a b c = I0 a b c) : cw P J L T hu bn nb X Z F := by
  refine ⟨⟨by rw [q 35 0 1 (by omega)]; exact h.1.2.1.1, h.1.2.1.2.1, fun t ht => by rw [q 40 0 t (by omega)]; exact h.1.2.1.2.2.1 t ht, h.1.2.1.2.2.2⟩, ?_, ?_, h.2.2.2.1, by rw [q 35 0 13 (by omega)]; exact h.2.2.2.2.2, ?_⟩
  · exact gV_c h.1.2.2.2.1 (fun b c => q 3 b c (by omega)) (fun a c h1 h2 h3 h4 => q a 0 c (by omega)) (q 35 0 12 (by omega)) (q 35 0 13 (by omega))
  · exact gL_Q h.2.2.1 ⟨fun c => q 10 0 c (by omega), q 7 0 7 (by omega), q 35 0 34 (by omega), fun c _ => ⟨q 50 0 c (by omega), q 51 0 c (by omega)⟩, q 52 0 0 (by omega), fun c _ => ⟨q 53 0 c (by omega), q 54 0 c (by omega)⟩⟩
  · refine rowC_Q h.2.1 (fun a b c e => q a b c (fun z => ?_)) Ql_rf
    rcases z with rfl | ⟨rfl, rfl⟩
    · cases e
    · cases e
theorem sp_walkL (h : cx P I0 L T hu bn nb X Z F) {s : Nat} {S : Nat → Nat → Int32} (hs : s < 6) (xs : X s = some (.inr 0)) (ws : WK L T nb Z s) (hfl : flS I0 0 S) (g : ∀ I', (∀ a b c, ¬ a = 6 → I' a b c = I0 a b c) → (∀ t, I' 6 0 t = hvI (wN L s) (wkC L S s) (I0 6 0) (min 24 (Z s)) t) → f (cI (wkC L S s) (min 24 (Z s))) (ui I' 1 0 6 (I' 1 0 6 + 1)) L) : ∀ (k m : Nat) (I : m_I), m + k = min 24 (Z s) → (∀ a b c, ¬ a = 6 → I a b c = I0 a b c) → (∀ t, I 6 0 t = hvI (wN L s) (wkC L S s) (I0 6 0) m t) → bt_Go P (d + 3) mi_B_walk (kI f) 50 [some (vr 0 0), none, none, some (vr 33 s), none, some (vi (cI (wkC L S s) m)), some (vi (nI m))] [] (I, L)
  | 0, m, I, e, h1, h2 => by
    obtain ⟨-, -, -, za, ea⟩ := row_e (cx_row h hs xs)
    have e : m = min 24 (Z s) := by omega
    refine ru_B_walk_50_b (sp_minutes (by rw [h1 33 s 3 (by decide)]; exact ea) za ?_)
    rw [← e] at g ⊢
    exact ⟨fun _ => ru_Fo_addWalk (g I h1 h2), fun q => absurd (Int32.le_refl _) q⟩
  | k + 1, m, I, e, h1, h2 => by
    obtain ⟨-, -, -, za, ea⟩ := row_e (cx_row h hs xs)
    have ea' : I 33 s 3 = nI (Z s) := by rw [h1 33 s 3 (by decide)]; exact ea
    obtain ⟨hT, hT8⟩ := cx_T h
    have hT' : I 1 0 4 = nI T := by rw [h1 1 0 4 (by decide)]; exact hT
    have hfl' : flS I 0 S := fun t n ht hn => by rw [h1 14 _ n (by decide)]; exact hfl t n ht hn
    have hw := WK_lt ws (m := m) (by omega)
    refine ru_B_walk_50_b (sp_minutes ea' za ⟨fun q => absurd ((nle (by omega) (by omega)).mp q) (by omega), fun _ => sp_at ea' za (by omega) (sp_sat hT' hT8 hw (by omega) hfl' ⟨fun q => ?_, fun q => sp_at ea' za (by omega) ?_⟩)⟩)
    · have hn : ¬ wkC L S s m := fun z => z q
      rw [nI_s]
      have ih := sp_walkL h hs xs ws hfl g k (m + 1) I (by omega) h1 (fun t => by rw [hvI_f (fun z => hn z.1)]; exact h2 t)
      rw [cI_f hn] at ih; exact ih
    · have hy : wkC L S s m := q
      obtain ⟨t, ht, et⟩ := hw
      have et' : (L 34 s m).toInt32 = nI t := et
      have ew : wN L s m = t := by show tn (vL L s m) = t; rw [et, ti_tn (by omega)]
      rw [et']
      refine sp_addHeard hT' hT8 ht ?_
      rw [nI_s]
      have ih := sp_walkL h hs xs ws hfl g k (m + 1) (ui I 6 0 t (I 6 0 t + 1)) (by omega) (fun a b c z => by rw [ui_k z]; exact h1 a b c z) (fun u => by
        by_cases q2 : u = t
        · subst q2; rw [ui_same, hvI_t ⟨hy, ew⟩, h2]
        · rw [ui_j q2, hvI_f (fun z => q2 (z.2.symm.trans ew)), h2])
      rw [cI_t hy] at ih; exact ih
theorem sm_walkL {J : m_I} (h : cw P J L T hu bn nb X Z F) {s k : Nat} (hk : k < 4) (hs : s < 6) (xs : X s = some (.inr 0)) (ws : WK L T nb Z s) (g : ∀ I', (∀ a b c, ¬ (a = 48 ∨ a = 55 ∨ a = 56 ∨ a = 41) → I' a b c = J a b c) → (∀ t, I' 41 0 t = hvI (wN L s) (wkC L (SD J F T nb hu k) s) (J 41 0) (min 24 (Z s)) t) → f (cI (wkC L (SD J F T nb hu k) s) (min 24 (Z s))) (ui I' 35 0 9 (I' 35 0 9 + 1)) L) : ∀ (n m : Nat) (I : m_I), m + n = min 24 (Z s) → (∀ a b c, ¬ (a = 48 ∨ a = 55 ∨ a = 56 ∨ a = 41) → I a b c = J a b c) → (∀ t, t < T → I 48 0 t = nI (frD T nb hu t)) → (∀ t, I 41 0 t = hvI (wN L s) (wkC L (SD J F T nb hu k) s) (J 41 0) m t) → bt_Go P (d + 6) mi_M_walk (kI f) 50 [some (vr 35 0), some (vi (nI k)), some (vi (nI s)), some (vi (cI (wkC L (SD J F T nb hu k) s) m)), some (vi (nI m))] [] (I, L)
  | n, m, I, e, h1, h3, h2 => by
    have hT8 := h.1.2.1
    have hx : gS1 J L bn s (some (.inr 0)) (Z s) := by have := h.2.2.2.2.2.2 s hs; rw [xs] at this; exact this
    obtain ⟨ks, e68, hby, zs, -⟩ := row_e hx
    have ks' : I 67 0 s = nI (Z s) := by rw [h1 67 0 s (by omega)]; exact ks
    refine ru_M_walk_50 (sm_minutesOf hs ks' zs ⟨fun z => ?_, fun z => ?_⟩)
    · have := (nle (by omega) (by omega)).mp z
      have em : m = min 24 (Z s) := by omega
      rw [← em] at g
      exact g I h1 h2
    · have hm : ¬ min 24 (Z s) ≤ m := fun y => z ((nle (b := m) (by omega) (by omega)).mpr y)
      obtain ⟨n, rfl⟩ : ∃ n', n = n' + 1 := ⟨n - 1, by omega⟩
      obtain ⟨t, ht, et⟩ := WK_lt ws (m := m) (by omega)
      have et' : (L 34 s m).toInt32 = nI t := et
      have ew : wN L s m = t := by show tn (vL L s m) = t; rw [et, ti_tn (by omega)]
      refine ru_M_every (ru_M_walkedSound (sm_told hs (by omega) ?_))
      rw [e68 m (by omega), et']
      have hVI : gV I T := gV_c h.2.1 (fun b c => h1 3 b c (by omega)) (fun a c a1 a2 a3 a4 => h1 a 0 c (by omega)) (h1 35 0 12 (by omega)) (h1 35 0 13 (by omega))
      have hLI : gL P I F := gL_Q h.2.2.1 ⟨fun c => h1 10 0 c (by omega), h1 7 0 7 (by omega), h1 35 0 34 (by omega), fun c _ => ⟨h1 50 0 c (by omega), h1 51 0 c (by omega)⟩, h1 52 0 0 (by omega), fun c _ => ⟨h1 53 0 c (by omega), h1 54 0 c (by omega)⟩⟩
      refine sm_soundOf (fr := frD T nb hu) (b := 255) hVI hT8 hLI (h3 t ht) hk ht (by omega) (by omega) (fun I1 h4 => ?_)
      rw [if_pos (by rw [tb255, decide_eq_true (by omega)]), snd_3 (I := J) (fun b c => h1 3 b c (by omega))]
      have h5 : ∀ a b c, ¬ (a = 48 ∨ a = 55 ∨ a = 56 ∨ a = 41) → I1 a b c = J a b c := fun a b c y => (h4 a b c (by omega)).trans (h1 a b c y)
      have h6 : ∀ t, t < T → I1 48 0 t = nI (frD T nb hu t) := fun t ht => (h4 48 0 t (by omega)).trans (h3 t ht)
      have h7 : ∀ t, I1 41 0 t = hvI (wN L s) (wkC L (SD J F T nb hu k) s) (J 41 0) m t := fun t => (h4 41 0 t (by omega)).trans (h2 t)
      rw [nI_s]
      refine ⟨fun y => sm_told hs (by omega) ?_, fun y => ?_⟩
      · have hy : wkC L (SD J F T nb hu k) s m := by show ¬ SD J F T nb hu k (wN L s m) m = -1; rw [ew]; exact y
        rw [e68 m (by omega), et']
        refine ⟨ti_in (by omega) (by omega), ti_in (by omega) (by omega), ?_⟩
        rw [ti_tn (by omega)]
        have ih := sm_walkL h hk hs xs ws g n (m + 1) (ui I1 41 0 t (I1 41 0 t + 1)) (by omega) (fun a b c z => by rw [ui_k (by omega)]; exact h5 a b c z) (fun u hu => by rw [ui_k (by decide)]; exact h6 u hu) (fun u => by
          by_cases q2 : u = t
          · subst q2; rw [ui_same, hvI_t ⟨hy, ew⟩, h7]
          · rw [ui_j q2, hvI_f (fun z => q2 (z.2.symm.trans ew)), h7])
        rw [cI_t hy] at ih; exact ih
      · have hn : ¬ wkC L (SD J F T nb hu k) s m := by show ¬ ¬ SD J F T nb hu k (wN L s m) m = -1; rw [ew]; exact fun z => z y
        have ih := sm_walkL h hk hs xs ws g n (m + 1) I1 (by omega) h5 h6 (fun u => by rw [hvI_f (fun z => hn z.1), h7])
        rw [cI_f hn] at ih; exact ih
  termination_by n => n
theorem jn_walk {G : m_I → m_L → Prop} {k s : Int32} (hx : cx P I L T hu bn nb X Z F) (h0 : G I L) (h : ∀ I', gF I' T nb → (∀ g, g ≠ 1 → g ≠ 0 → Qg g I I') → G I' L) :
    bt_WP P (d + 7) mi_B_walk [vr 0 0, vi k, vi s] (I, L) (kI fun x I1 L1 => bt_WP P (d + 7) mi_M_walk [vr 35 0, vi k, vi s] (I1, L1) (kI fun y I2 L2 => x = y ∧ G I2 L2)) := by
  have hso : oob k 4 → ∀ s', bt_WP P (d + 7) mi_M_walk [vr 35 0, vi k, vi s'] (I, L) (kI fun y I2 L2 => (-1) = y ∧ G I2 L2) := fun hk s' => ru_M_walk (sm_isSort_out hk ⟨fun _ => ⟨rfl, h0⟩, (fun z => absurd rfl z)⟩)
  rcases ix s 6 (by omega) with hs | ⟨s, hs, rfl⟩
  · rcases ix k 4 (by omega) with hk | ⟨k, hk, rfl⟩
    · exact ru_B_walk (sp_sAo hs (ru_B_walk_5 (sp_isSort_out hk ⟨fun _ => hso hk s, (fun z => absurd rfl z)⟩)))
    · exact ru_B_walk (sp_sAo hs (ru_B_walk_5 (sp_isSort_in hk ⟨(fun z => absurd z (by decide)), fun _ => ⟨(fun z => absurd rfl z), fun _ => ru_M_walk (sm_isSort_in hk ⟨(fun z => absurd z (by decide)), fun _ => sm_isShelf (bP_br' (fun z => absurd hs z) (fun _ => ⟨rfl, h0⟩))⟩)⟩⟩)))
  rcases ix k 4 (by omega) with hk | ⟨k, hk, rfl⟩
  · exact ru_B_walk (sp_sA hs (ru_B_walk_5_b (sp_isSort_out hk ⟨fun _ => hso hk (nI s), (fun z => absurd rfl z)⟩)))
  have hm : ∀ (J : m_I) (Q : Int32 → m_I → m_L → Prop), cw P J L T hu bn nb X Z F → (¬ 0 ≤ rfI (X s) → Q (rfI (X s)) J L) → (X s = some (.inr 0) → ¬ WK L T nb Z s → Q (-5) J L) → (X s = some (.inr 0) → WK L T nb Z s → ∀ I2, off48 J I2 → (∀ t, t < T → I2 48 0 t = nI (frD T nb hu t)) → bt_Go P (d + 6) mi_M_walk (kI Q) 50 [some (vr 35 0), some (vi (nI k)), some (vi (nI s)), some (vi 0), some (vi 0)] [] (I2, L)) → bt_WP P (d + 7) mi_M_walk [vr 35 0, vi (nI k), vi (nI s)] (J, L) (kI Q) := fun J Q q c1 c2 c3 => by
    refine ru_M_walk (sm_isSort_in hk ⟨(fun z => absurd z (by decide)), fun _ => sm_isShelf (bP_br' (fun _ => sm_rowFault hs (q.2.2.2.2.2.2 s hs) q.2.2.2.2.2.1 ⟨fun z => ?_, fun z => sm_rowFault hs (q.2.2.2.2.2.2 s hs) q.2.2.2.2.2.1 (c1 z)⟩) (fun z => absurd (n_oob hs (by omega)) z))⟩)
    have xs := (rf_le _).mp z
    have hx1 : gS1 J L bn s (some (.inr 0)) (Z s) := by have := q.2.2.2.2.2.2 s hs; rw [xs] at this; exact this
    exact sm_isWalk q.1 hs hx1 (bP_br' (fun w => sm_findFar q.1 q.2.2.2.2.1 q.2.2.2.1 (fun I2 g1 g2 => c3 xs w I2 g1 g2)) (fun w => c2 xs w))
  have hc0 : cw P I L T hu bn nb X Z F := cw_of hx (fun _ _ _ _ => rfl)
  refine ru_B_walk (sp_sA hs (ru_B_walk_5_b (sp_isSort_in hk ⟨(fun z => absurd z (by decide)), fun _ => ⟨fun _ => ?_, (fun z => by cases z)⟩⟩)))
  have ps := pow_lt256 (t := s) (T := 8) (by omega) (by omega)
  rw [nI_one (t := s) (by omega)]
  refine sp_walksRefusal hx.1.1 hx.2.1 (by omega) ?_
  rw [faI_ext (S' := fun i => i = s) (fun i => by
    rw [tb_1]
    exact ⟨fun z => z.2, fun z => ⟨by omega, z⟩⟩)]
  rcases faI_1 (X := X) (W := WK L T nb Z) (s := s) with ⟨y1, y2⟩ | ⟨y1, xs, ⟨ws, y2⟩ | ⟨ws, y2⟩⟩
  · rw [y2]
    refine ⟨fun z => absurd (show (0 : Int32) < 0 from z ▸ y1) (by decide), fun _ => hm I _ hc0 (fun _ => ⟨rfl, h0⟩) (fun xs _ => absurd xs ((rf_lt _).mp y1)) (fun xs _ => absurd xs ((rf_lt _).mp y1))⟩
  · rw [y2]
    refine ⟨fun _ => cx_fill hx hk (fun I1 q1 q2 => ?_), (fun z => absurd rfl z)⟩
    have q : Scr I L I1 L := offS_Scr q1
    have hx1 := cx_S hx q
    have eS1 : SD I1 F T nb hu k = SD I F T nb hu k := by unfold SD; rw [snd_S q]
    refine sp_walkL hx1 hs xs ws q2 (fun I2 c1 c2 => ?_) (min 24 (Z s)) 0 I1 (by omega) (fun _ _ _ _ => rfl) (fun t => rfl)
    have hJ : ∀ a b c, ¬ (a = 6 ∨ (a = 1 ∧ c = 6)) → (ui I2 1 0 6 (I2 1 0 6 + 1)) a b c = I1 a b c := fun a b c z => by
      by_cases e1 : a = 1
      · rw [ui_j (fun e => z (Or.inr ⟨e1, e⟩))]; exact c1 a b c (fun e => z (Or.inl e))
      · rw [ui_k e1]; exact c1 a b c (fun e => z (Or.inl e))
    have hJ6 : ∀ t, (ui I2 1 0 6 (I2 1 0 6 + 1)) 6 0 t = hvI (wN L s) (wkC L (SD I F T nb hu k) s) (I1 6 0) (min 24 (Z s)) t := fun t => by rw [ui_k (by decide)]; exact c2 t
    have hJ1 : (ui I2 1 0 6 (I2 1 0 6 + 1)) 1 0 6 = I1 1 0 6 + 1 := by rw [ui_same, c1 1 0 6 (by decide)]
    generalize hJe : ui I2 1 0 6 (I2 1 0 6 + 1) = J at *
    have hcJ := cw_of hx1 hJ
    have eSJ : SD J F T nb hu k = SD I F T nb hu k := by rw [← eS1]; unfold SD; rw [snd_3 (fun b c => hJ 3 b c (by omega))]
    refine hm J _ hcJ (fun z => absurd ((rf_le _).mpr xs) z) (fun _ w => absurd ws w) (fun _ _ I3 g1 g2 => ?_)
    refine sm_walkL hcJ hk hs xs ws (fun I4 g3 g4 => ⟨by rw [eSJ], ?_⟩) (min 24 (Z s)) 0 I3 (by omega) (fun a b c z => g1 a b c (fun y => z (Or.inl y))) g2 (fun t => g1 41 0 t (by decide))
    rw [eSJ] at g4
    have hF1 := hx1.1
    have h5 : ∀ a b c, ¬ (a = 48 ∨ a = 55 ∨ a = 56 ∨ a = 41 ∨ (a = 35 ∧ c = 9) ∨ a = 6 ∨ (a = 1 ∧ c = 6)) → (ui I4 35 0 9 (I4 35 0 9 + 1)) a b c = I1 a b c := fun a b c z => by
      have e2 : (ui I4 35 0 9 (I4 35 0 9 + 1)) a b c = I4 a b c := by
        by_cases e1 : a = 35
        · exact ui_j (fun e => z (by omega))
        · exact ui_k e1
      rw [e2, g3 a b c (by omega), hJ a b c (by omega)]
    have h6 : ∀ t, (ui I4 35 0 9 (I4 35 0 9 + 1)) 6 0 t = hvI (wN L s) (wkC L (SD I F T nb hu k) s) (I1 6 0) (min 24 (Z s)) t := fun t => by rw [ui_k (by decide), g3 6 0 t (by omega)]; exact hJ6 t
    have h7 : ∀ t, (ui I4 35 0 9 (I4 35 0 9 + 1)) 41 0 t = hvI (wN L s) (wkC L (SD I F T nb hu k) s) (I1 41 0) (min 24 (Z s)) t := fun t => by
      rw [ui_k (by decide), g4 t]
      exact hvI_c (hJ 41 0 t (by omega)) _
    have h8 : (ui I4 35 0 9 (I4 35 0 9 + 1)) 1 0 6 = I1 1 0 6 + 1 := by rw [ui_k (by decide), g3 1 0 6 (by omega), hJ1]
    have h9 : (ui I4 35 0 9 (I4 35 0 9 + 1)) 35 0 9 = I1 35 0 9 + 1 := by rw [ui_same, g3 35 0 9 (by omega), hJ 35 0 9 (by omega)]
    generalize hKe : ui I4 35 0 9 (I4 35 0 9 + 1) = K at *
    obtain ⟨hiF, hjF, hsy, hV, b1, b2, b3, b4, b5⟩ := hF1
    have hT8 := hiF.2.1
    refine h K ⟨⟨by rw [h5 1 0 4 (by omega)]; exact hiF.1, hT8, fun t ht => by rw [h5 4 0 t (by omega)]; exact hiF.2.2.1 t ht, hiF.2.2.2⟩, ⟨by rw [h5 35 0 1 (by omega)]; exact hjF.1, hT8, fun t ht => by rw [h5 40 0 t (by omega)]; exact hjF.2.2.1 t ht, hjF.2.2.2⟩, hsy, gV_c hV (fun b c => h5 3 b c (by omega)) (fun a c a1 a2 a3 a4 => h5 a 0 c (by omega)) (h5 35 0 12 (by omega)) (h5 35 0 13 (by omega)), fun t ht => ?_, fun t ht ht8 => ?_, ?_, ?_, ?_⟩ (fun gg n1 n0 => ?_)
    · rw [h6, h7]; exact hvI_c (b1 t ht) _
    · rw [h6, hvI_o _ (fun i hi => ?_)]
      · exact b2 t ht ht8
      · obtain ⟨u, hu, eu⟩ := WK_lt ws hi
        show ¬ tn (vL L s i) = t
        rw [eu, ti_tn (by omega)]; omega
    · rw [h5 35 0 8 (by omega), h5 1 0 5 (by omega)]; exact b3
    · rw [h5 1 0 5 (by omega)]; exact b4
    · rw [h9, h8, b5]
    · refine Qg_tr (Qg_scr q n0) (fun a b c e => h5 a b c (fun z => ?_))
      rcases z with rfl | rfl | rfl | rfl | ⟨rfl, rfl⟩ | rfl | ⟨rfl, rfl⟩
      · exact n0 e.symm
      · exact n0 e.symm
      · exact n0 e.symm
      · exact n1 e.symm
      · exact n1 e.symm
      · exact n1 e.symm
      · exact n1 e.symm
  · rw [y2]
    exact ⟨(fun z => absurd z (by decide)), fun _ => hm I _ hc0 (fun z => absurd ((rf_le _).mpr xs) z) (fun _ _ => ⟨rfl, h0⟩) (fun _ w => absurd w ws)⟩
end WAK
