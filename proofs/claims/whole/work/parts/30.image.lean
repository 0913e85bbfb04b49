/-! image: joint -/
/-- rows drawn as far as a place, from a forest's cells (k0, k2, k3 the pitch, hangs, there rows with their numbers; kh the heard row) -/
def imC (I0 I : m_I) (T n : Nat) : Prop := (∀ u, u < n → u < T → I 25 0 u = I0 3 0 u ∧ I 26 0 u = I0 3 2 u ∧ I 27 0 u = I0 3 3 u ∧ I 28 0 u = I0 6 0 u) ∧ ∀ a b c, ¬ (25 ≤ a ∧ a ≤ 28) → I a b c = I0 a b c
theorem sp_draw {P : bt_PT} {d : Nat} {f : Int32 → m_I → m_L → Prop} {I0 : m_I} {L : m_L} {T : Nat} (hT : I0 1 0 4 = nI T) (hT8 : T ≤ 8) (h : ∀ I, imC I0 I T 8 → f (I0 24 0 5) I L) : ∀ (m n : Nat) (I : m_I), n + m = 8 → imC I0 I T n → bt_Go P (d + 4) mi_Im_draw (kI f) 23 [some (vr 24 0), some (vr 1 0), some (vi (nI n))] [] (I, L)
  | 0, n, I, e, h1 => by
    have e : n = 8 := by omega
    subst e
    refine ru_Im_draw_23 ⟨fun _ => ?_, fun z => absurd (show (8 : Int32) ≤ nI 8 by decide) z⟩
    rw [h1.2 24 0 5 (by decide)]; exact h I h1
  | m + 1, n, I, e, h1 => by
    have l8 : (8 : Int32) ≤ nI n ↔ 8 ≤ n := nle (a := 8) (by omega) (by omega)
    have hTT : ∀ J : m_I, (∀ a b c, ¬ (25 ≤ a ∧ a ≤ 28) → J a b c = I0 a b c) → J 1 0 4 = nI T := fun J hJ => by rw [hJ 1 0 4 (by decide)]; exact hT
    have hv : vp_in (nI n) 8 := ti_in (by omega) (by omega)
    have et : tn (nI n) = n := ti_tn (by omega)
    have step : ∀ (w : Nat) (J : m_I) (Q : Int32 → m_I → m_L → Prop), (w = 0 ∨ w = 2 ∨ w = 3) → (∀ a b c, ¬ (25 ≤ a ∧ a ≤ 28) → J a b c = I0 a b c) → (∀ x, (n < T → x = I0 3 w n) → Q x J L) → bt_WP P (d + 4) mi_Fo_get [vr 1 0, vi (nI w), vi (nI n)] (J, L) (kI Q) := fun w J Q hw hJ hq => by
      have sl : slN T w = T := by unfold slN; rw [if_pos (by omega)]
      rcases Nat.lt_or_ge n T with q | q
      · exact sp_get (hTT J hJ) hT8 (by omega) (by rw [sl]; exact q) (hq _ (fun _ => hJ 3 w n (by decide)))
      · exact sp_get_out (hTT J hJ) (by omega) (by rw [sl]; exact Or.inr ((nle (by omega) (by omega)).mpr q)) (hq _ (fun z => absurd z (by omega)))
    have hh : ∀ (J : m_I) (Q : Int32 → m_I → m_L → Prop), (∀ a b c, ¬ (25 ≤ a ∧ a ≤ 28) → J a b c = I0 a b c) → (∀ x, (n < T → x = I0 6 0 n) → Q x J L) → bt_WP P (d + 4) mi_Fo_heardOf [vr 1 0, vi (nI n)] (J, L) (kI Q) := fun J Q hJ hq => by
      rcases Nat.lt_or_ge n T with q | q
      · exact sp_heardOf (hTT J hJ) hT8 q (hq _ (fun _ => hJ 6 0 n (by decide)))
      · exact sp_heardOf_out (hTT J hJ) (Or.inr ((nle (by omega) (by omega)).mpr q)) (hq _ (fun z => absurd z (by omega)))
    refine ru_Im_draw_23 ⟨fun z => absurd (l8.mp z) (by omega), fun _ => step 0 _ _ (Or.inl rfl) h1.2 (fun x0 e0 => ⟨hv, ?_⟩)⟩
    rw [et]
    refine step 2 _ _ (Or.inr (Or.inl rfl)) (fun a b c ha => by rw [ui_k (by omega)]; exact h1.2 a b c ha) (fun x2 e2 => ⟨hv, ?_⟩)
    refine step 3 _ _ (Or.inr (Or.inr rfl)) (fun a b c ha => by rw [ui_k (by omega), ui_k (by omega)]; exact h1.2 a b c ha) (fun x3 e3 => ⟨hv, ?_⟩)
    refine hh _ _ (fun a b c ha => by rw [ui_k (by omega), ui_k (by omega), ui_k (by omega)]; exact h1.2 a b c ha) (fun x6 e6 => ⟨hv, ?_⟩)
    rw [nI_s]
    refine sp_draw hT hT8 h m (n + 1) _ (by omega) ⟨fun u hu hT' => ?_, fun a b c ha => by rw [ui_k (by omega), ui_k (by omega), ui_k (by omega), ui_k (by omega)]; exact h1.2 a b c ha⟩
    by_cases q : u = n
    · subst q
      simp (disch := first | decide | assumption) only [ui_k, ui_j, ui_same]
      exact ⟨e0 hT', e2 hT', e3 hT', e6 hT'⟩
    · simp (disch := first | decide | assumption) only [ui_k, ui_j, ui_same]
      exact h1.1 u (by omega) hT'
def imM (I0 I : m_I) (T n : Nat) : Prop := (∀ u, u < n → u < T → I 60 0 u = I0 36 0 u ∧ I 61 0 u = I0 38 0 u ∧ I 62 0 u = I0 39 0 u ∧ I 63 0 u = I0 41 0 u) ∧ ∀ a b c, ¬ (60 ≤ a ∧ a ≤ 63) → I a b c = I0 a b c
theorem sm_image {P : bt_PT} {d : Nat} {f : Int32 → m_I → m_L → Prop} {I0 : m_I} {L : m_L} {T : Nat} (hT : I0 35 0 1 = nI T) (hT8 : T ≤ 8) (h : ∀ I, imM I0 I T T → f (nI T) I L) : ∀ (m n : Nat) (I : m_I), n + m = T → imM I0 I T n → bt_Go P d mi_M_image (kI f) 18 [some (vr 35 0), some (vi (nI n))] [] (I, L)
  | 0, n, I, e, h1 => by
    have e : n = T := by omega
    subst e
    refine ru_M_image_18 ?_
    rw [h1.2 35 0 1 (by decide), hT]
    exact ⟨fun _ => h I h1, fun z => absurd (Int32.le_refl _) z⟩
  | m + 1, n, I, e, h1 => by
    have hv : vp_in (nI n) 8 := ti_in (by omega) (by omega)
    have et : tn (nI n) = n := ti_tn (by omega)
    refine ru_M_image_18 ⟨fun z => ?_, fun _ => ⟨hv, hv, hv, hv, hv, hv, hv, hv, ?_⟩⟩
    · rw [h1.2 35 0 1 (by decide), hT, nle (by omega) (by omega)] at z; omega
    rw [et, nI_s]
    refine sm_image hT hT8 h m (n + 1) _ (by omega) ⟨fun u hu hT' => ?_, fun a b c ha => by rw [ui_k (by omega), ui_k (by omega), ui_k (by omega), ui_k (by omega)]; exact h1.2 a b c ha⟩
    by_cases q : u = n
    · subst q
      simp (disch := first | decide | assumption) only [ui_k, ui_j, ui_same]
      exact ⟨h1.2 36 0 u (by decide), h1.2 38 0 u (by decide), h1.2 39 0 u (by decide), h1.2 41 0 u (by decide)⟩
    · simp (disch := first | decide | assumption) only [ui_k, ui_j, ui_same]
      exact h1.1 u (by omega) hT'
theorem gp3_no {a c : Nat} (h : gp a c ≠ 3) : a ≠ 24 ∧ ¬ (25 ≤ a ∧ a ≤ 28) ∧ ¬ (60 ≤ a ∧ a ≤ 63) ∧ ¬ (a = 35 ∧ (c = 39 ∨ c = 40)) := by
  refine ⟨fun e => ?_, fun e => ?_, fun e => ?_, fun e => ?_⟩
  · subst e; exact h rfl
  · have : a = 25 ∨ a = 26 ∨ a = 27 ∨ a = 28 := by omega
    rcases this with rfl | rfl | rfl | rfl <;> exact h rfl
  · have : a = 60 ∨ a = 61 ∨ a = 62 ∨ a = 63 := by omega
    rcases this with rfl | rfl | rfl | rfl <;> exact h rfl
  · obtain ⟨rfl, rfl | rfl⟩ := e <;> exact h rfl
theorem jn_image {P : bt_PT} {d : Nat} {G : m_I → m_L → Prop} {I : m_I} {L : m_L} {T : Nat} {nb : Nat → Nat} (hF : gF I T nb) (h : ∀ I', gI I' T → (∀ g, g ≠ 3 → Qg g I I') → G I' L) :
    bt_WP P (d + 6) mi_B_image [vr 0 0] (I, L) (kI fun x I1 L1 => bt_WP P (d + 6) mi_M_image [vr 35 0] (I1, L1) (kI fun y I2 L2 => x = y ∧ G I2 L2)) := by
  have hT8 := hF.1.2.1
  have hcT := hF.1.1
  have hmT := hF.2.1.1
  refine ru_B_image (ru_Im_draw ⟨o01, ru_Fo_size (ru_Fo_walked ?_)⟩)
  simp (disch := decide) only [ui_k, hcT]
  refine sp_draw (I0 := ui (ui (ui I 24 0 4 1) 24 0 5 (nI T)) 24 0 6 (I 1 0 6)) (T := T) (by rw [ui_k (by decide), ui_k (by decide), ui_k (by decide)]; exact hcT) hT8 (fun I1 h1 => ?_) 8 0 _ rfl ⟨fun u hu => by omega, fun _ _ _ _ => rfl⟩
  have u1 : ∀ a b c, a ≠ 24 → ¬ (25 ≤ a ∧ a ≤ 28) → I1 a b c = I a b c := fun a b c n1 n2 => by rw [h1.2 a b c n2, ui_k n1, ui_k n1, ui_k n1]
  rw [ui_j (by decide), ui_same]
  refine ru_M_image ?_
  rw [u1 35 0 1 (by decide) (by decide), hmT, ui_j (by decide), u1 35 0 9 (by decide) (by decide)]
  refine sm_image (I0 := ui (ui I1 35 0 39 (nI T)) 35 0 40 (I 35 0 9)) (by rw [ui_j (by decide), ui_j (by decide), u1 35 0 1 (by decide) (by decide)]; exact hmT) hT8 (fun I2 h2 => ⟨rfl, ?_⟩) T 0 _ (by omega) ⟨fun u hu => by omega, fun _ _ _ _ => rfl⟩
  have u2 : ∀ a b c, ¬ (60 ≤ a ∧ a ≤ 63) → ¬ (a = 35 ∧ (c = 39 ∨ c = 40)) → I2 a b c = I1 a b c := fun a b c n1 n2 => by rw [h2.2 a b c n1, uj_ne (fun z => n2 ⟨z.1, Or.inr z.2.2⟩), uj_ne (fun z => n2 ⟨z.1, Or.inl z.2.2⟩)]
  have r1 : ∀ a b c, a = 24 → I2 a b c = (ui (ui (ui I 24 0 4 1) 24 0 5 (nI T)) 24 0 6 (I 1 0 6)) a b c := fun a b c e => by rw [u2 a b c (by omega) (by omega), h1.2 a b c (by omega)]
  refine h I2 (Or.inr ⟨T, Nat.le_refl _, ?_, ?_, ?_, ?_, fun t ht => ?_⟩) (fun g hg a b c e => ?_)
  · rw [r1 24 0 4 rfl, ui_j (by decide), ui_j (by decide), ui_same]
  · rw [r1 24 0 5 rfl, ui_j (by decide), ui_same]
  · rw [h2.2 35 0 39 (by decide), ui_j (by decide), ui_same]
  · rw [h2.2 35 0 40 (by decide), ui_same, r1 24 0 6 rfl, ui_same]; exact hF.2.2.2.2.2.2.2.2
  · obtain ⟨a0, a2, a3, a6⟩ := h1.1 t (by omega) ht
    obtain ⟨b0, b2, b3, b6⟩ := h2.1 t ht ht
    have hs : ∀ w, w < 4 → t < slN T w := fun w hw => by unfold slN; rw [if_pos hw]; exact ht
    have v0 := hF.2.2.2.1 0 t (by omega) (hs 0 (by omega))
    have v2 := hF.2.2.2.1 2 t (by omega) (hs 2 (by omega))
    have v3 := hF.2.2.2.1 3 t (by omega) (hs 3 (by omega))
    have vh := hF.2.2.2.2.1 t ht
    simp (disch := decide) only [ui_k] at a0 a2 a3 a6 b0 b2 b3 b6
    rw [u1 _ _ _ (by decide) (by decide)] at b0 b2 b3 b6
    unfold gJ
    rw [b0, b2, b3, b6, u2 25 0 t (by decide) (by omega), u2 26 0 t (by decide) (by omega), u2 27 0 t (by decide) (by omega), u2 28 0 t (by decide) (by omega), a0, a2, a3, a6]
    exact ⟨v0.1, v2.1, v3.1, vh, v0.2, v2.2, v3.2⟩
  · obtain ⟨p1, p2, p3, p4⟩ := gp3_no (a := a) (c := c) (by rw [e]; exact hg)
    rw [u2 a b c p3 p4, u1 a b c p1 p2]
