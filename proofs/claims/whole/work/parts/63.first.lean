/-! WALKS THAT FIT: the first, and where one can be; the class -/
abbrev fbC (g : Nat → Nat) (b : Nat) : Nat → Prop := fun t => b.testBit t = true ∧ 0 < g t
noncomputable def fbN (g : Nat → Nat) (b : Nat) : Nat := bsN (fun t => t) (fbC g b) 8
theorem fb_bit {g : Nat → Nat} {b t : Nat} : (fbN g b).testBit t = true ↔ t < 8 ∧ b.testBit t = true ∧ 0 < g t := by
  unfold fbN
  rw [bsN_bit]
  exact ⟨fun ⟨m, h1, h2, h3⟩ => by subst h2; exact ⟨h1, h3⟩, fun ⟨h1, h3⟩ => ⟨t, h1, rfl, h3⟩⟩
theorem fb_256 {g : Nat → Nat} {b : Nat} : fbN g b < 256 := bsN_lt 8 (fun m hm => hm)
theorem fb_T {g : Nat → Nat} {b T : Nat} (hb : b < 2 ^ T) : fbN g b < 2 ^ T := by
  refine Nat.lt_pow_two_of_testBit _ (fun i hi => ?_)
  cases h : (fbN g b).testBit i with
  | false => rfl
  | true => exact absurd (fb_bit.mp h).2.1 (bit_T hb i hi)
theorem fb_ext {g g' : Nat → Nat} {b T : Nat} (hb : b < 2 ^ T) (h : ∀ t, t < T → g t = g' t) : fbN g b = fbN g' b := by
  unfold fbN
  refine bsN_ext 8 (fun t ht => ?_)
  constructor
  · rintro ⟨h1, h2⟩
    have : t < T := by
      rcases Nat.lt_or_ge t T with y | y
      · exact y
      · exact absurd h1 (bit_T hb t y)
    exact ⟨h1, by rw [← h t this]; exact h2⟩
  · rintro ⟨h1, h2⟩
    have : t < T := by
      rcases Nat.lt_or_ge t T with y | y
      · exact y
      · exact absurd h1 (bit_T hb t y)
    exact ⟨h1, by rw [h t this]; exact h2⟩
def lwN (b : Nat) : Nat → Nat → Nat
  | 0, t => t
  | k + 1, t => if b.testBit t = true then t else lwN b k (t + 1)
theorem lwN_s {b : Nat} : ∀ (k t : Nat), (∃ u, t ≤ u ∧ u < t + k ∧ b.testBit u = true) → b.testBit (lwN b k t) = true ∧ t ≤ lwN b k t ∧ lwN b k t < t + k ∧ ∀ u, t ≤ u → u < lwN b k t → ¬ b.testBit u = true
  | 0, t, ⟨u, h1, h2, _⟩ => by omega
  | k + 1, t, h => by
    by_cases q : b.testBit t = true
    · have e : lwN b (k + 1) t = t := by
        show (if _ then _ else _) = _
        rw [if_pos q]
      rw [e]
      exact ⟨q, Nat.le_refl _, by omega, fun u h1 h2 => by omega⟩
    · have e : lwN b (k + 1) t = lwN b k (t + 1) := by
        show (if _ then _ else _) = _
        rw [if_neg q]
      rw [e]
      obtain ⟨u, h1, h2, h3⟩ := h
      have hu : ¬ u = t := fun z => by subst z; exact q h3
      obtain ⟨a1, a2, a3, a4⟩ := lwN_s k (t + 1) ⟨u, by omega, by omega, h3⟩
      refine ⟨a1, by omega, by omega, fun v b1 b2 => ?_⟩
      by_cases e : v = t
      · subst e; exact q
      · exact a4 v (by omega) b2
noncomputable def gaN (on : Nat → Nat → Nat) (nb : Nat → Nat) (all : Nat) : Nat → Nat
  | 0 => lwN (fbN (on 0) all) 8 0
  | m + 1 => lwN (fbN (on (m + 1)) (arN nb (gaN on nb all m))) 8 0
/-- the trees open at a minute -/
noncomputable def opG (on : Nat → Nat → Nat) (nb : Nat → Nat) (all : Nat) : Nat → Nat
  | 0 => all
  | m + 1 => arN nb (gaN on nb all m)
theorem ga_e {on : Nat → Nat → Nat} {nb : Nat → Nat} {all : Nat} (m : Nat) : gaN on nb all m = lwN (fbN (on m) (opG on nb all m)) 8 0 := by cases m <;> rfl
section FST
variable {P : bt_PT} {d : Nat} {f : Int32 → m_I → m_L → Prop} {I0 I : m_I} {L : m_L} {T hu bn : Nat} {nb : Nat → Nat} {X : Nat → sH} {Z : Nat → Nat} {F : lF}
theorem ga_s {fit : Nat → Nat → Prop} {n : Nat} (hT8 : T ≤ 8) (hn : 0 < n) (hp : 0 < csN (onN fit nb T n 0) (2 ^ T - 1) T) : ∀ m, m < n → (∃ u, u < T ∧ (fbN (onN fit nb T n m) (opG (onN fit nb T n) nb (2 ^ T - 1) m)).testBit u = true) ∧ (gaN (onN fit nb T n) nb (2 ^ T - 1) m < T ∧ (opG (onN fit nb T n) nb (2 ^ T - 1) m).testBit (gaN (onN fit nb T n) nb (2 ^ T - 1) m) = true ∧ 0 < onN fit nb T n m (gaN (onN fit nb T n) nb (2 ^ T - 1) m) ∧ ∀ u, u < gaN (onN fit nb T n) nb (2 ^ T - 1) m → ¬ ((opG (onN fit nb T n) nb (2 ^ T - 1) m).testBit u = true ∧ 0 < onN fit nb T n m u)) := by
  intro m
  have hstep : ∀ m, (∃ u, u < T ∧ (fbN (onN fit nb T n m) (opG (onN fit nb T n) nb (2 ^ T - 1) m)).testBit u = true) → (gaN (onN fit nb T n) nb (2 ^ T - 1) m < T ∧ (opG (onN fit nb T n) nb (2 ^ T - 1) m).testBit (gaN (onN fit nb T n) nb (2 ^ T - 1) m) = true ∧ 0 < onN fit nb T n m (gaN (onN fit nb T n) nb (2 ^ T - 1) m) ∧ ∀ u, u < gaN (onN fit nb T n) nb (2 ^ T - 1) m → ¬ ((opG (onN fit nb T n) nb (2 ^ T - 1) m).testBit u = true ∧ 0 < onN fit nb T n m u)) := fun m hu => by
    rw [ga_e m]
    obtain ⟨u, hu1, hu2⟩ := hu
    obtain ⟨a1, a2, a3, a4⟩ := lwN_s (b := fbN (onN fit nb T n m) (opG (onN fit nb T n) nb (2 ^ T - 1) m)) 8 0 ⟨u, by omega, by omega, hu2⟩
    obtain ⟨b1, b2, b3⟩ := fb_bit.mp a1
    refine ⟨?_, b2, b3, fun v hv z => a4 v (by omega) hv (fb_bit.mpr ⟨by omega, z⟩)⟩
    rcases Nat.lt_or_ge (lwN (fbN (onN fit nb T n m) (opG (onN fit nb T n) nb (2 ^ T - 1) m)) 8 0) T with y | y
    · exact y
    · exact absurd hu2 (a4 u (by omega) (by omega))
  induction m with
  | zero =>
    intro hm
    have h0 : ∃ u, u < T ∧ (fbN (onN fit nb T n 0) (opG (onN fit nb T n) nb (2 ^ T - 1) 0)).testBit u = true := by
      obtain ⟨o, h1, h2, h3⟩ := (csN_pos T).mp hp
      exact ⟨o, h1, fb_bit.mpr ⟨by omega, h2, h3⟩⟩
    exact ⟨h0, hstep 0 h0⟩
  | succ m ih =>
    intro hm
    obtain ⟨-, h1, -, h3, -⟩ := ih (by omega)
    have h0 : ∃ u, u < T ∧ (fbN (onN fit nb T n (m + 1)) (opG (onN fit nb T n) nb (2 ^ T - 1) (m + 1))).testBit u = true := by
      rw [onN_s (onN_fit (by omega) h3) (by omega)] at h3
      obtain ⟨o, g1, g2, g3⟩ := (csN_pos T).mp h3
      exact ⟨o, g1, fb_bit.mpr ⟨by omega, g2, g3⟩⟩
    exact ⟨h0, hstep (m + 1) h0⟩
theorem sp_fittingL (hT : I 1 0 4 = nI T) (hT8 : T ≤ 8) {g : Nat → Nat} {m b : Nat} (hm : m < 24) (hb : b < 2 ^ T) (hg : ∀ o, o < T → g o ≤ 999999999 ∧ I 18 m o = nI (g o)) (h : f (nI (fbN g b)) I L) : ∀ (k o : Nat), o + k = 8 → bt_Go P (d + 2) mi_Wa_fittingOf (kI f) 5 [some (vr 16 0), some (vi (nI m)), some (vi (nI b)), some (vi (nI (bsN (fun t => t) (fbC g b) o))), some (vi (nI o))] [] (I, L)
  | 0, o, e => by
    have e : o = 8 := by omega
    subst e
    exact ru_Wa_fittingOf_5 ⟨fun _ => h, fun q => absurd (show (8 : Int32) ≤ nI 8 by decide) q⟩
  | k + 1, o, e => by
    have ih := sp_fittingL hT hT8 hm hb hg h k (o + 1) (by omega)
    have p8 : 2 ^ T ≤ 2 ^ 8 := Nat.pow_le_pow_right (by omega) hT8
    have p256 : 2 ^ 8 = 256 := rfl
    refine ru_Wa_fittingOf_5 ⟨fun q => absurd ((nle (a := 8) (by omega) (by omega)).mp q) (by omega), fun _ => ?_⟩
    rw [nI_bit (by omega) (by omega), nI_s, nI_one (by omega), nI_or]
    refine bP_br (fun q => ?_) (fun q => ?_)
    · rw [bsN_f (c := fbC g b) (fun z => q z.1)] at ih; exact ih
    · have ho : o < T := by
        rcases Nat.lt_or_ge o T with y | y
        · exact y
        · exact absurd q (bit_T hb o y)
      obtain ⟨g1, g2⟩ := hg o ho
      refine sp_onAt hT hT8 hm ho ?_
      rw [g2]
      refine ⟨fun z => ?_, fun z => ?_⟩
      · have := (nle (b := 0) (by omega) (by omega)).mp z
        rw [bsN_f (c := fbC g b) (fun z => by have := z.2; omega)] at ih; exact ih
      · have : ¬ g o ≤ 0 := fun y => z ((nle (b := 0) (by omega) (by omega)).mpr y)
        rw [bsN_t (c := fbC g b) ⟨q, by omega⟩] at ih; exact ih
theorem sp_fittingOf (hT : I 1 0 4 = nI T) (hT8 : T ≤ 8) {g : Nat → Nat} {m b : Nat} (hm : m < 24) (hb : b < 2 ^ T) (hg : ∀ o, o < T → g o ≤ 999999999 ∧ I 18 m o = nI (g o)) (h : f (nI (fbN g b)) I L) : bt_WP P (d + 3) mi_Wa_fittingOf [vr 16 0, vi (nI m), vi (nI b)] (I, L) (kI f) :=
  ru_Wa_fittingOf (sp_fittingL hT hT8 hm hb hg h 8 0 rfl)
theorem sp_lowestL {b : Nat} (hb : b < 256) : ∀ (k t : Nat), t + k = 8 → (∃ u, t ≤ u ∧ u < 8 ∧ b.testBit u = true) → f (nI (lwN b k t)) I L → bt_Go P d mi_Wa_lowestOf (kI f) 2 [some (vi (nI b)), some (vi (nI t))] [] (I, L)
  | 0, t, e, ⟨u, h1, h2, _⟩, _ => by omega
  | k + 1, t, e, hu, h => by
    refine ru_Wa_lowestOf_2 ⟨fun q => absurd ((nle (a := 8) (by omega) (by omega)).mp q) (by omega), fun _ => ?_⟩
    rw [nI_bit (by omega) (by omega), nI_s]
    unfold lwN at h
    refine bP_br (fun q => ?_) (fun q => ?_)
    · rw [if_neg q] at h
      obtain ⟨u, h1, h2, h3⟩ := hu
      have hu : ¬ u = t := fun z => by subst z; exact q h3
      exact sp_lowestL hb k (t + 1) (by omega) ⟨u, by omega, h2, h3⟩ h
    · rw [if_pos q] at h; exact h
theorem sp_firstL (h : cx P I L T hu bn nb X Z F) {fit : Nat → Nat → Prop} {n M : Nat} (hn : n ≤ 24) (hM : M < n) (hon : ∀ m o, m < n → o < T → I 18 m o = nI (onN fit nb T n m o)) (hp : 0 < csN (onN fit nb T n 0) (2 ^ T - 1) T) (g : f (nI (gaN (onN fit nb T n) nb (2 ^ T - 1) M)) I L) : ∀ (k m : Nat) (tv : Int32), m + k = M + 1 → (∀ m', m = m' + 1 → tv = nI (gaN (onN fit nb T n) nb (2 ^ T - 1) m')) → bt_Go P (d + 3) mi_Wa_firstAt (kI f) 14 [some (vr 16 0), some (vi (nI M)), some (vi tv), some (vi (nI (opG (onN fit nb T n) nb (2 ^ T - 1) m))), some (vi (nI m))] [] (I, L)
  | 0, m, tv, e, htv => by
    have e : m = M + 1 := by omega
    rw [htv M e]
    exact ru_Wa_firstAt_14 ⟨fun _ => g, fun q => absurd ((nlt (by omega) (by omega)).mpr (by omega)) q⟩
  | k + 1, m, tv, e, htv => by
    obtain ⟨hT, hT8⟩ := cx_T h
    have hop : opG (onN fit nb T n) nb (2 ^ T - 1) m < 2 ^ T := by
      cases m with
      | zero => have := Nat.two_pow_pos T; show 2 ^ T - 1 < 2 ^ T; omega
      | succ m => exact ar_T h.1.1 (ga_s hT8 (by omega) hp m (by omega)).2.1
    obtain ⟨⟨u, hu1, hu2⟩, a1, a2, a3, a4⟩ := ga_s hT8 (by omega) hp m (by omega)
    have ih := sp_firstL h hn hM hon hp g k (m + 1) (nI (gaN (onN fit nb T n) nb (2 ^ T - 1) m)) (by omega) (fun m' em => by rw [show m' = m by omega])
    have hfb := fb_256 (g := onN fit nb T n m) (b := opG (onN fit nb T n) nb (2 ^ T - 1) m)
    refine ru_Wa_firstAt_14 ⟨fun q => absurd ((nlt (by omega) (by omega)).mp q) (by omega), fun _ => ⟨fun q => absurd ((nle (a := 24) (by omega) (by omega)).mp q) (by omega), fun _ => sp_fittingOf (g := onN fit nb T n m) hT hT8 (by omega) hop (fun o ho => ⟨onN_le (by omega), hon m o (by omega) ho⟩) ⟨fun _ => ?_, fun q => ?_⟩⟩⟩
    · refine ru_Wa_lowestOf (sp_lowestL hfb 8 0 rfl ⟨u, by omega, by omega, hu2⟩ ?_)
      rw [← ga_e m]
      refine sp_around h.1.1 a1 ?_
      rw [nI_s]; exact ih
    · have := (neq (b := 0) (by omega) (by omega)).mp q
      rw [this, Nat.zero_testBit] at hu2; cases hu2
theorem sp_firstAt (h : cx P I L T hu bn nb X Z F) {fit : Nat → Nat → Prop} {n M : Nat} (hn : n ≤ 24) (hM : M < n) (hon : ∀ m o, m < n → o < T → I 18 m o = nI (onN fit nb T n m o)) (g1 : 0 < csN (onN fit nb T n 0) (2 ^ T - 1) T → f (nI (gaN (onN fit nb T n) nb (2 ^ T - 1) M)) I L) (g0 : csN (onN fit nb T n 0) (2 ^ T - 1) T = 0 → f (-2) I L) : bt_WP P (d + 4) mi_Wa_firstAt [vr 16 0, vi (nI M)] (I, L) (kI f) := by
  obtain ⟨hT, hT8⟩ := cx_T h
  refine ru_Wa_firstAt (sp_all hT hT8 ?_)
  by_cases q : csN (onN fit nb T n 0) (2 ^ T - 1) T = 0
  · have := Nat.two_pow_pos T
    refine ru_Wa_firstAt_14 ⟨fun q => absurd ((nlt (b := 0) (by omega) (by omega)).mp q) (by omega), fun _ => ⟨fun q => absurd q (by decide), fun _ => sp_fittingOf (m := 0) (g := onN fit nb T n 0) hT hT8 (by omega) (by omega) (fun o ho => ⟨onN_le (by omega), hon 0 o (by omega) ho⟩) ⟨fun z => absurd ?_ z, fun _ => g0 q⟩⟩⟩
    have e : fbN (onN fit nb T n 0) (2 ^ T - 1) = 0 := by
      apply Nat.eq_of_testBit_eq
      intro i
      rw [Nat.zero_testBit]
      cases hb : (fbN (onN fit nb T n 0) (2 ^ T - 1)).testBit i with
      | false => rfl
      | true =>
        obtain ⟨b1, b2, b3⟩ := fb_bit.mp hb
        rw [Nat.testBit_two_pow_sub_one, decide_eq_true_iff] at b2
        have := (csN_pos (g := onN fit nb T n 0) (b := 2 ^ T - 1) T).mpr ⟨i, b2, by rw [Nat.testBit_two_pow_sub_one, decide_eq_true b2], b3⟩
        omega
    rw [e]; rfl
  · exact sp_firstL h hn hM hon (by omega) (g1 (by omega)) (M + 1) 0 (-2) (by omega) (fun m' em => by omega)
/-- where one can be, as the class goes -/
noncomputable def poN (on : Nat → Nat → Nat) (nb : Nat → Nat) (T all : Nat) : Nat → Nat
  | 0 => fbN (on 0) all
  | m + 1 => fbN (on (m + 1)) (nxS (arN nb) (poN on nb T all m) 8)
theorem nx_T (hF : iF I T nb) {b : Nat} (hb : b < 2 ^ T) : ∀ t, nxS (arN nb) b t < 2 ^ T
  | 0 => Nat.two_pow_pos T
  | t + 1 => by
    unfold nxS
    by_cases q : b.testBit t = true
    · rw [if_pos q]
      have ht : t < T := by
        rcases Nat.lt_or_ge t T with y | y
        · exact y
        · exact absurd q (bit_T hb t y)
      exact Nat.or_lt_two_pow (nx_T hF hb t) (ar_T hF ht)
    · rw [if_neg q]; exact nx_T hF hb t
theorem po_T (hF : iF I T nb) {on : Nat → Nat → Nat} : ∀ m, poN on nb T (2 ^ T - 1) m < 2 ^ T
  | 0 => fb_T (by have := Nat.two_pow_pos T; omega)
  | m + 1 => fb_T (nx_T hF (po_T hF m) 8)
theorem sp_po32 (hF : iF I T nb) {b m M : Nat} (hb : b < 2 ^ T) (hm : m < 24) {g : Nat → Nat} (hg : ∀ o, o < T → g o ≤ 999999999 ∧ I 18 m o = nI (g o)) (h : bt_Go P (d + 3) mi_Wa_possibleAt (kI f) 15 [some (vr 16 0), some (vi (nI M)), some (vi (nI (fbN g (nxS (arN nb) b 8)))), some (vi (nI (m + 1))), none, none] [] (I, L)) : ∀ (k t : Nat), t + k = 8 → bt_Go P (d + 3) mi_Wa_possibleAt (kI f) 32 [some (vr 16 0), some (vi (nI M)), some (vi (nI b)), some (vi (nI m)), some (vi (nI (nxS (arN nb) b t))), some (vi (nI t))] [] (I, L)
  | 0, t, e => by
    have e : t = 8 := by omega
    subst e
    refine ru_Wa_possibleAt_32 ⟨fun _ => sp_fittingOf hF.1 hF.2.1 hm (nx_T hF hb 8) hg ?_, fun q => absurd (show (8 : Int32) ≤ nI 8 by decide) q⟩
    rw [nI_s]; exact h
  | k + 1, t, e => by
    have ih := sp_po32 hF hb hm hg h k (t + 1) (by omega)
    have hT8 := hF.2.1
    have p8 : 2 ^ T ≤ 2 ^ 8 := Nat.pow_le_pow_right (by omega) hT8
    have p256 : 2 ^ 8 = 256 := rfl
    refine ru_Wa_possibleAt_32 ⟨fun q => absurd ((nle (a := 8) (by omega) (by omega)).mp q) (by omega), fun _ => ?_⟩
    rw [nI_bit (by omega) (by omega), nI_s]
    have e1 : nxS (arN nb) b (t + 1) = if b.testBit t = true then nxS (arN nb) b t ||| arN nb t else nxS (arN nb) b t := rfl
    refine bP_br (fun q => ?_) (fun q => ?_)
    · rw [e1, if_neg q] at ih; exact ih
    · have ht : t < T := by
        rcases Nat.lt_or_ge t T with y | y
        · exact y
        · exact absurd q (bit_T hb t y)
      refine sp_around hF ht ?_
      rw [nI_or]
      rw [e1, if_pos q] at ih; exact ih
theorem sp_po15 (hF : iF I T nb) {on : Nat → Nat → Nat} {M n : Nat} (hn : n ≤ 24) (hM : M < n) (hon : ∀ m o, m < n → o < T → on m o ≤ 999999999 ∧ I 18 m o = nI (on m o)) (h : f (nI (poN on nb T (2 ^ T - 1) M)) I L) : ∀ (k m : Nat), m + k = M → bt_Go P (d + 3) mi_Wa_possibleAt (kI f) 15 [some (vr 16 0), some (vi (nI M)), some (vi (nI (poN on nb T (2 ^ T - 1) m))), some (vi (nI (m + 1))), none, none] [] (I, L)
  | 0, m, e => by
    have e : m = M := by omega
    subst e
    exact ru_Wa_possibleAt_15 ⟨fun _ => h, fun q => absurd ((nlt (by omega) (by omega)).mpr (by omega)) q⟩
  | k + 1, m, e => by
    refine ru_Wa_possibleAt_15 ⟨fun q => absurd ((nlt (by omega) (by omega)).mp q) (by omega), fun _ => ⟨fun q => absurd ((nle (a := 24) (by omega) (by omega)).mp q) (by omega), fun _ => ?_⟩⟩
    exact sp_po32 hF (po_T hF m) (m := m + 1) (by omega) (fun o ho => hon (m + 1) o (by omega) ho) (sp_po15 hF hn hM hon h k (m + 1) (by omega)) 8 0 rfl
theorem sp_possibleAt (hF : iF I T nb) {on : Nat → Nat → Nat} {M n : Nat} (hn : n ≤ 24) (hM : M < n) (hon : ∀ m o, m < n → o < T → on m o ≤ 999999999 ∧ I 18 m o = nI (on m o)) (h : f (nI (poN on nb T (2 ^ T - 1) M)) I L) : bt_WP P (d + 4) mi_Wa_possibleAt [vr 16 0, vi (nI M)] (I, L) (kI f) := by
  have := Nat.two_pow_pos T
  exact ru_Wa_possibleAt (sp_all hF.1 hF.2.1 (sp_fittingOf (m := 0) hF.1 hF.2.1 (by omega) (by omega) (fun o ho => hon 0 o (by omega) ho) (sp_po15 hF hn hM hon h M 0 (by omega))))
end FST
