/-! WALKS THAT FIT: counted from the end; the class -/
def csN (g : Nat → Nat) (b : Nat) : Nat → Nat
  | 0 => 0
  | o + 1 => if b.testBit o = true then min 999999999 (csN g b o + g o) else csN g b o
theorem csN_t {g : Nat → Nat} {b o : Nat} (h : b.testBit o = true) : csN g b (o + 1) = min 999999999 (csN g b o + g o) := by
  show (if _ then _ else _) = _
  rw [if_pos h]
theorem csN_f {g : Nat → Nat} {b o : Nat} (h : ¬ b.testBit o = true) : csN g b (o + 1) = csN g b o := by
  show (if _ then _ else _) = _
  rw [if_neg h]
theorem csN_le {g : Nat → Nat} {b : Nat} : ∀ o, csN g b o ≤ 999999999
  | 0 => by show 0 ≤ 999999999; omega
  | o + 1 => by
    by_cases q : b.testBit o = true
    · rw [csN_t q]; omega
    · rw [csN_f q]; exact csN_le o
theorem csN_hi {g : Nat → Nat} {b T : Nat} (h : ∀ o, T ≤ o → ¬ b.testBit o = true) : ∀ k, csN g b (T + k) = csN g b T
  | 0 => rfl
  | k + 1 => by
    show csN g b (T + k + 1) = _
    rw [csN_f (h (T + k) (by omega)), csN_hi h k]
theorem csN_pos {g : Nat → Nat} {b : Nat} : ∀ n, 0 < csN g b n ↔ ∃ o, o < n ∧ b.testBit o = true ∧ 0 < g o
  | 0 => ⟨fun h => by change 0 < 0 at h; omega, fun ⟨o, h, _⟩ => by omega⟩
  | n + 1 => by
    have ih := csN_pos (g := g) (b := b) n
    by_cases q : b.testBit n = true
    · rw [csN_t q]
      constructor
      · intro h
        by_cases q2 : 0 < g n
        · exact ⟨n, by omega, q, q2⟩
        · obtain ⟨o, h1, h2⟩ := ih.mp (by omega)
          exact ⟨o, by omega, h2⟩
      · rintro ⟨o, h1, h2, h3⟩
        by_cases e : o = n
        · subst e; omega
        · have := ih.mpr ⟨o, by omega, h2, h3⟩
          omega
    · rw [csN_f q, ih]
      constructor
      · rintro ⟨o, h1, h2⟩; exact ⟨o, by omega, h2⟩
      · rintro ⟨o, h1, h2, h3⟩
        by_cases e : o = n
        · subst e; exact absurd h2 q
        · exact ⟨o, by omega, h2, h3⟩
theorem csN_ext {g g' : Nat → Nat} {b : Nat} : ∀ n, (∀ o, o < n → g o = g' o) → csN g b n = csN g' b n
  | 0, _ => rfl
  | n + 1, h => by
    have ih : csN g b n = csN g' b n := csN_ext n (fun o ho => h o (by omega))
    by_cases q : b.testBit n = true
    · rw [csN_t q, csN_t q, ih, h n (by omega)]
    · rw [csN_f q, csN_f q, ih]
/-- the neighbours of a tree and the tree -/
abbrev arN (nb : Nat → Nat) (t : Nat) : Nat := nb t ||| 2 ^ t
noncomputable def onR (fit : Nat → Nat → Prop) (nb : Nat → Nat) (T n : Nat) : Nat → Nat → Nat
  | 0, t => @ite Nat (fit (n - 1) t) (Classical.propDecidable _) 1 0
  | r + 1, t => @ite Nat (fit (n - 2 - r) t) (Classical.propDecidable _) (csN (onR fit nb T n r) (arN nb t) T) 0
noncomputable def onN (fit : Nat → Nat → Prop) (nb : Nat → Nat) (T n m t : Nat) : Nat := onR fit nb T n (n - 1 - m) t
section ONN
variable {fit : Nat → Nat → Prop} {nb : Nat → Nat} {T n : Nat}
theorem onN_0 {m t : Nat} (h : ¬ fit m t) (hm : m < n) : onN fit nb T n m t = 0 := by
  unfold onN
  rcases Nat.eq_zero_or_pos (n - 1 - m) with q | q
  · rw [q]
    show @ite Nat (fit (n - 1) t) (Classical.propDecidable _) 1 0 = 0
    rw [if_neg (by rw [show n - 1 = m by omega]; exact h)]
  · obtain ⟨r, hr⟩ : ∃ r, n - 1 - m = r + 1 := ⟨n - 1 - m - 1, by omega⟩
    rw [hr]
    show @ite Nat (fit (n - 2 - r) t) (Classical.propDecidable _) _ 0 = 0
    rw [if_neg (by rw [show n - 2 - r = m by omega]; exact h)]
theorem onN_l {m t : Nat} (h : fit m t) (hm : m + 1 = n) : onN fit nb T n m t = 1 := by
  unfold onN
  rw [show n - 1 - m = 0 by omega]
  show @ite Nat (fit (n - 1) t) (Classical.propDecidable _) 1 0 = 1
  rw [if_pos (by rw [show n - 1 = m by omega]; exact h)]
theorem onN_s {m t : Nat} (h : fit m t) (hm : m + 1 < n) : onN fit nb T n m t = csN (onN fit nb T n (m + 1)) (arN nb t) T := by
  unfold onN
  rw [show n - 1 - m = (n - 1 - (m + 1)) + 1 by omega]
  show @ite Nat (fit (n - 2 - (n - 1 - (m + 1))) t) (Classical.propDecidable _) (csN (onR fit nb T n (n - 1 - (m + 1))) (arN nb t) T) 0 = _
  rw [if_pos (by rw [show n - 2 - (n - 1 - (m + 1)) = m by omega]; exact h)]
theorem onN_le {m t : Nat} (hm : m < n) : onN fit nb T n m t ≤ 999999999 := by
  by_cases h : fit m t
  · by_cases q : m + 1 = n
    · rw [onN_l h q]; omega
    · rw [onN_s h (by omega)]; exact csN_le T
  · rw [onN_0 h hm]; omega
theorem onN_fit {m t : Nat} (hm : m < n) (h : 0 < onN fit nb T n m t) : fit m t := Classical.byContradiction fun z => by
  rw [onN_0 z hm] at h; omega
end ONN
theorem cap_i {a b : Nat} (ha : a ≤ 999999999) (hb : b ≤ 999999999) : (if nI a + nI b < 999999999 then nI a + nI b else 999999999) = nI (min 999999999 (a + b)) := by
  rw [nI_add]
  have e : nI (a + b) < 999999999 ↔ a + b < 999999999 := nlt (b := 999999999) (by omega) (by omega)
  by_cases q : a + b < 999999999
  · rw [if_pos (e.mpr q), Nat.min_eq_right (by omega)]
  · rw [if_neg (fun z => q (e.mp z)), Nat.min_eq_left (by omega)]; rfl
section WYC
variable {P : bt_PT} {d : Nat} {f : Int32 → m_I → m_L → Prop} {I0 I : m_I} {L : m_L} {T hu bn : Nat} {nb : Nat → Nat} {X : Nat → sH} {Z : Nat → Nat} {F : lF}
theorem ar_T (hF : iF I T nb) {t : Nat} (ht : t < T) : arN nb t < 2 ^ T := Nat.or_lt_two_pow (nbT hF t) (Nat.pow_lt_pow_right (by omega) ht)
theorem bit_T {b : Nat} (hb : b < 2 ^ T) : ∀ o, T ≤ o → ¬ b.testBit o = true := fun o ho z => by
  rw [Nat.testBit_lt_two_pow (Nat.lt_of_lt_of_le hb (Nat.pow_le_pow_right (by omega) ho))] at z; cases z
theorem sp_onAt (hT : I 1 0 4 = nI T) (hT8 : T ≤ 8) {m t : Nat} (hm : m < 24) (ht : t < T) (g : f (I 18 m t) I L) : bt_WP P (d + 2) mi_Wa_onwardAt [vr 16 0, vi (nI m), vi (nI t)] (I, L) (kI f) := by
  refine ru_Wa_onwardAt (sp_isMin hm ⟨(fun z => absurd z (by decide)), fun _ => sp_has_in hT hT8 ht ⟨(fun z => absurd z (by decide)), fun _ => ⟨ti_in hm (by omega), ti_in (by omega) (by omega), ?_⟩⟩⟩)
  rw [ti_tn (by omega), ti_tn (by omega)]; exact g
theorem sp_waysL (hT : I 1 0 4 = nI T) (hT8 : T ≤ 8) {g : Nat → Nat} {m b : Nat} (hm : m < 24) (hb : b < 2 ^ T) (hg : ∀ o, o < T → g o ≤ 999999999 ∧ I 18 m o = nI (g o)) (h : f (nI (csN g b T)) I L) : ∀ (k o : Nat), o + k = 8 → bt_Go P (d + 2) mi_Wa_ways (kI f) 5 [some (vr 16 0), some (vi (nI m)), some (vi (nI b)), some (vi (nI (csN g b o))), some (vi (nI o))] [] (I, L)
  | 0, o, e => by
    have e : o = T + (8 - T) := by omega
    refine ru_Wa_ways_5 ⟨fun _ => ?_, fun q => absurd ((nle (a := 8) (by omega) (by omega)).mpr (by omega)) q⟩
    rw [e, csN_hi (bit_T hb)]; exact h
  | k + 1, o, e => by
    have ih := sp_waysL hT hT8 hm hb hg h k (o + 1) (by omega)
    have p8 : 2 ^ T ≤ 2 ^ 8 := Nat.pow_le_pow_right (by omega) hT8
    have p256 : 2 ^ 8 = 256 := rfl
    refine ru_Wa_ways_5 ⟨fun q => absurd ((nle (a := 8) (by omega) (by omega)).mp q) (by omega), fun _ => ?_⟩
    rw [nI_bit (by omega) (by omega), nI_s]
    refine bP_br (fun q => ?_) (fun q => ?_)
    · rw [csN_f q] at ih; exact ih
    · have ho : o < T := by
        rcases Nat.lt_or_ge o T with y | y
        · exact y
        · exact absurd q (bit_T hb o y)
      refine sp_onAt hT hT8 hm ho ?_
      rw [(hg o ho).2, cap_i (csN_le o) (hg o ho).1]
      rw [csN_t q] at ih; exact ih
theorem sp_ways (hT : I 1 0 4 = nI T) (hT8 : T ≤ 8) {g : Nat → Nat} {m b : Nat} (hm : m < 24) (hb : b < 2 ^ T) (hg : ∀ o, o < T → g o ≤ 999999999 ∧ I 18 m o = nI (g o)) (h : f (nI (csN g b T)) I L) : bt_WP P (d + 3) mi_Wa_ways [vr 16 0, vi (nI m), vi (nI b)] (I, L) (kI f) :=
  ru_Wa_ways (sp_waysL hT hT8 hm hb hg h 8 0 rfl)
/-- a sound fits the book -/
def ftP (L : m_L) (S : Nat → Nat → Int32) (s : Nat) : Nat → Nat → Prop := fun m t => S t m = vL L s m
def off18 (I0 I : m_I) : Prop := ∀ a b c, ¬ a = 18 → I a b c = I0 a b c
theorem off18_S {L : m_L} (h : off18 I0 I) : Scr I0 L I L := ⟨fun a b c e => h a b c (fun z => by subst z; cases e), fun _ _ _ _ => rfl⟩
theorem sp_cf18 (h : cx P I0 L T hu bn nb X Z F) {s m : Nat} {S : Nat → Nat → Int32} (hs : s < 6) (xs : X s = some (.inr 0)) (hfl : flS I0 0 S) (hm : m < min 24 (Z s))
    (g : ∀ I, off18 I0 I → (∀ m' o, m ≤ m' → m' < min 24 (Z s) → o < T → I 18 m' o = nI (onN (ftP L S s) nb T (min 24 (Z s)) m' o)) → bt_Go P (d + 3) mi_Wa_countFitting (kI f) 10 [some (vr 16 0), some (vr 12 0), some (vr 33 s), some (vi (nI (min 24 (Z s)))), some (vi (nI m - 1)), none, none, none] [] (I, L)) :
    ∀ (k t : Nat) (I : m_I), t + k = T → off18 I0 I → (∀ m' o, m < m' → m' < min 24 (Z s) → o < T → I 18 m' o = nI (onN (ftP L S s) nb T (min 24 (Z s)) m' o)) → (∀ o, o < t → I 18 m o = nI (onN (ftP L S s) nb T (min 24 (Z s)) m o)) → bt_Go P (d + 3) mi_Wa_countFitting (kI f) 18 [some (vr 16 0), some (vr 12 0), some (vr 33 s), some (vi (nI (min 24 (Z s)))), some (vi (nI m)), some (vi (nI t)), none, none] [] (I, L)
  | 0, t, I, e, ho, h1, h2 => by
    have hT8 := (cx_T h).2
    have e : t = T := by omega
    subst e
    have hT : I 1 0 4 = nI t := (ho 1 0 4 (by decide)).trans (cx_T h).1
    have em : nI m + (-1) = nI m - 1 := by rw [Int32.sub_eq_add_neg]
    refine ru_Wa_countFitting_18 (ru_Fo_size ⟨fun _ => ?_, fun z => absurd (by rw [hT]; exact Int32.le_refl _) z⟩)
    rw [em]
    refine g I ho (fun m' o a1 a2 a3 => ?_)
    by_cases q : m' = m
    · subst q; exact h2 o a3
    · exact h1 m' o (by omega) a2 a3
  | k + 1, t, I, e, ho, h1, h2 => by
    have hT8 := (cx_T h).2
    have hx := cx_S h (off18_S (L := L) ho)
    obtain ⟨-, -, -, za, ea⟩ := row_e (cx_row hx hs xs)
    have hT : I 1 0 4 = nI T := (ho 1 0 4 (by decide)).trans (cx_T h).1
    have hgo : ∀ (v : Nat), v = onN (ftP L S s) nb T (min 24 (Z s)) m t → bt_Go P (d + 3) mi_Wa_countFitting (kI f) 18 [some (vr 16 0), some (vr 12 0), some (vr 33 s), some (vi (nI (min 24 (Z s)))), some (vi (nI m)), some (vi (nI (t + 1))), none, none] [] (ui I 18 m t (nI v), L) := fun v hv => by
      refine sp_cf18 h hs xs hfl hm g k (t + 1) _ (by omega) (fun a b c z => by rw [ui_k z]; exact ho a b c z) (fun m' o a1 a2 a3 => by rw [ui_i (by omega)]; exact h1 m' o a1 a2 a3) (fun o a1 => ?_)
      by_cases q : o = t
      · subst q; rw [ui_same, hv]
      · rw [ui_j q]; exact h2 o (by omega)
    have vm : vp_in (nI m) 24 := ti_in (by omega) (by omega)
    have vt : vp_in (nI t) 8 := ti_in (by omega) (by omega)
    have tm : tn (nI m) = m := ti_tn (by omega)
    have tt : tn (nI t) = t := ti_tn (by omega)
    refine ru_Wa_countFitting_18 (ru_Fo_size ⟨fun z => ?_, fun _ => sp_SoAt hT hT8 (by omega) (by omega) ?_⟩)
    · rw [hT, nle (by omega) (by omega)] at z; omega
    rw [ho 14 _ m (by decide), hfl t m (by omega) (by omega)]
    refine sp_at ea za (by omega) ?_
    rw [tm, tt, nI_s, nI_s]
    have hl : nI m = nI (min 24 (Z s)) - 1 ↔ m + 1 = min 24 (Z s) := by
      obtain ⟨N, hN⟩ : ∃ N, min 24 (Z s) = N + 1 := ⟨min 24 (Z s) - 1, by omega⟩
      rw [hN, nI_pred, neq (by omega) (by omega)]; omega
    have hw : ¬ m + 1 = min 24 (Z s) → ∀ Q : Int32 → m_I → m_L → Prop, Q (nI (csN (onN (ftP L S s) nb T (min 24 (Z s)) (m + 1)) (arN nb t) T)) I L → bt_WP P (d + 3) mi_Fo_around [vr 1 0, vi (nI t)] (I, L) (kI fun x12 I10 N11 => bt_WP P (d + 3) mi_Wa_ways [vr 16 0, vi (nI (m + 1)), vi x12] (I10, N11) (kI Q)) := fun q Q hQ => by
      refine sp_around hx.1.1 (by omega) ?_
      exact sp_ways hT hT8 (by omega) (ar_T hx.1.1 (by omega)) (fun o a1 => ⟨onN_le (by omega), h1 (m + 1) o (by omega) (by omega) a1⟩) hQ
    refine ⟨fun q1 => ⟨fun q2 => hw (fun y => q2 (hl.mpr y)) _ ⟨vm, fun _ => ⟨vt, ?_⟩, fun z => absurd rfl z⟩, fun q2 => ⟨vm, fun _ => ⟨vt, ?_⟩, fun z => absurd rfl z⟩⟩, fun q1 => ⟨fun q2 => hw (fun y => q2 (hl.mpr y)) _ ⟨vm, (fun z => absurd z (by decide)), fun _ => ⟨vt, ?_⟩⟩, fun q2 => ⟨vm, (fun z => absurd z (by decide)), fun _ => ⟨vt, ?_⟩⟩⟩⟩
    · exact hgo 0 (onN_0 (fit := ftP L S s) q1 hm).symm
    · exact hgo 0 (onN_0 (fit := ftP L S s) q1 hm).symm
    · exact hgo _ (onN_s (fit := ftP L S s) q1 (by
        have : ¬ m + 1 = min 24 (Z s) := fun y => q2 (hl.mpr y)
        omega)).symm
    · exact hgo 1 (onN_l (fit := ftP L S s) q1 (hl.mp q2)).symm
theorem sp_cf10 (h : cx P I0 L T hu bn nb X Z F) {s : Nat} {S : Nat → Nat → Int32} (hs : s < 6) (xs : X s = some (.inr 0)) (hfl : flS I0 0 S)
    (g : ∀ I, off18 I0 I → (∀ m' o, m' < min 24 (Z s) → o < T → I 18 m' o = nI (onN (ftP L S s) nb T (min 24 (Z s)) m' o)) → f (if min 24 (Z s) = 0 then 1 else nI (csN (onN (ftP L S s) nb T (min 24 (Z s)) 0) (2 ^ T - 1) T)) I L) :
    ∀ (m : Nat) (I : m_I), m ≤ min 24 (Z s) → off18 I0 I → (∀ m' o, m ≤ m' → m' < min 24 (Z s) → o < T → I 18 m' o = nI (onN (ftP L S s) nb T (min 24 (Z s)) m' o)) → bt_Go P (d + 3) mi_Wa_countFitting (kI f) 10 [some (vr 16 0), some (vr 12 0), some (vr 33 s), some (vi (nI (min 24 (Z s)))), some (vi (nI m - 1)), none, none, none] [] (I, L)
  | 0, I, e, ho, h1 => by
    have hT8 := (cx_T h).2
    have hT : I 1 0 4 = nI T := (ho 1 0 4 (by decide)).trans (cx_T h).1
    have g' := g I ho (fun m' o a1 a2 => h1 m' o (by omega) a1 a2)
    refine ru_Wa_countFitting_10 ⟨fun _ => ⟨fun q => ?_, fun q => ?_⟩, fun z => absurd (show (nI 0 - 1 : Int32) < 0 by decide) z⟩
    · have q' : ¬ min 24 (Z s) = 0 := fun y => q (by rw [y]; rfl)
      rw [if_neg q'] at g'
      have := Nat.two_pow_pos T
      exact sp_all hT hT8 (sp_ways (m := 0) hT hT8 (by omega) (by omega) (fun o a1 => ⟨onN_le (by omega), h1 0 o (by omega) (by omega) a1⟩) g')
    · have q' : min 24 (Z s) = 0 := (neq (b := 0) (by omega) (by omega)).mp q
      rw [if_pos q'] at g'; exact g'
  | m + 1, I, e, ho, h1 => by
    rw [nI_pred]
    refine ru_Wa_countFitting_10 ⟨fun z => absurd z (n_neg (by omega)), fun _ => ?_⟩
    exact sp_cf18 h hs xs hfl (m := m) (by omega) (fun I' ho' h1' => sp_cf10 h hs xs hfl g m I' (by omega) ho' h1') T 0 I (by omega) ho (fun m' o a1 a2 a3 => h1 m' o (by omega) a2 a3) (fun o a1 => by omega)
theorem sp_countFitting (h : cx P I L T hu bn nb X Z F) {s : Nat} {S : Nat → Nat → Int32} (hs : s < 6) (xs : X s = some (.inr 0)) (hfl : flS I 0 S)
    (g : ∀ I', off18 I I' → (∀ m' o, m' < min 24 (Z s) → o < T → I' 18 m' o = nI (onN (ftP L S s) nb T (min 24 (Z s)) m' o)) → f (if min 24 (Z s) = 0 then 1 else nI (csN (onN (ftP L S s) nb T (min 24 (Z s)) 0) (2 ^ T - 1) T)) I' L) : bt_WP P (d + 4) mi_Wa_countFitting [vr 16 0, vr 12 0, vr 33 s] (I, L) (kI f) := by
  obtain ⟨-, -, -, za, ea⟩ := row_e (cx_row h hs xs)
  exact ru_Wa_countFitting (sp_minutes ea za (sp_cf10 h hs xs hfl g (min 24 (Z s)) I (Nat.le_refl _) (fun _ _ _ _ => rfl) (fun m' o a1 a2 => by omega)))
end WYC
