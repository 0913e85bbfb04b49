/-! WALKS THAT FIT: the reference -/
noncomputable def uwN (fit : Nat → Nat → Prop) (nb : Nat → Nat) (T : Nat) : Nat → Nat → Nat
  | 0, t => @ite Nat (fit 0 t) (Classical.propDecidable _) 1 0
  | m + 1, t => @ite Nat (fit (m + 1) t) (Classical.propDecidable _) (csN (uwN fit nb T m) (arN nb t) T) 0
section UWN
variable {fit : Nat → Nat → Prop} {nb : Nat → Nat} {T : Nat}
theorem uwN_f {m t : Nat} (h : ¬ fit m t) : uwN fit nb T m t = 0 := by
  cases m with
  | zero => show @ite Nat (fit 0 t) (Classical.propDecidable _) 1 0 = 0; rw [if_neg h]
  | succ m => show @ite Nat (fit (m + 1) t) (Classical.propDecidable _) _ 0 = 0; rw [if_neg h]
theorem uwN_0 {t : Nat} (h : fit 0 t) : uwN fit nb T 0 t = 1 := by
  show @ite Nat (fit 0 t) (Classical.propDecidable _) 1 0 = 1; rw [if_pos h]
theorem uwN_s {m t : Nat} (h : fit (m + 1) t) : uwN fit nb T (m + 1) t = csN (uwN fit nb T m) (arN nb t) T := by
  show @ite Nat (fit (m + 1) t) (Classical.propDecidable _) _ 0 = _; rw [if_pos h]
theorem uwN_le (m t : Nat) : uwN fit nb T m t ≤ 999999999 := by
  by_cases h : fit m t
  · cases m with
    | zero => rw [uwN_0 h]; omega
    | succ m => rw [uwN_s h]; exact csN_le T
  · rw [uwN_f h]; omega
theorem uwN_fit {m t : Nat} (h : 0 < uwN fit nb T m t) : fit m t := Classical.byContradiction fun z => by
  rw [uwN_f z] at h; omega
/-- where one can be: both ways tell the same -/
theorem po_eq {n : Nat} (hT8 : T ≤ 8) (hnb : ∀ t, nb t < 2 ^ T) (hsy : ∀ a b, (nb a).testBit b = (nb b).testBit a) : ∀ M, M < n → ∀ t, (poN (onN fit nb T n) nb T (2 ^ T - 1) M).testBit t = true ↔ t < T ∧ 0 < onN fit nb T n M t ∧ 0 < uwN fit nb T M t
  | 0, hM, t => by
    show (fbN _ _).testBit t = true ↔ _
    rw [fb_bit, Nat.testBit_two_pow_sub_one, decide_eq_true_iff]
    constructor
    · rintro ⟨h1, h2, h3⟩
      refine ⟨h2, h3, ?_⟩
      rw [uwN_0 (onN_fit hM h3)]; omega
    · rintro ⟨h1, h2, h3⟩; exact ⟨by omega, h1, h2⟩
  | M + 1, hM, t => by
    have ih := po_eq (n := n) hT8 hnb hsy M (by omega)
    show (fbN (onN fit nb T n (M + 1)) (nxS (arN nb) (poN (onN fit nb T n) nb T (2 ^ T - 1) M) 8)).testBit t = true ↔ _
    rw [fb_bit, nxS_bit]
    have asy : ∀ a b, (arN nb a).testBit b = true ↔ (arN nb b).testBit a = true := fun a b => by
      rw [Nat.testBit_or, Nat.testBit_or, Nat.testBit_two_pow, Nat.testBit_two_pow, Bool.or_eq_true, Bool.or_eq_true, decide_eq_true_iff, decide_eq_true_iff, hsy a b]
      constructor
      · rintro (h | h)
        · exact Or.inl h
        · exact Or.inr h.symm
      · rintro (h | h)
        · exact Or.inl h
        · exact Or.inr h.symm
    constructor
    · rintro ⟨h1, ⟨u, hu, h2, h3⟩, h4⟩
      obtain ⟨u1, u2, u3⟩ := (ih u).mp h2
      have ht : t < T := by
        rcases Nat.lt_or_ge t T with y | y
        · exact y
        · exact absurd h3 (bit_T (Nat.or_lt_two_pow (hnb u) (Nat.pow_lt_pow_right (by omega) u1)) t y)
      refine ⟨ht, h4, ?_⟩
      rw [uwN_s (onN_fit hM h4), csN_pos]
      exact ⟨u, u1, (asy u t).mp h3, u3⟩
    · rintro ⟨h1, h2, h3⟩
      have h3' := h3
      rw [uwN_s (onN_fit hM h2), csN_pos] at h3'
      obtain ⟨u, u1, u2, u3⟩ := h3'
      refine ⟨by omega, ⟨u, by omega, (ih u).mpr ⟨u1, ?_, u3⟩, (asy u t).mpr u2⟩, h2⟩
      rw [onN_s (uwN_fit u3) hM, csN_pos]
      exact ⟨t, h1, (asy u t).mpr u2, h2⟩
end UWN
theorem e8_i (m t : Nat) : (8 * nI m) + nI t = nI (8 * m + t) := by rw [show (8 : Int32) = nI 8 from rfl, pk_mul, nI_add]
theorem sm_capped {P : bt_PT} {d : Nat} {f : Int64 → m_I → m_L → Prop} {I : m_I} {L : m_L} {a b : Nat} (ha : a ≤ 999999999) (hb : b ≤ 999999999) (h : f (lN (min 999999999 (a + b))) I L) : bt_WP P (d + 1) mi_M_capped [vl (lN a + lN b)] (I, L) (kL f) := by
  rw [lN_add]
  have e : (lN (a + b)).toInt = ((a + b : Nat) : Int) := pk_lT (by omega)
  have e9 : (999999999 : Int64).toInt = 999999999 := rfl
  have hg : 0 < lg_cmp (lN (a + b)) 999999999 ↔ 999999999 < a + b := by rw [lg_gt, e, e9]; omega
  refine ru_M_capped ⟨fun q => ?_, fun q => ?_⟩
  · have : ¬ 999999999 < a + b := fun y => absurd (hg.mpr y) (Int32.not_lt.mpr q)
    rw [Nat.min_eq_right (by omega)] at h; exact h
  · have : 999999999 < a + b := hg.mp (Int32.not_le.mp q)
    rw [Nat.min_eq_left (by omega)] at h; exact h
section WYM
variable {P : bt_PT} {d : Nat} {f : m_I → m_L → Prop} {I0 I : m_I} {L0 L : m_L} {T hu bn : Nat} {nb : Nat → Nat} {X : Nat → sH} {Z : Nat → Nat} {F : lF}
def offW (L0 L : m_L) : Prop := ∀ a b c, ¬ (a = 57 ∨ a = 58) → L a b c = L0 a b c
theorem offW_S (hr : mR I0 I T (frD T nb hu)) (ho : offW L0 L) : Scr I0 L0 I L := ⟨(mR_Scr (L := L0) hr).1, fun a b c e => ho a b c (fun z => by rcases z with rfl | rfl <;> cases e)⟩
def onL (fit : Nat → Nat → Prop) (nb : Nat → Nat) (T n : Nat) (L : m_L) (m t : Nat) : Prop := (∀ m' o, m < m' → m' < n → o < T → L 57 0 (8 * m' + o) = lN (onN fit nb T n m' o)) ∧ ∀ o, o < t → L 57 0 (8 * m + o) = lN (onN fit nb T n m o)
theorem onL_u {fit : Nat → Nat → Prop} {n m t : Nat} {v : Int64} (hT8 : T ≤ 8) (h : onL fit nb T n L m t) (ht : t < T) (hv : v = lN (onN fit nb T n m t)) : onL fit nb T n (ul L 57 0 (8 * m + t) v) m (t + 1) := by
  refine ⟨fun m' o a1 a2 a3 => by rw [ul_j (by omega)]; exact h.1 m' o a1 a2 a3, fun o a1 => ?_⟩
  by_cases q : o = t
  · subst q; rw [ul_same, hv]
  · rw [ul_j (by omega)]; exact h.2 o (by omega)
theorem sm_fw50 (h : cx P I0 L0 T hu bn nb X Z F) {k s m t : Nat} (hk : k < 4) (hs : s < 6) (xs : X s = some (.inr 0)) (hm : m < min 24 (Z s)) (ht : t < T)
    (g : ∀ I' L', mR I0 I' T (frD T nb hu) → offW L0 L' → onL (ftP L0 (SD I0 F T nb hu k) s) nb T (min 24 (Z s)) L' m (t + 1) → bt_Go P (d + 5) mi_M_findWalks (kV f) 23 [some (vr 35 0), some (vi (nI k)), some (vi (nI s)), some (vi (nI (min 24 (Z s)))), some (vi (nI m)), some (vi (nI (t + 1))), none, none, none] [] (I', L')) :
    ∀ (q o : Nat) (I : m_I) (L : m_L) (v : Nat), o + q = T → mR I0 I T (frD T nb hu) → offW L0 L → onL (ftP L0 (SD I0 F T nb hu k) s) nb T (min 24 (Z s)) L m t → (m + 1 = min 24 (Z s) → v = 1) → (m + 1 < min 24 (Z s) → v = csN (onN (ftP L0 (SD I0 F T nb hu k) s) nb T (min 24 (Z s)) (m + 1)) (arN nb t) o) → bt_Go P (d + 5) mi_M_findWalks (kV f) 50 [some (vr 35 0), some (vi (nI k)), some (vi (nI s)), some (vi (nI (min 24 (Z s)))), some (vi (nI m)), some (vi (nI t)), some (vl (lN v)), none, some (vi (nI o))] [] (I, L)
  | q, o, I, L, v, e, hr, ho, hl, hv1, hv2 => by
    have hT8 := (cx_T h).2
    have hx := cx_S h (offW_S hr ho)
    obtain ⟨-, e68, hby, -, -⟩ := row_e (cx_row hx hs xs)
    have eLv : vL L s = vL L0 s := by funext i; unfold vL; rw [ho 34 s i (by omega)]
    have hT : I 35 0 1 = nI T := hx.1.2.1.1
    have hlast : (nI (min 24 (Z s)) - 1 ≤ nI m ↔ m + 1 = min 24 (Z s)) := by
      obtain ⟨N, hN⟩ : ∃ N, min 24 (Z s) = N + 1 := ⟨min 24 (Z s) - 1, by omega⟩
      rw [hN, nI_pred, nle (by omega) (by omega)]; omega
    have hst : (¬ ftP L0 (SD I0 F T nb hu k) s m t ∨ v = onN (ftP L0 (SD I0 F T nb hu k) s) nb T (min 24 (Z s)) m t) → bt_WP P (d + 5) mi_M_every [] (I, L) (kI fun x3 I1 N2 => bt_WP P (d + 5) mi_M_soundOf [vr 35 0, vi (nI k), vi (nI t), vi (nI m), vi x3] (I1, N2) (kI fun x6 I4 N5 => bt_WP P (d + 5) mi_M_told [vr 35 0, vi (nI s), vi (nI m)] (I4, N5) (kL fun x9 I7 N8 => (¬ (lg_cmp (x6.toInt64) x9) = 0 → (vp_in ((8 * nI m) + nI t) 200 ∧ (bt_Go P (d + 5) mi_M_findWalks (kV f) 23 [some (vr 35 0), some (vi (nI k)), some (vi (nI s)), some (vi (nI (min 24 (Z s)))), some (vi (nI m)), some (vi (nI t + 1)), none, none, none] [] (I7, ul N8 57 0 (tn ((8 * nI m) + nI t)) 0)))) ∧ ((lg_cmp (x6.toInt64) x9) = 0 → (vp_in ((8 * nI m) + nI t) 200 ∧ (bt_Go P (d + 5) mi_M_findWalks (kV f) 23 [some (vr 35 0), some (vi (nI k)), some (vi (nI s)), some (vi (nI (min 24 (Z s)))), some (vi (nI m)), some (vi (nI t + 1)), none, none, none] [] (I7, ul N8 57 0 (tn ((8 * nI m) + nI t)) (lN v)))))))) := fun hv => by
      refine ru_M_every (cx_so (b := 255) h hr hk ht (by omega) (by omega) (fun I1 hr1 => sm_told hs (by omega) ?_))
      rw [amo_255 (by omega), e68 m (by omega), by_e1 (hby m (by omega)), e8_i, ti_tn (by omega), nI_s]
      have hv8 : vp_in (nI (8 * m + t)) 200 := ti_in (by omega) (by omega)
      have hfw : ∀ w : Int64, w = lN (onN (ftP L0 (SD I0 F T nb hu k) s) nb T (min 24 (Z s)) m t) → bt_Go P (d + 5) mi_M_findWalks (kV f) 23 [some (vr 35 0), some (vi (nI k)), some (vi (nI s)), some (vi (nI (min 24 (Z s)))), some (vi (nI m)), some (vi (nI (t + 1))), none, none, none] [] (I1, ul L 57 0 (8 * m + t) w) := fun w hw => g I1 _ hr1 (fun a b c z => by rw [ul_k (by omega)]; exact ho a b c z) (onL_u hT8 hl ht hw)
      have hft : SD I0 F T nb hu k t m = (L 34 s m).toInt32 ↔ ftP L0 (SD I0 F T nb hu k) s m t := by
        show _ ↔ SD I0 F T nb hu k t m = vL L0 s m
        rw [← eLv]; exact Iff.rfl
      refine ⟨fun y => ⟨hv8, hfw 0 ?_⟩, fun y => ⟨hv8, hfw _ ?_⟩⟩
      · rw [onN_0 (fun z => y (hft.mpr z)) hm]; rfl
      · rcases hv with hv | hv
        · exact absurd (hft.mp y) hv
        · rw [hv]
    refine ru_M_findWalks_50 ⟨fun z => ?_, fun z => ⟨fun z2 => ?_, fun z2 => ?_⟩⟩
    · rw [hT, nle (by omega) (by omega)] at z
      have eo : o = T := by omega
      refine hst ?_
      by_cases hf : ftP L0 (SD I0 F T nb hu k) s m t
      · right
        by_cases q2 : m + 1 = min 24 (Z s)
        · rw [onN_l hf q2, hv1 q2]
        · rw [onN_s hf (by omega), hv2 (by omega), eo]
      · exact Or.inl hf
    · have q2 := hlast.mp z2
      refine hst ?_
      by_cases hf : ftP L0 (SD I0 F T nb hu k) s m t
      · right; rw [onN_l hf q2, hv1 q2]
      · exact Or.inl hf
    · have q2 : ¬ m + 1 = min 24 (Z s) := fun y => z2 (hlast.mpr y)
      have hoT : o < T := by
        have h50 : ¬ T ≤ o := fun y => z (by rw [hT, nle (by omega) (by omega)]; exact y)
        omega
      obtain ⟨q, rfl⟩ : ∃ q', q = q' + 1 := ⟨q - 1, by omega⟩
      have hcv := hv2 (by omega)
      refine sm_mayGo hx.1.2.1 ht (by omega) ?_
      rw [nI_s, nI_s, e8_i]
      refine bP_br (fun y => ?_) (fun y => ⟨ti_in (by omega) (by omega), ?_⟩)
      · exact sm_fw50 h hk hs xs hm ht g q (o + 1) I L v (by omega) hr ho hl hv1 (fun _ => by rw [csN_f y]; exact hcv)
      · rw [ti_tn (by omega), hl.1 (m + 1) o (by omega) (by omega) hoT, hcv]
        refine sm_capped (csN_le o) (onN_le (by omega)) ?_
        exact sm_fw50 h hk hs xs hm ht g q (o + 1) I L _ (by omega) hr ho hl (fun z => absurd z q2) (fun _ => by rw [csN_t y])
  termination_by q => q
theorem sm_fw23 (h : cx P I0 L0 T hu bn nb X Z F) {k s m : Nat} (hk : k < 4) (hs : s < 6) (xs : X s = some (.inr 0)) (hm : m < min 24 (Z s))
    (g : ∀ I' L', mR I0 I' T (frD T nb hu) → offW L0 L' → onL (ftP L0 (SD I0 F T nb hu k) s) nb T (min 24 (Z s)) L' m T → bt_Go P (d + 5) mi_M_findWalks (kV f) 15 [some (vr 35 0), some (vi (nI k)), some (vi (nI s)), some (vi (nI (min 24 (Z s)))), some (vi (nI m - 1)), none, none, none, none] [] (I', L')) :
    ∀ (q t : Nat) (I : m_I) (L : m_L), t + q = T → mR I0 I T (frD T nb hu) → offW L0 L → onL (ftP L0 (SD I0 F T nb hu k) s) nb T (min 24 (Z s)) L m t → bt_Go P (d + 5) mi_M_findWalks (kV f) 23 [some (vr 35 0), some (vi (nI k)), some (vi (nI s)), some (vi (nI (min 24 (Z s)))), some (vi (nI m)), some (vi (nI t)), none, none, none] [] (I, L)
  | 0, t, I, L, e, hr, ho, hl => by
    have hT8 := (cx_T h).2
    have e : t = T := by omega
    subst e
    have hT : I 35 0 1 = nI t := (cx_S h (offW_S hr ho)).1.2.1.1
    refine ru_M_findWalks_23 ⟨fun _ => ?_, fun z => absurd (by rw [hT]; exact Int32.le_refl _) z⟩
    rw [show nI m + (-1) = nI m - 1 by rw [Int32.sub_eq_add_neg]]
    exact g I L hr ho hl
  | q + 1, t, I, L, e, hr, ho, hl => by
    have hT8 := (cx_T h).2
    have hT : I 35 0 1 = nI T := (cx_S h (offW_S hr ho)).1.2.1.1
    have hlast : (nI m = nI (min 24 (Z s)) - 1 ↔ m + 1 = min 24 (Z s)) := by
      obtain ⟨N, hN⟩ : ∃ N, min 24 (Z s) = N + 1 := ⟨min 24 (Z s) - 1, by omega⟩
      rw [hN, nI_pred, neq (by omega) (by omega)]; omega
    have hgo : ∀ v : Nat, (m + 1 = min 24 (Z s) → v = 1) → (m + 1 < min 24 (Z s) → v = 0) → bt_Go P (d + 5) mi_M_findWalks (kV f) 50 [some (vr 35 0), some (vi (nI k)), some (vi (nI s)), some (vi (nI (min 24 (Z s)))), some (vi (nI m)), some (vi (nI t)), some (vl (lN v)), none, some (vi (nI 0))] [] (I, L) := fun v v1 v2 =>
      sm_fw50 h hk hs xs hm (by omega) (fun I' L' a1 a2 a3 => sm_fw23 h hk hs xs hm g q (t + 1) I' L' (by omega) a1 a2 a3) T 0 I L v (by omega) hr ho hl v1 v2
    refine ru_M_findWalks_23 ⟨fun z => ?_, fun _ => ⟨fun z => hgo 0 (fun y => absurd (hlast.mpr y) z) (fun _ => rfl), fun z => hgo 1 (fun _ => rfl) (fun y => ?_)⟩⟩
    · rw [hT, nle (by omega) (by omega)] at z; omega
    · have := hlast.mp z; omega
def uwL (fit : Nat → Nat → Prop) (nb : Nat → Nat) (T : Nat) (L : m_L) (m t : Nat) : Prop := (∀ m' o, m' < m → o < T → L 58 0 (8 * m' + o) = lN (uwN fit nb T m' o)) ∧ ∀ o, o < t → L 58 0 (8 * m + o) = lN (uwN fit nb T m o)
theorem uwL_u {fit : Nat → Nat → Prop} {m t : Nat} {v : Int64} (hT8 : T ≤ 8) (h : uwL fit nb T L m t) (ht : t < T) (hv : v = lN (uwN fit nb T m t)) : uwL fit nb T (ul L 58 0 (8 * m + t) v) m (t + 1) := by
  refine ⟨fun m' o a1 a2 => by rw [ul_j (by omega)]; exact h.1 m' o a1 a2, fun o a1 => ?_⟩
  by_cases q : o = t
  · subst q; rw [ul_same, hv]
  · rw [ul_j (by omega)]; exact h.2 o (by omega)
def onF (fit : Nat → Nat → Prop) (nb : Nat → Nat) (T n : Nat) (L : m_L) : Prop := ∀ m' o, m' < n → o < T → L 57 0 (8 * m' + o) = lN (onN fit nb T n m' o)
theorem sm_fw198 (h : cx P I0 L0 T hu bn nb X Z F) {k s m t : Nat} (hk : k < 4) (hs : s < 6) (xs : X s = some (.inr 0)) (hm : m < min 24 (Z s)) (ht : t < T)
    (g : ∀ I' L', mR I0 I' T (frD T nb hu) → offW L0 L' → onF (ftP L0 (SD I0 F T nb hu k) s) nb T (min 24 (Z s)) L' → uwL (ftP L0 (SD I0 F T nb hu k) s) nb T L' m (t + 1) → bt_Go P (d + 5) mi_M_findWalks (kV f) 174 [some (vr 35 0), some (vi (nI k)), some (vi (nI s)), some (vi (nI (min 24 (Z s)))), some (vi (nI m)), some (vi (nI (t + 1))), none, none, none] [] (I', L')) :
    ∀ (q o : Nat) (I : m_I) (L : m_L) (v : Nat), o + q = T → mR I0 I T (frD T nb hu) → offW L0 L → onF (ftP L0 (SD I0 F T nb hu k) s) nb T (min 24 (Z s)) L → uwL (ftP L0 (SD I0 F T nb hu k) s) nb T L m t → (m = 0 → v = 1) → (∀ m', m = m' + 1 → v = csN (uwN (ftP L0 (SD I0 F T nb hu k) s) nb T m') (arN nb t) o) → bt_Go P (d + 5) mi_M_findWalks (kV f) 198 [some (vr 35 0), some (vi (nI k)), some (vi (nI s)), some (vi (nI (min 24 (Z s)))), some (vi (nI m)), some (vi (nI t)), some (vl (lN v)), none, some (vi (nI o))] [] (I, L)
  | q, o, I, L, v, e, hr, ho, hn, hl, hv1, hv2 => by
    have hT8 := (cx_T h).2
    have hx := cx_S h (offW_S hr ho)
    obtain ⟨-, e68, hby, -, -⟩ := row_e (cx_row hx hs xs)
    have eLv : vL L s = vL L0 s := by funext i; unfold vL; rw [ho 34 s i (by omega)]
    have hT : I 35 0 1 = nI T := hx.1.2.1.1
    have hst : (¬ ftP L0 (SD I0 F T nb hu k) s m t ∨ v = uwN (ftP L0 (SD I0 F T nb hu k) s) nb T m t) → bt_WP P (d + 5) mi_M_every [] (I, L) (kI fun x3 I1 N2 => bt_WP P (d + 5) mi_M_soundOf [vr 35 0, vi (nI k), vi (nI t), vi (nI m), vi x3] (I1, N2) (kI fun x6 I4 N5 => bt_WP P (d + 5) mi_M_told [vr 35 0, vi (nI s), vi (nI m)] (I4, N5) (kL fun x9 I7 N8 => (¬ (lg_cmp (x6.toInt64) x9) = 0 → (vp_in ((8 * nI m) + nI t) 192 ∧ (bt_Go P (d + 5) mi_M_findWalks (kV f) 174 [some (vr 35 0), some (vi (nI k)), some (vi (nI s)), some (vi (nI (min 24 (Z s)))), some (vi (nI m)), some (vi (nI t + 1)), none, none, none] [] (I7, ul N8 58 0 (tn ((8 * nI m) + nI t)) 0)))) ∧ ((lg_cmp (x6.toInt64) x9) = 0 → (vp_in ((8 * nI m) + nI t) 192 ∧ (bt_Go P (d + 5) mi_M_findWalks (kV f) 174 [some (vr 35 0), some (vi (nI k)), some (vi (nI s)), some (vi (nI (min 24 (Z s)))), some (vi (nI m)), some (vi (nI t + 1)), none, none, none] [] (I7, ul N8 58 0 (tn ((8 * nI m) + nI t)) (lN v)))))))) := fun hv => by
      refine ru_M_every (cx_so (b := 255) h hr hk ht (by omega) (by omega) (fun I1 hr1 => sm_told hs (by omega) ?_))
      rw [amo_255 (by omega), e68 m (by omega), by_e1 (hby m (by omega)), e8_i, ti_tn (by omega), nI_s]
      have hv8 : vp_in (nI (8 * m + t)) 192 := ti_in (by omega) (by omega)
      have hfw : ∀ w : Int64, w = lN (uwN (ftP L0 (SD I0 F T nb hu k) s) nb T m t) → bt_Go P (d + 5) mi_M_findWalks (kV f) 174 [some (vr 35 0), some (vi (nI k)), some (vi (nI s)), some (vi (nI (min 24 (Z s)))), some (vi (nI m)), some (vi (nI (t + 1))), none, none, none] [] (I1, ul L 58 0 (8 * m + t) w) := fun w hw => g I1 _ hr1 (fun a b c z => by rw [ul_k (by omega)]; exact ho a b c z) (fun m' o' a1 a2 => by rw [ul_k (by decide)]; exact hn m' o' a1 a2) (uwL_u hT8 hl ht hw)
      have hft : SD I0 F T nb hu k t m = (L 34 s m).toInt32 ↔ ftP L0 (SD I0 F T nb hu k) s m t := by
        show _ ↔ SD I0 F T nb hu k t m = vL L0 s m
        rw [← eLv]; exact Iff.rfl
      refine ⟨fun y => ⟨hv8, hfw 0 ?_⟩, fun y => ⟨hv8, hfw _ ?_⟩⟩
      · rw [uwN_f (fun z => y (hft.mpr z))]; rfl
      · rcases hv with hv | hv
        · exact absurd (hft.mp y) hv
        · rw [hv]
    refine ru_M_findWalks_198 ⟨fun z => ?_, fun z => ⟨fun z2 => ?_, fun z2 => ?_⟩⟩
    · rw [hT, nle (by omega) (by omega)] at z
      have eo : o = T := by omega
      refine hst ?_
      by_cases hf : ftP L0 (SD I0 F T nb hu k) s m t
      · right
        cases m with
        | zero => rw [uwN_0 hf, hv1 rfl]
        | succ m' => rw [uwN_s hf, hv2 m' rfl, eo]
      · exact Or.inl hf
    · have q2 : m = 0 := by have := (nle (b := 0) (by omega) (by omega)).mp z2; omega
      refine hst ?_
      subst q2
      by_cases hf : ftP L0 (SD I0 F T nb hu k) s 0 t
      · right; rw [uwN_0 hf, hv1 rfl]
      · exact Or.inl hf
    · obtain ⟨m', rfl⟩ : ∃ m', m = m' + 1 := ⟨m - 1, by
        have h50 : ¬ m = 0 := fun y => z2 (by rw [y]; decide)
        omega⟩
      have hoT : o < T := by
        have h50 : ¬ T ≤ o := fun y => z (by rw [hT, nle (by omega) (by omega)]; exact y)
        omega
      obtain ⟨q, rfl⟩ : ∃ q', q = q' + 1 := ⟨q - 1, by omega⟩
      have hcv := hv2 m' rfl
      refine sm_mayGo hx.1.2.1 ht (by omega) ?_
      rw [nI_pred, nI_s, e8_i]
      refine bP_br (fun y => ?_) (fun y => ⟨ti_in (by omega) (by omega), ?_⟩)
      · exact sm_fw198 h hk hs xs hm ht g q (o + 1) I L v (by omega) hr ho hn hl hv1 (fun m2 em => by rw [show m2 = m' by omega, csN_f y]; exact hcv)
      · rw [ti_tn (by omega), hl.1 m' o (by omega) hoT, hcv]
        refine sm_capped (csN_le o) (uwN_le _ _) ?_
        exact sm_fw198 h hk hs xs hm ht g q (o + 1) I L _ (by omega) hr ho hn hl (fun z => by omega) (fun m2 em => by rw [show m2 = m' by omega, csN_t y])
  termination_by q => q
theorem sm_fw174 (h : cx P I0 L0 T hu bn nb X Z F) {k s m : Nat} (hk : k < 4) (hs : s < 6) (xs : X s = some (.inr 0)) (hm : m < min 24 (Z s))
    (g : ∀ I' L', mR I0 I' T (frD T nb hu) → offW L0 L' → onF (ftP L0 (SD I0 F T nb hu k) s) nb T (min 24 (Z s)) L' → uwL (ftP L0 (SD I0 F T nb hu k) s) nb T L' m T → bt_Go P (d + 5) mi_M_findWalks (kV f) 165 [some (vr 35 0), some (vi (nI k)), some (vi (nI s)), some (vi (nI (min 24 (Z s)))), some (vi (nI (m + 1))), none, none, none, none] [] (I', L')) :
    ∀ (q t : Nat) (I : m_I) (L : m_L), t + q = T → mR I0 I T (frD T nb hu) → offW L0 L → onF (ftP L0 (SD I0 F T nb hu k) s) nb T (min 24 (Z s)) L → uwL (ftP L0 (SD I0 F T nb hu k) s) nb T L m t → bt_Go P (d + 5) mi_M_findWalks (kV f) 174 [some (vr 35 0), some (vi (nI k)), some (vi (nI s)), some (vi (nI (min 24 (Z s)))), some (vi (nI m)), some (vi (nI t)), none, none, none] [] (I, L)
  | 0, t, I, L, e, hr, ho, hn, hl => by
    have hT8 := (cx_T h).2
    have e : t = T := by omega
    subst e
    have hT : I 35 0 1 = nI t := (cx_S h (offW_S hr ho)).1.2.1.1
    refine ru_M_findWalks_174 ⟨fun _ => ?_, fun z => absurd (by rw [hT]; exact Int32.le_refl _) z⟩
    rw [nI_s]
    exact g I L hr ho hn hl
  | q + 1, t, I, L, e, hr, ho, hn, hl => by
    have hT8 := (cx_T h).2
    have hT : I 35 0 1 = nI T := (cx_S h (offW_S hr ho)).1.2.1.1
    have hgo : ∀ v : Nat, (m = 0 → v = 1) → (¬ m = 0 → v = 0) → bt_Go P (d + 5) mi_M_findWalks (kV f) 198 [some (vr 35 0), some (vi (nI k)), some (vi (nI s)), some (vi (nI (min 24 (Z s)))), some (vi (nI m)), some (vi (nI t)), some (vl (lN v)), none, some (vi (nI 0))] [] (I, L) := fun v v1 v2 =>
      sm_fw198 h hk hs xs hm (by omega) (fun I' L' a1 a2 a3 a4 => sm_fw174 h hk hs xs hm g q (t + 1) I' L' (by omega) a1 a2 a3 a4) T 0 I L v (by omega) hr ho hn hl v1 (fun m' em => by rw [v2 (by omega)]; rfl)
    have h0 : nI m = 0 ↔ m = 0 := neq (b := 0) (by omega) (by omega)
    refine ru_M_findWalks_174 ⟨fun z => ?_, fun _ => ⟨fun z => hgo 0 (fun y => absurd (h0.mpr y) z) (fun _ => rfl), fun z => hgo 1 (fun _ => rfl) (fun y => absurd (h0.mp z) y)⟩⟩
    rw [hT, nle (by omega) (by omega)] at z; omega
theorem sm_fw165 (h : cx P I0 L0 T hu bn nb X Z F) {k s : Nat} (hk : k < 4) (hs : s < 6) (xs : X s = some (.inr 0))
    (g : ∀ I' L', mR I0 I' T (frD T nb hu) → offW L0 L' → onF (ftP L0 (SD I0 F T nb hu k) s) nb T (min 24 (Z s)) L' → (∀ m' o, m' < min 24 (Z s) → o < T → L' 58 0 (8 * m' + o) = lN (uwN (ftP L0 (SD I0 F T nb hu k) s) nb T m' o)) → f I' L') :
    ∀ (q m : Nat) (I : m_I) (L : m_L), m + q = min 24 (Z s) → mR I0 I T (frD T nb hu) → offW L0 L → onF (ftP L0 (SD I0 F T nb hu k) s) nb T (min 24 (Z s)) L → (∀ m' o, m' < m → o < T → L 58 0 (8 * m' + o) = lN (uwN (ftP L0 (SD I0 F T nb hu k) s) nb T m' o)) → bt_Go P (d + 5) mi_M_findWalks (kV f) 165 [some (vr 35 0), some (vi (nI k)), some (vi (nI s)), some (vi (nI (min 24 (Z s)))), some (vi (nI m)), none, none, none, none] [] (I, L)
  | 0, m, I, L, e, hr, ho, hn, hl => by
    have e : m = min 24 (Z s) := by omega
    rw [← e] at g hn ⊢
    exact ru_M_findWalks_165 ⟨fun _ => g I L hr ho hn hl, fun z => absurd (Int32.le_refl _) z⟩
  | q + 1, m, I, L, e, hr, ho, hn, hl => by
    refine ru_M_findWalks_165 ⟨fun z => absurd ((nle (by omega) (by omega)).mp z) (by omega), fun _ => ?_⟩
    refine sm_fw174 h hk hs xs (m := m) (by omega) (fun I' L' a1 a2 a3 a4 => sm_fw165 h hk hs xs g q (m + 1) I' L' (by omega) a1 a2 a3 (fun m' o b1 b2 => ?_)) T 0 I L (by omega) hr ho hn ⟨hl, fun o ho => by omega⟩
    by_cases e : m' = m
    · subst e; exact a4.2 o b2
    · exact a4.1 m' o (by omega) b2
theorem sm_fw15 (h : cx P I0 L0 T hu bn nb X Z F) {k s : Nat} (hk : k < 4) (hs : s < 6) (xs : X s = some (.inr 0))
    (g : ∀ I' L', mR I0 I' T (frD T nb hu) → offW L0 L' → onF (ftP L0 (SD I0 F T nb hu k) s) nb T (min 24 (Z s)) L' → (∀ m' o, m' < min 24 (Z s) → o < T → L' 58 0 (8 * m' + o) = lN (uwN (ftP L0 (SD I0 F T nb hu k) s) nb T m' o)) → f I' L') :
    ∀ (m : Nat) (I : m_I) (L : m_L), m ≤ min 24 (Z s) → mR I0 I T (frD T nb hu) → offW L0 L → (∀ m' o, m ≤ m' → m' < min 24 (Z s) → o < T → L 57 0 (8 * m' + o) = lN (onN (ftP L0 (SD I0 F T nb hu k) s) nb T (min 24 (Z s)) m' o)) → bt_Go P (d + 5) mi_M_findWalks (kV f) 15 [some (vr 35 0), some (vi (nI k)), some (vi (nI s)), some (vi (nI (min 24 (Z s)))), some (vi (nI m - 1)), none, none, none, none] [] (I, L)
  | 0, I, L, e, hr, ho, hl => by
    refine ru_M_findWalks_15 ⟨fun _ => ?_, fun z => absurd (show (nI 0 - 1 : Int32) < 0 by decide) z⟩
    exact sm_fw165 h hk hs xs g (min 24 (Z s)) 0 I L (by omega) hr ho (fun m' o a1 a2 => hl m' o (by omega) a1 a2) (fun m' o a1 a2 => by omega)
  | m + 1, I, L, e, hr, ho, hl => by
    rw [nI_pred]
    refine ru_M_findWalks_15 ⟨fun z => absurd z (n_neg (by omega)), fun _ => ?_⟩
    refine sm_fw23 h hk hs xs (m := m) (by omega) (fun I' L' a1 a2 a3 => sm_fw15 h hk hs xs g m I' L' (by omega) a1 a2 (fun m' o b1 b2 b3 => ?_)) T 0 I L (by omega) hr ho ⟨fun m' o b1 b2 b3 => hl m' o (by omega) b2 b3, fun o b1 => by omega⟩
    by_cases e : m' = m
    · subst e; exact a3.2 o b3
    · exact a3.1 m' o (by omega) b2 b3
theorem sm_findWalks (h : cx P I L T hu bn nb X Z F) {k s : Nat} (hk : k < 4) (hs : s < 6) (xs : X s = some (.inr 0))
    (g : ∀ I' L', mR I I' T (frD T nb hu) → offW L L' → onF (ftP L (SD I F T nb hu k) s) nb T (min 24 (Z s)) L' → (∀ m' o, m' < min 24 (Z s) → o < T → L' 58 0 (8 * m' + o) = lN (uwN (ftP L (SD I F T nb hu k) s) nb T m' o)) → f I' L') : bt_WP P (d + 6) mi_M_findWalks [vr 35 0, vi (nI k), vi (nI s)] (I, L) (kV f) := by
  refine ru_M_findWalks (cx_far h (fun I1 hr => ?_))
  obtain ⟨ks, -, -, za, -⟩ := row_e (cx_row (cx_S h (mR_Scr (L := L) hr)) hs xs)
  exact sm_minutesOf hs ks za (sm_fw15 h hk hs xs g (min 24 (Z s)) I1 L (Nat.le_refl _) hr (fun _ _ _ _ => rfl) (fun m' o a1 a2 => by omega))
end WYM
