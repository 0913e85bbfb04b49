/-! fits, canBe: joint -/
section FTS
variable {P : bt_PT} {d : Nat} {f : Int32 → m_I → m_L → Prop} {I0 I : m_I} {L0 L : m_L} {T hu bn : Nat} {nb : Nat → Nat} {X : Nat → sH} {Z : Nat → Nat} {F : lF}
theorem sm_walksMany (h : cx P I0 L0 T hu bn nb X Z F) {s : Nat} {fit : Nat → Nat → Prop} (hs : s < 6) (xs : X s = some (.inr 0)) (hr : mR I0 I T (frD T nb hu)) (ho : offW L0 L) (hn : onF fit nb T (min 24 (Z s)) L) (g : f (if min 24 (Z s) = 0 then 1 else nI (csN (onN fit nb T (min 24 (Z s)) 0) (2 ^ T - 1) T)) I L) : bt_WP P (d + 2) mi_M_walksMany [vr 35 0, vi (nI s)] (I, L) (kI f) := by
  have hx := cx_S h (offW_S hr ho)
  have hT8 := (cx_T h).2
  have hT : I 35 0 1 = nI T := hx.1.2.1.1
  obtain ⟨ks, -, -, za, -⟩ := row_e (cx_row hx hs xs)
  refine ru_M_walksMany (sm_minutesOf hs ks za ⟨fun q => ?_, fun q => ?_⟩)
  · have q' : ¬ min 24 (Z s) = 0 := fun y => q (by rw [y]; rfl)
    rw [if_neg q'] at g
    have hl : ∀ (k t : Nat), t + k = T → bt_Go P (d + 1) mi_M_walksMany (kI f) 15 [some (vr 35 0), none, some (vl (lN (csN (onN fit nb T (min 24 (Z s)) 0) (2 ^ T - 1) t))), none, some (vi (nI t))] [] (I, L) := by
      intro k
      induction k with
      | zero =>
        intro t e
        have e : t = T := by omega
        subst e
        refine ru_M_walksMany_15 ⟨fun _ => ?_, fun z => absurd (by rw [hT]; exact Int32.le_refl _) z⟩
        rw [lN_i]; exact g
      | succ k ih =>
        intro t e
        refine ru_M_walksMany_15 ⟨fun z => ?_, fun _ => ⟨ti_in (by omega) (by omega), ?_⟩⟩
        · rw [hT, nle (by omega) (by omega)] at z; omega
        · have e57 := hn 0 t (by omega) (by omega)
          rw [Nat.mul_zero, Nat.zero_add] at e57
          rw [ti_tn (by omega), e57]
          refine sm_capped (csN_le t) (onN_le (by omega)) ?_
          have ih' := ih (t + 1) (by omega)
          rw [csN_t (by rw [Nat.testBit_two_pow_sub_one, decide_eq_true (by omega)])] at ih'
          rw [nI_s]; exact ih'
    exact hl T 0 (by omega)
  · have q' : min 24 (Z s) = 0 := (neq (b := 0) (by omega) (by omega)).mp q
    rw [if_pos q'] at g; exact g
theorem lg_0 {a : Nat} (ha : a ≤ 999999999) : lg_cmp (lN a) 0 = 0 ↔ a = 0 := by
  rw [lg_eq]
  exact lN_eq (b := 0) (by omega) (by omega)
theorem lg_00 {a : Nat} (ha : a ≤ 999999999) : lg_cmp (lN a) 0 ≤ 0 ↔ a = 0 := by
  have e : (lN a).toInt = (a : Int) := pk_lT (by omega)
  have e0 : (0 : Int64).toInt = 0 := rfl
  rw [← Int32.not_lt, lg_gt, e, e0]; omega
theorem sm_ft134 (h : cx P I0 L0 T hu bn nb X Z F) {fit : Nat → Nat → Prop} {n m : Nat} {v at' : Int32} (hn24 : n ≤ 24) (hr : mR I0 I T (frD T nb hu)) (ho : offW L0 L) (hn : onF fit nb T n L) (hm : m < n) (hp : 0 < csN (onN fit nb T n 0) (2 ^ T - 1) T) (hat : ∀ m', m = m' + 1 → at' = nI (gaN (onN fit nb T n) nb (2 ^ T - 1) m'))
    (g : bt_Go P (d + 2) mi_M_fits (kI f) 122 [some (vr 35 0), none, some (vi v), none, some (vi (nI (gaN (onN fit nb T n) nb (2 ^ T - 1) m))), some (vi (nI (m + 1))), none] [] (I, L)) : ∀ (q t : Nat), t + q = gaN (onN fit nb T n) nb (2 ^ T - 1) m → bt_Go P (d + 2) mi_M_fits (kI f) 134 [some (vr 35 0), none, some (vi v), none, some (vi at'), some (vi (nI m)), some (vi (nI t))] [] (I, L)
  | q, t, e => by
    have hx := cx_S h (offW_S hr ho)
    have hT8 := (cx_T h).2
    obtain ⟨-, a1, a2, a3, a4⟩ := ga_s hT8 (by omega) hp m hm
    have e57 := hn m t hm (by omega)
    have hol : onN fit nb T n m t ≤ 999999999 := onN_le hm
    refine ru_M_fits_134 ?_
    rw [e8_i, ti_tn (by omega), e57, lg_0 hol, nI_s, nI_s]
    refine ⟨ti_in (by omega) (by omega), fun z => ?_, fun z => ⟨fun z2 => ?_, fun z2 => ?_⟩⟩
    · have hne : ¬ q = 0 := fun y => by
        subst y
        have et : t = gaN (onN fit nb T n) nb (2 ^ T - 1) m := by omega
        rw [← et] at a3; omega
      obtain ⟨q, rfl⟩ : ∃ q', q = q' + 1 := ⟨q - 1, by omega⟩
      exact sm_ft134 h hn24 hr ho hn hm hp hat g q (t + 1) (by omega)
    · have em : m = 0 := by have := (nle (b := 0) (by omega) (by omega)).mp z2; omega
      subst em
      have et : t = gaN (onN fit nb T n) nb (2 ^ T - 1) 0 := by
        refine Classical.byContradiction fun y => a4 t (by omega) ⟨?_, by omega⟩
        show (2 ^ T - 1).testBit t = true
        rw [Nat.testBit_two_pow_sub_one, decide_eq_true (by omega)]
      rw [et]; exact g
    · obtain ⟨m', rfl⟩ : ∃ m', m = m' + 1 := ⟨m - 1, by
        have h50 : ¬ m = 0 := fun y => z2 (by rw [y]; decide)
        omega⟩
      obtain ⟨-, b1, -⟩ := ga_s hT8 (by omega) hp m' (by omega)
      rw [hat m' rfl]
      refine sm_mayGo hx.1.2.1 b1 (by omega) (bP_br' (fun y => ?_) (fun y => ?_))
      · have et : t = gaN (onN fit nb T n) nb (2 ^ T - 1) (m' + 1) := by
          refine Classical.byContradiction fun y2 => a4 t (by omega) ⟨y, by omega⟩
        rw [et]; exact g
      · have hne : ¬ q = 0 := fun y2 => by
          subst y2
          have et : t = gaN (onN fit nb T n) nb (2 ^ T - 1) (m' + 1) := by omega
          rw [← et] at a2; exact y a2
        obtain ⟨q, rfl⟩ : ∃ q', q = q' + 1 := ⟨q - 1, by omega⟩
        have := sm_ft134 h hn24 hr ho hn hm hp hat g q (t + 1) (by omega)
        rw [hat m' rfl] at this; exact this
  termination_by q => q
theorem sm_ft122 (h : cx P I0 L0 T hu bn nb X Z F) {fit : Nat → Nat → Prop} {n M : Nat} {v : Int32} (e2 : v - v / 100 * 100 = nI M) (hn24 : n ≤ 24) (hr : mR I0 I T (frD T nb hu)) (ho : offW L0 L) (hn : onF fit nb T n L) (hM : M < n) (hp : 0 < csN (onN fit nb T n 0) (2 ^ T - 1) T) (g : f (nI (gaN (onN fit nb T n) nb (2 ^ T - 1) M)) I L) : ∀ (q m : Nat) (at' : Int32), m + q = M + 1 → (∀ m', m = m' + 1 → at' = nI (gaN (onN fit nb T n) nb (2 ^ T - 1) m')) → bt_Go P (d + 2) mi_M_fits (kI f) 122 [some (vr 35 0), none, some (vi v), none, some (vi at'), some (vi (nI m)), none] [] (I, L)
  | 0, m, at', e, hat => by
    rw [hat M (by omega)]
    refine ru_M_fits_122 ⟨by decide, ?_⟩
    rw [e2]
    exact ⟨fun _ => g, fun z => absurd ((nlt (by omega) (by omega)).mpr (by omega)) z⟩
  | q + 1, m, at', e, hat => by
    refine ru_M_fits_122 ⟨by decide, ?_⟩
    rw [e2]
    refine ⟨fun z => absurd ((nlt (by omega) (by omega)).mp z) (by omega), fun _ => ?_⟩
    exact sm_ft134 h hn24 hr ho hn (by omega) hp hat (sm_ft122 h e2 hn24 hr ho hn hM hp g q (m + 1) _ (by omega) (fun m' em => by rw [show m' = m by omega])) _ 0 (Nat.zero_add _)
theorem sm_cb79 (h : cx P I0 L0 T hu bn nb X Z F) {fit : Nat → Nat → Prop} {n M : Nat} {v : Int32} (e2 : v - v / 100 * 100 = nI M) (hn24 : n ≤ 24) (hr : mR I0 I T (frD T nb hu)) (ho : offW L0 L) (hn : onF fit nb T n L) (hu' : ∀ m' o, m' < n → o < T → L 58 0 (8 * m' + o) = lN (uwN fit nb T m' o)) (hM : M < n) {w : Nat} (hw : bsN (fun t => t) (fun t => 0 < onN fit nb T n M t ∧ 0 < uwN fit nb T M t) T = w) (g : (¬ nI w = 0 → f (nI w) I L) ∧ (nI w = 0 → f (-2) I L)) : ∀ (q t : Nat), t + q = T → bt_Go P d mi_M_canBe (kI f) 79 [some (vr 35 0), none, some (vi v), some (vi (nI (bsN (fun t => t) (fun t => 0 < onN fit nb T n M t ∧ 0 < uwN fit nb T M t) t))), some (vi (nI t))] [] (I, L)
  | 0, t, e => by
    have hx := cx_S h (offW_S hr ho)
    have hT8 := (cx_T h).2
    have e : t = T := by omega
    subst e
    have hT : I 35 0 1 = nI t := hx.1.2.1.1
    refine ru_M_canBe_79 ⟨fun _ => ?_, fun z => absurd (by rw [hT]; exact Int32.le_refl _) z⟩
    rw [hw]; exact g
  | q + 1, t, e => by
    have hx := cx_S h (offW_S hr ho)
    have hT8 := (cx_T h).2
    have hT : I 35 0 1 = nI T := hx.1.2.1.1
    have ih := sm_cb79 h e2 hn24 hr ho hn hu' hM hw g q (t + 1) (by omega)
    refine ru_M_canBe_79 ⟨fun z => ?_, fun _ => ⟨by decide, ?_⟩⟩
    · rw [hT, nle (by omega) (by omega)] at z; omega
    · rw [e2, e8_i, ti_tn (by omega), hn M t hM (by omega), hu' M t hM (by omega), lg_00 (onN_le hM), lg_00 (uwN_le _ _), nI_s, nI_one (by omega), nI_or]
      refine ⟨ti_in (by omega) (by omega), fun z => ?_, fun z => ⟨by decide, ti_in (by omega) (by omega), fun z2 => ?_, fun z2 => ?_⟩⟩
      · rw [bsN_f (c := fun t => 0 < onN fit nb T n M t ∧ 0 < uwN fit nb T M t) (fun y => by have := y.1; omega)] at ih; exact ih
      · rw [bsN_f (c := fun t => 0 < onN fit nb T n M t ∧ 0 < uwN fit nb T M t) (fun y => by have := y.2; omega)] at ih; exact ih
      · rw [bsN_t (c := fun t => 0 < onN fit nb T n M t ∧ 0 < uwN fit nb T M t) ⟨by omega, by omega⟩] at ih; exact ih
theorem cb_eq {fit : Nat → Nat → Prop} {n M : Nat} (hF : gF I T nb) (hM : M < n) : bsN (fun t => t) (fun t => 0 < onN fit nb T n M t ∧ 0 < uwN fit nb T M t) T = poN (onN fit nb T n) nb T (2 ^ T - 1) M := by
  apply Nat.eq_of_testBit_eq
  intro i
  have h1 := po_eq (fit := fit) (n := n) hF.1.2.1 (nbT hF.1) hF.2.2.1 M hM i
  have h2 := bsN_bit (w := fun t => t) (c := fun t => 0 < onN fit nb T n M t ∧ 0 < uwN fit nb T M t) (t := i) T
  cases a : (bsN (fun t => t) (fun t => 0 < onN fit nb T n M t ∧ 0 < uwN fit nb T M t) T).testBit i with
  | true =>
    obtain ⟨m, m1, m2, m3⟩ := h2.mp a
    subst m2
    exact (h1.mpr ⟨m1, m3⟩).symm
  | false =>
    cases b : (poN (onN fit nb T n) nb T (2 ^ T - 1) M).testBit i with
    | false => rfl
    | true =>
      obtain ⟨m1, m2⟩ := h1.mp b
      rw [h2.mpr ⟨i, m1, rfl, m2⟩] at a; cases a
theorem sp_br_neg {s : Nat} {v w : Int32} (h0 : v < 0) (h : f (-1) I L) : bt_WP P (d + 1) mi_B_bookRefusal [vr 0 0, vr 33 s, vi v, vi w] (I, L) (kI f) :=
  ru_B_bookRefusal ⟨by decide, (fun z => by cases z), fun _ => ⟨fun _ => h, fun z => absurd h0 z⟩⟩
theorem sp_br_sort {s : Nat} {v w : Int32} (h0 : ¬ v < 0) (hk : oob (v / 100) 4) (h : f (-1) I L) : bt_WP P (d + 2) mi_B_bookRefusal [vr 0 0, vr 33 s, vi v, vi w] (I, L) (kI f) :=
  ru_B_bookRefusal ⟨by decide, (fun z => by cases z), fun _ => ⟨fun z => absurd z h0, fun _ => ⟨by decide, sp_isSort_out hk ⟨fun _ => h, (fun z => absurd rfl z)⟩⟩⟩⟩
theorem sp_br_in {s z k M : Nat} {x : sH} {v w : Int32} (hS : gS1 I L bn s x z) (hb : bn ≤ 50) (h0 : ¬ v < 0) (hk : k < 4) (hM : M < 100) (e1 : v / 100 = nI k) (e2 : v - v / 100 * 100 = nI M) (c1 : w = 0 → 24 ≤ M → f (-1) I L) (c2 : (w = 0 → M < 24) → rfI x < 0 → f (rfI x) I L) (c3 : x = some (.inr 0) → w = 0 → M < 24 → min 24 z ≤ M → f (-1) I L) (c4 : x = some (.inr 0) → (w = 0 → M < min 24 z) → f 0 I L) : bt_WP P (d + 2) mi_B_bookRefusal [vr 0 0, vr 33 s, vi v, vi w] (I, L) (kI f) := by
  have hz : z ≤ 60 := hS.1
  have hrest : (w = 0 → M < 24) → bt_WP P (d + 1) mi_Sh_isEmpty [vr 33 s] (I, L) (kI fun x18 I16 N17 => (x18 = 0 → (bt_WP P (d + 1) mi_Sh_isBytes [vr 33 s] (I16, N17) (kI fun x21 I19 N20 => (¬ x21 = 0 → ((¬ w = 0 → (f 0 I19 N20)) ∧ (w = 0 → (bt_WP P (d + 1) mi_Sh_minutes [vr 33 s] (I19, N20) (kI fun x24 I22 N23 => (x24 ≤ nI M → (f (-1) I22 N23)) ∧ (¬ x24 ≤ nI M → (f 0 I22 N23))))))) ∧ (x21 = 0 → (f (-12) I19 N20))))) ∧ (¬ x18 = 0 → (f (-11) I16 N17))) := fun hw => by
    refine sp_isEmpty hS hb (bP_br (fun q => sp_isBytes hS (bP_br' (fun q2 => ⟨fun y => c4 q2 (fun y2 => absurd y2 y), fun y => sp_minutes hS.2.2.2.1 hz ⟨fun y2 => ?_, fun y2 => ?_⟩⟩) (fun q2 => ?_))) (fun q => ?_))
    · exact c3 q2 y (hw y) ((nle (by omega) (by omega)).mp y2)
    · have : ¬ min 24 z ≤ M := fun y3 => y2 ((nle (by omega) (by omega)).mpr y3)
      exact c4 q2 (fun _ => by omega)
    · have := c2 hw ((rf_lt _).mpr q2)
      rcases x with _ | b | k
      · exact absurd rfl q
      · exact this
      · cases k with
        | zero => exact absurd rfl q2
        | succ k => exact this
    · subst q
      exact c2 hw (by decide)
  refine ru_B_bookRefusal ⟨by decide, (fun z => by cases z), fun _ => ⟨fun z => absurd z h0, fun _ => ⟨by decide, ?_⟩⟩⟩
  rw [e2, e1]
  refine sp_isSort_in hk ⟨(fun z => absurd z (by decide)), fun _ => ⟨fun y => hrest (fun y2 => absurd y2 y), fun y => ?_⟩⟩
  by_cases q : M < 24
  · exact sp_isMin q ⟨fun _ => hrest (fun _ => q), (fun z => absurd z (by decide))⟩
  · exact sp_isMin_out (oobR ((nle (by omega) (by omega)).mpr (by omega))) ⟨(fun z => absurd rfl z), fun _ => c1 y (by omega)⟩
theorem jn_fits {G : m_I → m_L → Prop} {s v : Int32} (hx : cx P I L T hu bn nb X Z F) (h : ∀ I' L', Scr I L I' L' → G I' L') :
    bt_WP P (d + 7) mi_B_fits [vr 0 0, vi s, vi v] (I, L) (kI fun x I1 L1 => bt_WP P (d + 7) mi_M_fits [vr 35 0, vi s, vi v] (I1, L1) (kI fun y I2 L2 => x = y ∧ G I2 L2)) := by
  have hr : G I L := h I L Scr_rf
  rcases ix s 6 (by omega) with hs | ⟨s, hs, rfl⟩
  · have hm : bt_WP P (d + 7) mi_M_fits [vr 35 0, vi s, vi v] (I, L) (kI fun y I2 L2 => (-1) = y ∧ G I2 L2) := ru_M_fits (sm_isShelf (bP_br (fun _ => ⟨rfl, hr⟩) (fun z => absurd hs z)))
    exact ru_B_fits (sp_sAo hs (ru_B_fits_5 ⟨by decide, fun _ => ru_B_bookRefusal_b ⟨by decide, fun _ => ⟨fun _ => hm, (fun z => absurd z (by decide))⟩, (fun z => absurd rfl z)⟩, fun _ => ru_B_bookRefusal_b ⟨by decide, fun _ => ⟨fun _ => hm, (fun z => absurd z (by decide))⟩, (fun z => absurd rfl z)⟩⟩))
  refine ru_B_fits (sp_sA hs (ru_B_fits_5_b ⟨by decide, ?_⟩))
  have hso : ¬ oob (nI s) 6 := n_oob hs (by omega)
  rcases hd_c v with h0 | ⟨N, hN, rfl, h0, e1, e2⟩
  · have hm : bt_WP P (d + 7) mi_M_fits [vr 35 0, vi (nI s), vi v] (I, L) (kI fun y I2 L2 => (-1) = y ∧ G I2 L2) := ru_M_fits (sm_isShelf (bP_br (fun z => absurd hso z) (fun _ => ⟨fun _ => ⟨rfl, hr⟩, fun z => absurd h0 z⟩)))
    exact ⟨fun _ => sp_br_neg h0 ⟨fun _ => hm, (fun z => absurd z (by decide))⟩, fun _ => sp_br_neg h0 ⟨fun _ => hm, (fun z => absurd z (by decide))⟩⟩
  rcases ix (nI (N / 100)) 4 (by omega) with hk | ⟨k, hk, ek⟩
  · have hm : bt_WP P (d + 7) mi_M_fits [vr 35 0, vi (nI s), vi (nI N)] (I, L) (kI fun y I2 L2 => (-1) = y ∧ G I2 L2) := ru_M_fits (sm_isShelf (bP_br (fun z => absurd hso z) (fun _ => ⟨fun z => absurd z h0, fun _ => ⟨by decide, by rw [e1]; exact sm_isSort_out hk ⟨(fun z => absurd rfl z), fun _ => ⟨rfl, hr⟩⟩⟩⟩)))
    exact ⟨fun _ => sp_br_sort h0 (by rw [e1]; exact hk) ⟨fun _ => hm, (fun z => absurd z (by decide))⟩, fun _ => sp_br_sort h0 (by rw [e1]; exact hk) ⟨fun _ => hm, (fun z => absurd z (by decide))⟩⟩
  rw [ek] at e1
  have hM : N % 100 < 100 := Nat.mod_lt _ (by omega)
  generalize hMe : N % 100 = M at *
  have h99 : nI M = 99 ↔ M = 99 := neq (b := 99) (by omega) (by omega)
  -- the reference, by what the class found
  have hm : ∀ (I1 : m_I) (Q : Int32 → m_I → m_L → Prop), Scr I L I1 L → (¬ M = 99 → 24 ≤ M → Q (-1) I1 L) → ((¬ M = 99 → M < 24) → rfI (X s) < 0 → Q (rfI (X s)) I1 L) → (X s = some (.inr 0) → ¬ M = 99 → min 24 (Z s) ≤ M → Q (-1) I1 L) → (X s = some (.inr 0) → (¬ M = 99 → M < min 24 (Z s)) → ∀ I' L', mR I1 I' T (frD T nb hu) → offW L L' → onF (ftP L (SD I1 F T nb hu k) s) nb T (min 24 (Z s)) L' → (M = 99 → Q (if min 24 (Z s) = 0 then 1 else nI (csN (onN (ftP L (SD I1 F T nb hu k) s) nb T (min 24 (Z s)) 0) (2 ^ T - 1) T)) I' L') ∧ (¬ M = 99 → csN (onN (ftP L (SD I1 F T nb hu k) s) nb T (min 24 (Z s)) 0) (2 ^ T - 1) T = 0 → Q (-2) I' L') ∧ (¬ M = 99 → 0 < csN (onN (ftP L (SD I1 F T nb hu k) s) nb T (min 24 (Z s)) 0) (2 ^ T - 1) T → Q (nI (gaN (onN (ftP L (SD I1 F T nb hu k) s) nb T (min 24 (Z s))) nb (2 ^ T - 1) M)) I' L')) → bt_WP P (d + 7) mi_M_fits [vr 35 0, vi (nI s), vi (nI N)] (I1, L) (kI Q) := fun I1 Q q c1 c2 c3 c4 => by
    have hx1 := cx_S hx q
    have hxs := hx1.2.1.2 s hs
    refine ru_M_fits (sm_isShelf (bP_br (fun z => absurd hso z) (fun _ => ⟨fun z => absurd z h0, fun _ => ⟨by decide, ?_⟩⟩)))
    rw [e2, e1]
    have hfw : X s = some (.inr 0) → (¬ M = 99 → M < min 24 (Z s)) → bt_WP P (d + 6) mi_M_findWalks [vr 35 0, vi (nI k), vi (nI s)] (I1, L) (kV fun I10 N11 => bt_WP P (d + 6) mi_M_walksMany [vr 35 0, vi (nI s)] (I10, N11) (kI fun x14 I12 N13 => ¬ (100 : Int32) = 0 ∧ ((¬ nI M = 99 → ((¬ x14 = 0 → (bt_Go P (d + 6) mi_M_fits (kI Q) 122 [some (vr 35 0), none, some (vi (nI N)), none, some (vi (-1)), some (vi 0), none] [] (I12, N13))) ∧ (x14 = 0 → (Q (-2) I12 N13)))) ∧ (nI M = 99 → (Q x14 I12 N13))))) := fun xs hmi => by
      refine sm_findWalks hx1 hk hs xs (fun I' L' a1 a2 a3 a4 => sm_walksMany hx1 hs xs a1 a2 a3 ⟨by decide, fun y => ?_, fun y => (c4 xs hmi I' L' a1 a2 a3).1 (h99.mp y)⟩)
      have y' : ¬ M = 99 := fun z => y (h99.mpr z)
      have hlt := hmi y'
      have hle := csN_le (g := onN (ftP L (SD I1 F T nb hu k) s) nb T (min 24 (Z s)) 0) (b := 2 ^ T - 1) T
      rw [if_neg (show ¬ min 24 (Z s) = 0 by omega)]
      refine ⟨fun z => ?_, fun z => (c4 xs hmi I' L' a1 a2 a3).2.1 y' ((neq (b := 0) (by omega) (by omega)).mp z)⟩
      have hp : 0 < csN (onN (ftP L (SD I1 F T nb hu k) s) nb T (min 24 (Z s)) 0) (2 ^ T - 1) T := by
        have h50 : ¬ csN (onN (ftP L (SD I1 F T nb hu k) s) nb T (min 24 (Z s)) 0) (2 ^ T - 1) T = 0 := fun w => z (by rw [w]; rfl)
        omega
      exact sm_ft122 (M := M) hx1 e2 (by omega) a1 a2 a3 hlt hp ((c4 xs hmi I' L' a1 a2 a3).2.2 y' hp) (M + 1) 0 (-1) (by omega) (fun m' em => by omega)
    refine sm_isSort_in hk ⟨fun _ => sm_rowFault hs hxs hx1.2.1.1 ⟨fun z => ⟨by decide, fun y => ⟨by decide, ?_⟩, fun y => ⟨by decide, ?_⟩⟩, fun z => ⟨by decide, fun y => ?_, fun y => ⟨by decide, ?_⟩⟩⟩, (fun z => absurd z (by decide))⟩
    · exact hfw ((rf_le _).mp z) (fun w => absurd (h99.mp y) w)
    · have xs := (rf_le _).mp z
      obtain ⟨ks, -, -, zs, -⟩ := row_e (cx_row hx1 hs xs)
      refine sm_minutesOf hs ks zs ⟨fun w => ⟨by decide, hfw xs (fun _ => (nlt (by omega) (by omega)).mp w)⟩, fun w => c3 xs (fun w2 => y (h99.mpr w2)) ?_⟩
      have : ¬ M < min 24 (Z s) := fun w2 => w ((nlt (by omega) (by omega)).mpr w2)
      omega
    · exact sm_rowFault hs hxs hx1.2.1.1 (c2 (fun w => absurd (h99.mp y) w) (Int32.not_le.mp z))
    · by_cases w : M < 24
      · refine sm_isMinute ?_
        rw [bP_t (n_oob w (by omega))]
        exact ⟨(fun z => absurd z (by decide)), fun _ => sm_rowFault hs hxs hx1.2.1.1 (c2 (fun _ => w) (Int32.not_le.mp z))⟩
      · refine sm_isMinute ?_
        rw [bP_f (fun w2 => w2 (oobR ((nle (by omega) (by omega)).mpr (by omega))))]
        exact ⟨fun _ => c1 (fun w2 => y (h99.mpr w2)) (by omega), (fun z => absurd rfl z)⟩
  have hS := hx.2.1.2 s hs
  have hb := hx.2.1.1
  rw [e2, e1]
  have hcl : X s = some (.inr 0) → (¬ M = 99 → M < min 24 (Z s)) → ∀ (R : Int32 → m_I → m_L → Prop), (∀ I', Scr I L I' L → off18 I' I' → (∀ m' o, m' < min 24 (Z s) → o < T → I' 18 m' o = nI (onN (ftP L (SD I F T nb hu k) s) nb T (min 24 (Z s)) m' o)) → cx P I' L T hu bn nb X Z F → R (if min 24 (Z s) = 0 then 1 else nI (csN (onN (ftP L (SD I F T nb hu k) s) nb T (min 24 (Z s)) 0) (2 ^ T - 1) T)) I' L) → bt_WP P (d + 6) mi_So_fill [vr 12 0, vi (nI k)] (I, L) (kV fun I15 N16 => bt_WP P (d + 6) mi_Wa_countFitting [vr 16 0, vr 12 0, vr 33 s] (I15, N16) (kI R)) := fun xs _ R hR => by
    refine cx_fill hx hk (fun I1 q1 q2 => ?_)
    have q : Scr I L I1 L := offS_Scr q1
    have hx1 := cx_S hx q
    refine sp_countFitting hx1 hs xs q2 (fun I2 q3 q4 => ?_)
    have q5 : Scr I L I2 L := Scr_tr q (off18_S q3)
    exact hR I2 q5 (fun _ _ _ _ => rfl) q4 (cx_S hx q5)
  refine ⟨fun y => ?_, fun y => ?_⟩
  · have y' : ¬ M = 99 := fun z => y (h99.mpr z)
    refine sp_br_in hS hb h0 hk (by omega) (by rw [e1]) (by rw [e2]) (fun _ w => ⟨fun _ => hm I _ Scr_rf (fun _ _ => ⟨rfl, hr⟩) (fun w2 _ => absurd (w2 y') (by omega)) (fun _ _ _ => ⟨rfl, hr⟩) (fun _ w2 => absurd (w2 y') (by omega)), (fun z => absurd z (by decide))⟩) (fun w w2 => ?_) (fun xs _ w w2 => ⟨fun _ => hm I _ Scr_rf (fun _ _ => ⟨rfl, hr⟩) (fun _ w3 => absurd xs ((rf_lt _).mp w3)) (fun _ _ _ => ⟨rfl, hr⟩) (fun _ w3 => absurd (w3 y') (by omega)), (fun z => absurd z (by decide))⟩) (fun xs w => ?_)
    · refine ⟨fun _ => hm I _ Scr_rf (fun _ w3 => absurd (w rfl) (by omega)) (fun _ _ => ⟨rfl, hr⟩) (fun xs _ _ => absurd xs ((rf_lt _).mp w2)) (fun xs _ => absurd xs ((rf_lt _).mp w2)), fun w3 => ?_⟩
      rw [w3] at w2; exact absurd w2 (by decide)
    · have hlt := w rfl
      refine ⟨(fun z => absurd rfl z), fun _ => ⟨fun _ => ⟨by decide, hcl xs (fun _ => hlt) _ (fun I' q5 _ q4 hx' => ⟨fun _ => ⟨by decide, ?_⟩, (fun z => absurd rfl z)⟩)⟩, (fun z => by cases z)⟩⟩
      have eS : SD I' F T nb hu k = SD I F T nb hu k := by unfold SD; rw [snd_S q5]
      refine sp_firstAt hx' (fit := ftP L (SD I F T nb hu k) s) (by omega) hlt q4 (fun hp => ?_) (fun hz => ?_)
      · refine hm I' _ q5 (fun _ w3 => absurd hlt (by omega)) (fun _ w3 => absurd xs ((rf_lt _).mp w3)) (fun _ _ w3 => absurd hlt (by omega)) (fun _ _ I2 L2 a1 a2 a3 => ?_)
        rw [eS] at a3 ⊢
        exact ⟨fun z => absurd z y', fun _ z => absurd z (by omega), fun _ _ => ⟨rfl, h _ _ (Scr_tr q5 (offW_S a1 a2))⟩⟩
      · refine hm I' _ q5 (fun _ w3 => absurd hlt (by omega)) (fun _ w3 => absurd xs ((rf_lt _).mp w3)) (fun _ _ w3 => absurd hlt (by omega)) (fun _ _ I2 L2 a1 a2 a3 => ?_)
        rw [eS] at a3 ⊢
        exact ⟨fun z => absurd z y', fun _ _ => ⟨rfl, h _ _ (Scr_tr q5 (offW_S a1 a2))⟩, fun _ z => absurd z (by omega)⟩
  · have y' : M = 99 := h99.mp y
    refine sp_br_in hS hb h0 hk (by omega) (by rw [e1]) (by rw [e2]) (fun z => absurd z (by decide)) (fun _ w2 => ?_) (fun _ z => absurd z (by decide)) (fun xs _ => ?_)
    · refine ⟨fun _ => hm I _ Scr_rf (fun w3 => absurd y' w3) (fun _ _ => ⟨rfl, hr⟩) (fun xs _ _ => absurd xs ((rf_lt _).mp w2)) (fun xs _ => absurd xs ((rf_lt _).mp w2)), fun w3 => ?_⟩
      rw [w3] at w2; exact absurd w2 (by decide)
    · refine ⟨(fun z => absurd rfl z), fun _ => ⟨fun _ => ⟨by decide, hcl xs (fun z => absurd y' z) _ (fun I' q5 _ q4 hx' => ⟨(fun z => absurd z (by decide)), fun _ => ?_⟩)⟩, (fun z => by cases z)⟩⟩
      have eS : SD I' F T nb hu k = SD I F T nb hu k := by unfold SD; rw [snd_S q5]
      refine hm I' _ q5 (fun w3 => absurd y' w3) (fun _ w3 => absurd xs ((rf_lt _).mp w3)) (fun _ w3 => absurd y' w3) (fun _ _ I2 L2 a1 a2 a3 => ?_)
      rw [eS] at a3 ⊢
      exact ⟨fun _ => ⟨rfl, h _ _ (Scr_tr q5 (offW_S a1 a2))⟩, fun z => absurd y' z, fun z => absurd y' z⟩
end FTS
