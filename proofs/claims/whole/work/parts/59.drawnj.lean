/-! drawn: the reference, joint -/
section DRM
variable {P : bt_PT} {d : Nat} {f : Int32 → m_I → m_L → Prop} {I0 I : m_I} {L : m_L} {T hu bn : Nat} {nb : Nat → Nat} {X : Nat → sH} {Z : Nat → Nat} {F : lF}
theorem sm_dr110 (h : cx P I0 L T hu bn nb X Z F) {k w : Nat} {kn what : Int32} {zs : Nat → Int32} {tr : Nat → Nat → Nat} {tog wo aw : Nat → Int32} (hk : k < 4) (e1 : kn / 100 = nI k) (hd : dwR T nb (SD I0 F T nb hu k) what zs tr tog wo aw) (hT0 : 0 < T)
    (g : ∀ I', Scr I0 L I' L → (∀ t, t < T → I' 48 0 t = nI (frD T nb hu t)) → I' 35 0 38 = zs (24 * (w + 1)) → bt_Go P (d + 5) mi_M_drawn (kI f) 85 [some (vr 35 0), none, some (vi kn), some (vi what), some (vi (tog (w + 1))), some (vi (wo (w + 1))), some (vi (aw (w + 1))), some (vi (nI (w + 1))), none, none, none, none] [] (I', L)) :
    ∀ (q m : Nat) (tv : Int32) (I : m_I), m + q = 24 → Scr I0 L I L → (∀ t, t < T → I 48 0 t = nI (frD T nb hu t)) → (m = 0 → tv = nI (tr w 0) ∧ I 35 0 38 = zs (24 * w + 1)) → (∀ m', m = m' + 1 → tv = nI (tr w m') ∧ I 35 0 38 = zs (24 * w + m)) → bt_Go P (d + 5) mi_M_drawn (kI f) 110 [some (vr 35 0), none, some (vi kn), some (vi what), some (vi (tog w)), some (vi (wo w)), some (vi (aI (aw w) (fun m => ¬ SD I0 F T nb hu k (tr w m) m = -1 ∧ nI (tr w m) = what) m)), some (vi (nI w)), some (vi tv), some (vi (nI (cK (fun m => ¬ SD I0 F T nb hu k (tr w m) m = -1) m))), some (vi (nI m)), none] [] (I, L)
  | 0, m, tv, I, e, hs, hf, _, htv => by
    have e : m = 24 := by omega
    subst e
    have hc := cK_le (c := fun m => ¬ SD I0 F T nb hu k (tr w m) m = -1) 24
    have hz := (htv 23 rfl).2
    have g' := g I hs hf (by rw [hz]; rfl)
    obtain ⟨h1, h2, h3, h4, h5, h6, -⟩ := hd
    rw [h4, h6] at g'
    refine ru_M_drawn_110 ⟨fun _ => ?_, fun q => absurd (show (24 : Int32) ≤ nI 24 by decide) q⟩
    rw [nI_s]
    refine ⟨fun q => ?_, fun q => ?_⟩
    · rw [(h5 w).1 (fun z => q (by rw [z]; rfl))] at g'; exact g'
    · rw [(h5 w).2 ((neq (b := 0) (by omega) (by omega)).mp q)] at g'; exact g'
  | q + 1, m, tv, I, e, hs, hf, htv0, htv => by
    have hT8 := (cx_T h).2
    have htr := dw_T hd hT0 w
    have hsnd : ∀ (I' : m_I) (v : Int32), Scr I0 L I' L → (∀ t, t < T → I' 48 0 t = nI (frD T nb hu t)) → I' 35 0 38 = zs (24 * w + m + 1) → v = nI (tr w m) →
        bt_WP P (d + 5) mi_M_every [] (I', L) (kI fun x3 I1 N2 => bt_WP P (d + 5) mi_M_soundOf [vr 35 0, vi (nI k), vi v, vi (nI m), vi x3] (I1, N2) (kI fun x6 I4 N5 => (¬ x6 = (-1) → ((¬ v = what → (bt_Go P (d + 5) mi_M_drawn (kI f) 110 [some (vr 35 0), none, some (vi kn), some (vi what), some (vi (tog w)), some (vi (wo w)), some (vi (aI (aw w) (fun m => ¬ SD I0 F T nb hu k (tr w m) m = -1 ∧ nI (tr w m) = what) m)), some (vi (nI w)), some (vi v), some (vi (nI (cK (fun m => ¬ SD I0 F T nb hu k (tr w m) m = -1) m + 1))), some (vi (nI (m + 1))), none] [] (I4, N5))) ∧ (v = what → (bt_Go P (d + 5) mi_M_drawn (kI f) 110 [some (vr 35 0), none, some (vi kn), some (vi what), some (vi (tog w)), some (vi (wo w)), some (vi (aI (aw w) (fun m => ¬ SD I0 F T nb hu k (tr w m) m = -1 ∧ nI (tr w m) = what) m + 1)), some (vi (nI w)), some (vi v), some (vi (nI (cK (fun m => ¬ SD I0 F T nb hu k (tr w m) m = -1) m + 1))), some (vi (nI (m + 1))), none] [] (I4, N5))))) ∧ (x6 = (-1) → (bt_Go P (d + 5) mi_M_drawn (kI f) 110 [some (vr 35 0), none, some (vi kn), some (vi what), some (vi (tog w)), some (vi (wo w)), some (vi (aI (aw w) (fun m => ¬ SD I0 F T nb hu k (tr w m) m = -1 ∧ nI (tr w m) = what) m)), some (vi (nI w)), some (vi v), some (vi (nI (cK (fun m => ¬ SD I0 F T nb hu k (tr w m) m = -1) m))), some (vi (nI (m + 1))), none] [] (I4, N5))))) := fun I' v hs' hf' hz' hv => by
      have hx' := cx_S h hs'
      have eS : SD I' F T nb hu k = SD I0 F T nb hu k := by unfold SD; rw [snd_S hs']
      rw [hv]
      refine ru_M_every (cx_so (b := 255) hx' ⟨fun _ _ _ _ => rfl, hf'⟩ hk (htr m) (by omega) (by omega) (fun I1 hr1 => ?_))
      rw [amo_255 (by have := htr m; omega), eS]
      have ih := sm_dr110 h hk e1 hd hT0 g q (m + 1) (nI (tr w m)) I1 (by omega) (Scr_tr hs' (mR_Scr hr1)) hr1.2 (fun z => by omega) (fun m' em => ⟨by rw [show m' = m by omega], by rw [hr1.1 35 0 38 (by omega), hz']; rfl⟩)
      refine ⟨fun q => ⟨fun q2 => ?_, fun q2 => ?_⟩, fun q => ?_⟩
      · rw [aI_f (fun z => q2 z.2), cK_t (c := fun m => ¬ SD I0 F T nb hu k (tr w m) m = -1) q] at ih; exact ih
      · rw [aI_t ⟨q, q2⟩, cK_t (c := fun m => ¬ SD I0 F T nb hu k (tr w m) m = -1) q] at ih; exact ih
      · rw [aI_f (fun z => z.1 q), cK_f (c := fun m => ¬ SD I0 F T nb hu k (tr w m) m = -1) (fun z => z q)] at ih; exact ih
    refine ru_M_drawn_110 ⟨fun q => absurd ((nle (a := 24) (by omega) (by omega)).mp q) (by omega), fun _ => ?_⟩
    rw [e1, nI_s, nI_s]
    refine ⟨fun y => ⟨by decide, ?_⟩, fun y => ?_⟩
    · have em : m = 0 := by have := (nle (b := 0) (by omega) (by omega)).mp y; omega
      obtain ⟨t1, t2⟩ := htv0 em
      subst em
      exact hsnd I tv hs hf t2 t1
    · obtain ⟨m', rfl⟩ : ∃ m', m = m' + 1 := ⟨m - 1, by
        have h50 : ¬ m = 0 := fun z => y (by rw [z]; decide)
        omega⟩
      obtain ⟨t1, t2⟩ := htv m' rfl
      have hjI := (cx_S h hs).1.2.1
      have htl := htr m'
      have hbt := hjI.2.2.2.2 (tr w m')
      have h8 := bcN_le (nb (tr w m'))
      rw [t1]
      refine ⟨ti_in (by omega) (by omega), ?_⟩
      rw [ti_tn (by omega), hjI.2.2.1 _ htl]
      refine sm_bitsOf hbt ?_
      rw [nI_s]
      refine sm_draw t2 (by omega) (by omega) ?_
      have ez : nxD (zs (24 * w + (m' + 1))) = zs (24 * w + (m' + 1) + 1) := (hd.1 (24 * w + (m' + 1))).symm
      have e2 : tr w (m' + 1) = sF T nb (tr w m') (uN (zs (24 * w + (m' + 1) + 1))) := hd.2.2.1 w m'
      rw [ez]
      have hs2 : Scr I0 L (ui I 35 0 38 (zs (24 * w + (m' + 1) + 1))) L := Scr_ui hs rfl
      have hf2 : ∀ t, t < T → (ui I 35 0 38 (zs (24 * w + (m' + 1) + 1))) 48 0 t = nI (frD T nb hu t) := fun t ht => by rw [ui_k (by decide)]; exact hf t ht
      have hlt : uN (zs (24 * w + (m' + 1) + 1)) % (bcN (nb (tr w m')) + 1) < bcN (nb (tr w m')) + 1 := Nat.mod_lt _ (by omega)
      unfold sF at e2
      refine ⟨fun z => ⟨by decide, hsnd _ _ hs2 hf2 (ui_same _ _ _ _ _) ?_⟩, fun z => ?_⟩
      · have z0 := (nle (b := 0) (by omega) (by omega)).mp z
        rw [if_pos (by omega)] at e2
        rw [e2]
      · have z0 : ¬ uN (zs (24 * w + (m' + 1) + 1)) % (bcN (nb (tr w m')) + 1) ≤ 0 := fun y => z ((nle (b := 0) (by omega) (by omega)).mpr y)
        rw [if_neg (by omega)] at e2
        have hsome := fN_s T hT8 (nb (tr w m')) (hjI.2.2.2.1 _) (uN (zs (24 * w + (m' + 1) + 1)) % (bcN (nb (tr w m')) + 1)) (by omega) (by omega) (by omega)
        rcases hc : fN (nb (tr w m')) T 0 (uN (zs (24 * w + (m' + 1) + 1)) % (bcN (nb (tr w m')) + 1)) with _ | r
        · rw [hc] at hsome; cases hsome
        · rw [hc] at e2
          have e2 : tr w (m' + 1) = r := e2
          refine sm_neighbour (cx_S h hs2).1.2.1 htl (by omega) (by omega) hc ⟨by decide, hsnd _ _ hs2 hf2 (ui_same _ _ _ _ _) (by rw [e2])⟩
theorem sm_dr85 (h : cx P I0 L T hu bn nb X Z F) {k n : Nat} {kn what : Int32} {zs : Nat → Int32} {tr : Nat → Nat → Nat} {tog wo aw : Nat → Int32} (hk : k < 4) (hn : n < 100) (e1 : kn / 100 = nI k) (e2 : kn - kn / 100 * 100 = nI n) (hd : dwR T nb (SD I0 F T nb hu k) what zs tr tog wo aw) (hT0 : 0 < T)
    (g : ∀ I', Scr I0 L I' L → f (dwV what (tog n) (wo n) (aw n)) I' L) :
    ∀ (q w : Nat) (I : m_I), w + q = n → Scr I0 L I L → (∀ t, t < T → I 48 0 t = nI (frD T nb hu t)) → I 35 0 38 = zs (24 * w) → bt_Go P (d + 5) mi_M_drawn (kI f) 85 [some (vr 35 0), none, some (vi kn), some (vi what), some (vi (tog w)), some (vi (wo w)), some (vi (aw w)), some (vi (nI w)), none, none, none, none] [] (I, L)
  | 0, w, I, e, hs, hf, hz => by
    have e : w = n := by omega
    subst e
    have g' := g I hs
    unfold dwV at g'
    refine ru_M_drawn_85 ⟨by decide, ?_⟩
    rw [e2]
    refine ⟨fun _ => ⟨fun q1 => ⟨fun q2 => ?_, fun q2 => ?_⟩, fun q1 => ?_⟩, fun q => absurd (Int32.le_refl _) q⟩
    · rw [if_neg q1, if_neg q2] at g'; exact g'
    · rw [if_neg q1, if_pos q2] at g'; exact g'
    · rw [if_pos q1] at g'; exact g'
  | q + 1, w, I, e, hs, hf, hz => by
    have hT8 := (cx_T h).2
    have hT := (cx_S h hs).1.2.1.1
    refine ru_M_drawn_85 ⟨by decide, ?_⟩
    rw [e2]
    refine ⟨fun q => absurd ((nle (by omega) (by omega)).mp q) (by omega), fun _ => ?_⟩
    rw [hT]
    refine sm_draw hz hT0 (by omega) ?_
    have ez : nxD (zs (24 * w)) = zs (24 * w + 1) := (hd.1 (24 * w)).symm
    rw [ez, ← hd.2.1 w]
    refine sm_dr110 h hk e1 hd hT0 (fun I' a1 a2 a3 => sm_dr85 h hk hn e1 e2 hd hT0 g q (w + 1) I' (by omega) a1 a2 a3) 24 0 _ _ (by omega) (Scr_ui hs rfl) (fun t ht => by rw [ui_k (by decide)]; exact hf t ht) (fun _ => ⟨rfl, ui_same _ _ _ _ _⟩) (fun m' em => by omega)
/-- the walkers are there -/
def dzS (sd : Int32) : Nat → Int32
  | 0 => sd
  | i + 1 => nxD (dzS sd i)
def dtR (T : Nat) (nb : Nat → Nat) (zs : Nat → Int32) (w : Nat) : Nat → Nat
  | 0 => uN (zs (24 * w + 1)) % T
  | m + 1 => sF T nb (dtR T nb zs w m) (uN (zs (24 * w + m + 2)))
noncomputable def dtG (o : Nat → Nat) : Nat → Int32
  | 0 => 0
  | w + 1 => dtG o w + nI (o w)
noncomputable def dwO (o : Nat → Nat) : Nat → Int32
  | 0 => 0
  | w + 1 => if o w = 0 then dwO o w + 1 else dwO o w
noncomputable def dtA (c : Nat → Nat → Prop) : Nat → Int32
  | 0 => 0
  | w + 1 => aI (dtA c w) (c w) 24
theorem dwR_ex (T : Nat) (nb : Nat → Nat) (S : Nat → Nat → Int32) (what sd : Int32) : ∃ zs tr tog wo aw, dwR T nb S what zs tr tog wo aw ∧ zs 0 = sd := by
  refine ⟨dzS sd, dtR T nb (dzS sd), dtG (fun w => cK (fun m => ¬ S (dtR T nb (dzS sd) w m) m = -1) 24), dwO (fun w => cK (fun m => ¬ S (dtR T nb (dzS sd) w m) m = -1) 24), dtA (fun w m => ¬ S (dtR T nb (dzS sd) w m) m = -1 ∧ nI (dtR T nb (dzS sd) w m) = what), ⟨fun i => rfl, fun w => rfl, fun w m => rfl, fun w => rfl, fun w => ⟨fun z => ?_, fun z => ?_⟩, fun w => rfl, rfl, rfl, rfl⟩, rfl⟩
  · show (if _ then _ else _) = _
    rw [if_neg z]
  · show (if _ then _ else _) = _
    rw [if_pos z]
theorem hd_c (x : Int32) : x < 0 ∨ ∃ n, n < 2147483648 ∧ x = nI n ∧ ¬ x < 0 ∧ x / 100 = nI (n / 100) ∧ x - x / 100 * 100 = nI (n % 100) := by
  by_cases h0 : x < 0
  · exact Or.inl h0
  · obtain ⟨n, hn, rfl⟩ : ∃ n : Nat, n < 2147483648 ∧ x = nI n := by
      refine ⟨x.toInt.toNat, ?_, ?_⟩
      · have := Int32.toInt_lt x
        rw [ti_lt, i_0] at h0; omega
      · rw [ti_lt, i_0] at h0
        have hb := Int32.toInt_lt x
        rw [ti_eq, ti_nI (by omega)]; omega
    exact Or.inr ⟨n, hn, rfl, h0, pk_div (d := 100) hn (by omega) (by omega), pk_rem (d := 100) hn (by omega) (by omega)⟩
theorem jn_drawn {G : m_I → m_L → Prop} {sd kn what : Int32} (hx : cx P I L T hu bn nb X Z F) (h : ∀ I', Scr I L I' L → G I' L) :
    bt_WP P (d + 7) mi_B_drawn [vr 0 0, vi sd, vi kn, vi what] (I, L) (kI fun x I1 L1 => bt_WP P (d + 7) mi_M_drawn [vr 35 0, vi sd, vi kn, vi what] (I1, L1) (kI fun y I2 L2 => x = y ∧ G I2 L2)) := by
  have hr : G I L := h I Scr_rf
  obtain ⟨hT, hT8⟩ := cx_T hx
  have hmT := hx.1.2.1.1
  have i1 : (1 : Int32).toInt = 1 := rfl
  have i30 : (30 : Int32).toInt = 30 := rfl
  rcases hd_c kn with h0 | ⟨N, hN, rfl, h0, e1, e2⟩
  · exact ru_B_drawn ⟨by decide, fun _ => ru_M_drawn ⟨fun _ => ⟨rfl, hr⟩, fun z => absurd h0 z⟩, fun z => absurd h0 z⟩
  refine ru_B_drawn ⟨by decide, fun z => absurd z h0, fun _ => ⟨by decide, ?_⟩⟩
  rw [e2, e1]
  rcases ix (nI (N / 100)) 4 (by omega) with hk | ⟨k, hk, ek⟩
  · refine sp_isSort_out hk ⟨fun _ => ru_M_drawn ⟨fun z => absurd z h0, fun _ => ⟨by decide, ?_⟩⟩, (fun z => absurd rfl z)⟩
    rw [e1]
    exact sm_isSort_out hk ⟨fun _ => ⟨rfl, hr⟩, (fun z => absurd rfl z)⟩
  rw [ek]
  rw [ek] at e1
  refine sp_isSort_in hk ⟨(fun z => absurd z (by decide)), fun _ => ?_⟩
  have hbad : ¬ ((1 : Int32) ≤ nI (N % 100) ∧ nI (N % 100) ≤ 30) → bt_WP P (d + 7) mi_M_drawn [vr 35 0, vi sd, vi (nI N), vi what] (I, L) (kI fun y I2 L2 => (-1) = y ∧ G I2 L2) := fun z => by
    refine ru_M_drawn ⟨fun z => absurd z h0, fun _ => ⟨by decide, ?_⟩⟩
    rw [e2, e1]
    refine sm_isSort_in hk ⟨(fun z => absurd z (by decide)), fun _ => ⟨by decide, sm_in ?_⟩⟩
    rw [bP_f z]
    exact ⟨fun _ => ⟨rfl, hr⟩, (fun z => absurd rfl z)⟩
  refine ⟨fun z => hbad (fun y => absurd z (Int32.not_lt.mpr y.1)), fun zn1 => ⟨fun zn2 => ?_, fun z => hbad (fun y => z y.2)⟩⟩
  have hn30 : N % 100 ≤ 30 := (nle (b := 30) (by omega) (by omega)).mp zn2
  have hms : ∀ (I1 : m_I) (Q : Int32 → m_I → m_L → Prop), I1 35 0 1 = nI T → (¬ (-2 ≤ what.toInt ∧ (what.toInt < T ∨ what.toInt < 0)) → Q (-1) I1 L) → (-2 ≤ what.toInt → (what.toInt < T ∨ what.toInt < 0) → (¬ nI T = 0 → (bt_WP P (d + 6) mi_M_findFar [vr 35 0] (I1, L) (kV fun I10 N11 => bt_Go P (d + 6) mi_M_drawn (kI Q) 85 [some (vr 35 0), none, some (vi (nI N)), some (vi what), some (vi 0), some (vi 0), some (vi 0), some (vi 0), none, none, none, none] [] (ui I10 35 0 38 sd, N11)))) ∧ (nI T = 0 → (Q (-5) I1 L))) → bt_WP P (d + 7) mi_M_drawn [vr 35 0, vi sd, vi (nI N), vi what] (I1, L) (kI Q) := fun I1 Q q c3 c4 => by
    rw [← q] at c4
    refine ru_M_drawn ⟨fun z => absurd z h0, fun _ => ⟨by decide, ?_⟩⟩
    rw [e2, e1]
    refine sm_isSort_in hk ⟨(fun z => absurd z (by decide)), fun _ => ⟨by decide, sm_in ?_⟩⟩
    rw [bP_t ⟨Int32.not_lt.mp zn1, zn2⟩]
    have l1 : ((-2 : Int32) ≤ what ∧ what ≤ I1 35 0 1 - 1) ↔ (-2 ≤ what.toInt ∧ what.toInt < T) := by
      rw [q, ti_le, ti_le, i_m2, i_sub1 (by omega)]; omega
    have l2 : ((-2 : Int32) ≤ what ∧ what ≤ -1) ↔ (-2 ≤ what.toInt ∧ what.toInt < 0) := by
      rw [ti_le, ti_le, i_m2, i_m1]; omega
    refine ⟨(fun z => absurd z (by decide)), fun _ => sm_in (bP_br' (fun z => c4 (l1.mp z).1 (Or.inl (l1.mp z).2)) (fun z1 => sm_in (bP_br' (fun z => c4 (l2.mp z).1 (Or.inr (l2.mp z).2)) (fun z2 => c3 (fun z3 => ?_)))))⟩
    rcases z3.2 with y | y
    · exact z1 (l1.mpr ⟨z3.1, y⟩)
    · exact z2 (l2.mpr ⟨z3.1, y⟩)
  have hT0 : nI T = 0 ↔ T = 0 := neq (b := 0) (by omega) (by omega)
  have hgo : -2 ≤ what.toInt → (what.toInt < T ∨ what.toInt < 0) → bt_WP P (d + 6) mi_Fo_size [vr 1 0] (I, L) (kI fun x6 I4 N5 => (¬ x6 = 0 → (¬ (100 : Int32) = 0 ∧ (bt_WP P (d + 6) mi_So_fill [vr 12 0, vi (nI k)] (I4, N5) (kV fun I7 N8 => bt_WP P (d + 6) mi_B_drawWalkers [vr 0 0, vi sd, vi (nI (N % 100)), vi what] (I7, N8) (kI fun x11 I9 N10 => bt_WP P (d + 7) mi_M_drawn [vr 35 0, vi sd, vi (nI N), vi what] (I9, N10) (kI fun y I2 L2 => x11 = y ∧ G I2 L2)))))) ∧ (x6 = 0 → bt_WP P (d + 7) mi_M_drawn [vr 35 0, vi sd, vi (nI N), vi what] (I4, N5) (kI fun y I2 L2 => (-5) = y ∧ G I2 L2))) := fun w1 w2 => by
    refine ru_Fo_size ?_
    rw [hT]
    refine ⟨fun z => ⟨by decide, cx_fill hx hk (fun I1 q1 q2 => ?_)⟩, fun z => hms I _ hmT (fun y => absurd ⟨w1, w2⟩ y) (fun _ _ => ⟨fun y => absurd z y, fun _ => ⟨rfl, hr⟩⟩)⟩
    have q : Scr I L I1 L := offS_Scr q1
    have hx1 := cx_S hx q
    have hTp : 0 < T := by
      have h50 : ¬ T = 0 := fun y => z (hT0.mpr y)
      omega
    obtain ⟨zs, tr, tog, wo, aw, hd, hz⟩ := dwR_ex T nb (SD I F T nb hu k) what sd
    have hgo := sp_dw15 (P := P) (d := d + 3) (n := N % 100) (f := fun x11 I9 N10 => bt_WP P (d + 7) mi_M_drawn [vr 35 0, vi sd, vi (nI N), vi what] (I9, N10) (kI fun y I2 L2 => x11 = y ∧ G I2 L2)) hx1 (by omega) hd hTp q2 ?_ (N % 100) 0 (by omega)
    · obtain ⟨-, -, -, -, -, -, t0, w0, a0⟩ := hd
      rw [t0, w0, a0, show zs (24 * 0) = sd from hz] at hgo
      exact ru_B_drawWalkers hgo
    · refine hms I1 _ hx1.1.2.1.1 (fun y => absurd ⟨w1, w2⟩ y) (fun _ _ => ⟨fun _ => cx_far hx1 (fun I2 q3 => ?_), fun y => absurd y z⟩)
      have eS : SD I1 F T nb hu k = SD I F T nb hu k := by unfold SD; rw [snd_S q]
      rw [← eS] at hd
      have hgo := sm_dr85 (P := P) (d := d + 1) (n := N % 100) (f := fun y I2 L2 => dwV what (tog (N % 100)) (wo (N % 100)) (aw (N % 100)) = y ∧ G I2 L2) hx1 hk (by omega) e1 e2 hd hTp (fun I' q4 => ⟨rfl, h _ (Scr_tr q q4)⟩) (N % 100) 0 (ui I2 35 0 38 sd) (by omega) (Scr_ui (mR_Scr q3) rfl) (fun t ht => by rw [ui_k (by decide)]; exact q3.2 t ht) (by rw [ui_same]; exact hz.symm)
      obtain ⟨-, -, -, -, -, -, t0, w0, a0⟩ := hd
      rw [t0, w0, a0] at hgo
      exact hgo
  refine ⟨fun z => hms I _ hmT (fun _ => ⟨rfl, hr⟩) (fun y _ => ?_), fun z => ⟨fun z2 => hgo ?_ (Or.inr ?_), fun z2 => ?_⟩⟩
  · exact absurd y (by rw [ti_lt, i_m2] at z; omega)
  · rw [ti_lt, i_m2] at z; omega
  · rw [ti_lt, i_0] at z2; exact z2
  · rw [ti_lt, i_0] at z2
    rcases ix what T (by omega) with hw | ⟨t, ht, rfl⟩
    · have hw' : ¬ (what.toInt < T ∨ what.toInt < 0) := fun y => by
        rcases hw with w | w
        · rw [ti_lt, i_0] at w; omega
        · rw [ti_le, ti_nI (by omega)] at w; omega
      exact sp_has hT (bP_br' (fun y => absurd hw y) (fun _ => hms I _ hmT (fun _ => ⟨rfl, hr⟩) (fun _ y => absurd y hw')))
    · refine sp_has_in hT hT8 ht ⟨fun _ => hgo ?_ (Or.inl ?_), (fun z => absurd z (by decide))⟩
      · rw [ti_nI (by omega)]; omega
      · rw [ti_nI (by omega)]; omega
end DRM
