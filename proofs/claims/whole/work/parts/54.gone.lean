/-! gone: joint -/
/-- the bits of places that meet a condition -/
noncomputable def bsN (w : Nat → Nat) (c : Nat → Prop) : Nat → Nat
  | 0 => 0
  | m + 1 => @ite Nat (c m) (Classical.propDecidable _) (bsN w c m ||| 2 ^ w m) (bsN w c m)
section BSN
variable {w : Nat → Nat} {c : Nat → Prop}
theorem bsN_t {m : Nat} (h : c m) : bsN w c (m + 1) = bsN w c m ||| 2 ^ w m := by
  show @ite Nat (c m) (Classical.propDecidable _) _ _ = _
  rw [if_pos h]
theorem bsN_f {m : Nat} (h : ¬ c m) : bsN w c (m + 1) = bsN w c m := by
  show @ite Nat (c m) (Classical.propDecidable _) _ _ = _
  rw [if_neg h]
theorem bsN_lt : ∀ (n : Nat), (∀ m, m < n → w m < 8) → bsN w c n < 256
  | 0, _ => by show 0 < 256; omega
  | n + 1, h => by
    have ih := bsN_lt n (fun m hm => h m (by omega))
    by_cases q : c n
    · rw [bsN_t q]; exact or_lt256 ih (pow_lt256 (h n (by omega)) (by omega))
    · rw [bsN_f q]; exact ih
theorem bsN_bit {t : Nat} : ∀ (n : Nat), (bsN w c n).testBit t = true ↔ ∃ m, m < n ∧ w m = t ∧ c m
  | 0 => by
    show (0 : Nat).testBit t = true ↔ _
    rw [Nat.zero_testBit]
    exact ⟨(fun h => by cases h), (fun ⟨m, h, _⟩ => by omega)⟩
  | n + 1 => by
    have ih := bsN_bit (t := t) n
    by_cases q : c n
    · rw [bsN_t q, Nat.testBit_or, Bool.or_eq_true, ih, Nat.testBit_two_pow, decide_eq_true_iff]
      constructor
      · rintro (⟨m, h1, h2⟩ | h)
        · exact ⟨m, by omega, h2⟩
        · exact ⟨n, by omega, h, q⟩
      · rintro ⟨m, h1, h2, h3⟩
        by_cases e : m = n
        · subst e; exact Or.inr h2
        · exact Or.inl ⟨m, by omega, h2, h3⟩
    · rw [bsN_f q, ih]
      constructor
      · rintro ⟨m, h1, h2⟩; exact ⟨m, by omega, h2⟩
      · rintro ⟨m, h1, h2, h3⟩
        by_cases e : m = n
        · subst e; exact absurd h3 q
        · exact ⟨m, by omega, h2, h3⟩
theorem bsN_ext {c' : Nat → Prop} : ∀ (n : Nat), (∀ m, m < n → (c m ↔ c' m)) → bsN w c n = bsN w c' n
  | 0, _ => rfl
  | n + 1, h => by
    have ih := bsN_ext n (fun m hm => h m (by omega))
    have hn := h n (by omega)
    by_cases q : c n
    · rw [bsN_t q, bsN_t (hn.mp q), ih]
    · rw [bsN_f q, bsN_f (fun z => q (hn.mpr z)), ih]
end BSN
section GON
variable {P : bt_PT} {d : Nat} {f : Int32 → m_I → m_L → Prop} {I0 I : m_I} {L : m_L} {T hu bn : Nat} {nb : Nat → Nat} {X : Nat → sH} {Z : Nat → Nat} {F : lF}
abbrev wN (L : m_L) (a : Nat) : Nat → Nat := fun m => tn (vL L a m)
/-- walked and told differ -/
def gnC (L : m_L) (S : Nat → Nat → Int32) (a b : Nat) : Nat → Prop := fun m => ¬ S (wN L a m) m = vL L b m
def gnR (L : m_L) (S : Nat → Nat → Int32) (a b : Nat) : Nat → Prop := fun m => ¬ S (wN L a m) m = -1 ∧ vL L b m = -1
def gnS (L : m_L) (S : Nat → Nat → Int32) (a b : Nat) : Nat → Prop := fun m => ¬ S (wN L a m) m = -1 ∧ vL L b m = S (wN L a m) m
def gnK (L : m_L) (S : Nat → Nat → Int32) (a b : Nat) : Nat → Prop := fun m => (S (wN L a m) m = -1 → vL L b m = -1) ∧ (¬ S (wN L a m) m = -1 → vL L b m = -1 ∨ vL L b m = S (wN L a m) m)
/-- the book fits with just these bells gone -/
def gnF (L : m_L) (S : Nat → Nat → Int32) (a b N : Nat) : Prop := ∀ m, m < N → amo S (255 &&& (bsN (wN L a) (gnC L S a b) N ^^^ 255)) (wN L a m) m = vL L b m
theorem gnF_m {S : Nat → Nat → Int32} {a b N : Nat} (hw : ∀ m, m < N → wN L a m < 8) : gnF L S a b N ↔ ∀ m, m < N → ((∃ i, i < N ∧ wN L a i = wN L a m ∧ gnC L S a b i) → vL L b m = -1) ∧ ((¬ ∃ i, i < N ∧ wN L a i = wN L a m ∧ gnC L S a b i) → S (wN L a m) m = vL L b m) := by
  unfold gnF
  have key : ∀ m, m < N → (amo S (255 &&& (bsN (wN L a) (gnC L S a b) N ^^^ 255)) (wN L a m) m = vL L b m ↔ ((∃ i, i < N ∧ wN L a i = wN L a m ∧ gnC L S a b i) → vL L b m = -1) ∧ ((¬ ∃ i, i < N ∧ wN L a i = wN L a m ∧ gnC L S a b i) → S (wN L a m) m = vL L b m)) := fun m hm => by
    have hb := bsN_bit (w := wN L a) (c := gnC L S a b) (t := wN L a m) N
    unfold amo
    rw [tb_andn _ _ _ (hw m hm), tb255, decide_eq_true (hw m hm), Bool.true_and]
    by_cases q : ∃ i, i < N ∧ wN L a i = wN L a m ∧ gnC L S a b i
    · rw [hb.mpr q]
      exact ⟨fun e => ⟨fun _ => e.symm, fun z => absurd q z⟩, fun e => (e.1 q).symm⟩
    · have : (bsN (wN L a) (gnC L S a b) N).testBit (wN L a m) = false := by
        cases hc : (bsN (wN L a) (gnC L S a b) N).testBit (wN L a m) with
        | false => rfl
        | true => exact absurd (hb.mp hc) q
      rw [this]
      exact ⟨fun e => ⟨fun z => absurd z q, fun _ => e⟩, fun e => e.2 q⟩
  exact ⟨fun h m hm => (key m hm).mp (h m hm), fun h m hm => (key m hm).mpr (h m hm)⟩
theorem gn_no {S : Nat → Nat → Int32} {a b N : Nat} (hw : ∀ m, m < N → wN L a m < 8) (h : ∃ m, m < N ∧ ¬ gnK L S a b m) : ¬ gnF L S a b N := fun z => by
  obtain ⟨m, hm, hk⟩ := h
  obtain ⟨h1, h2⟩ := (gnF_m hw).mp z m hm
  apply hk
  by_cases q : ∃ i, i < N ∧ wN L a i = wN L a m ∧ gnC L S a b i
  · have e := h1 q
    exact ⟨fun _ => e, fun _ => Or.inl e⟩
  · have e := h2 q
    exact ⟨fun y => by rw [← e]; exact y, fun _ => Or.inr e.symm⟩
theorem gn_eq {S : Nat → Nat → Int32} {a b N : Nat} (hk : ∀ m, m < N → gnK L S a b m) : bsN (wN L a) (gnC L S a b) N = bsN (wN L a) (gnR L S a b) N := by
  refine bsN_ext N (fun m hm => ?_)
  obtain ⟨k1, k2⟩ := hk m hm
  unfold gnC gnR
  constructor
  · intro q
    have h1 : ¬ S (wN L a m) m = -1 := fun z => q (by rw [z, k1 z])
    refine ⟨h1, (k2 h1).resolve_right (fun z => q z.symm)⟩
  · rintro ⟨q1, q2⟩ q3
    rw [q2] at q3; exact q1 q3
theorem gn_iff {S : Nat → Nat → Int32} {a b N : Nat} (hw : ∀ m, m < N → wN L a m < 8) (hk : ∀ m, m < N → gnK L S a b m) : gnF L S a b N ↔ bsN (wN L a) (gnR L S a b) N &&& bsN (wN L a) (gnS L S a b) N = 0 := by
  rw [gnF_m hw]
  constructor
  · intro h
    apply Nat.eq_of_testBit_eq
    intro t
    rw [Nat.zero_testBit, Nat.testBit_and]
    cases h1 : (bsN (wN L a) (gnR L S a b) N).testBit t with
    | false => rfl
    | true =>
      cases h2 : (bsN (wN L a) (gnS L S a b) N).testBit t with
      | false => rfl
      | true =>
        obtain ⟨i, hi, wi, ci⟩ := (bsN_bit N).mp h1
        obtain ⟨j, hj, wj, cj⟩ := (bsN_bit N).mp h2
        have e := (h j hj).1 ⟨i, hi, wi.trans wj.symm, fun z => by rw [ci.2] at z; exact ci.1 z⟩
        exact absurd (cj.2.symm.trans e) cj.1
  · intro h m hm
    refine ⟨fun q => ?_, fun q => Classical.byContradiction fun z => q ⟨m, hm, rfl, z⟩⟩
    obtain ⟨k1, k2⟩ := hk m hm
    by_cases q1 : S (wN L a m) m = -1
    · exact k1 q1
    · refine (k2 q1).resolve_right (fun q2 => ?_)
      have b1 : (bsN (wN L a) (gnR L S a b) N).testBit (wN L a m) = true := by
        rw [← gn_eq hk]; exact (bsN_bit N).mpr q
      have b2 : (bsN (wN L a) (gnS L S a b) N).testBit (wN L a m) = true := (bsN_bit N).mpr ⟨m, hm, rfl, q1, q2⟩
      have b3 : (bsN (wN L a) (gnR L S a b) N &&& bsN (wN L a) (gnS L S a b) N).testBit (wN L a m) = true := by rw [Nat.testBit_and, b1, b2]; rfl
      rw [h, Nat.zero_testBit] at b3; cases b3
/-- what gone answers -/
noncomputable def gnV (L : m_L) (S : Nat → Nat → Int32) (a b N : Nat) : Int32 := @ite Int32 (gnF L S a b N) (Classical.propDecidable _) (nI (bsN (wN L a) (gnC L S a b) N)) (-2)
theorem wN_8 (hT8 : T ≤ 8) {a m : Nat} (h : lt' (vL L a m) T) : wN L a m < 8 := by
  obtain ⟨t, ht, et⟩ := h
  show tn (vL L a m) < 8
  rw [et, ti_tn (by omega)]; omega
theorem sp_bgL (h : cx P I L T hu bn nb X Z F) {a b : Nat} {S : Nat → Nat → Int32} (ha : a < 6) (hb : b < 6) (xa : X a = some (.inr 0)) (xb : X b = some (.inr 0)) (hw : ∀ m, m < min 24 (Z a) → lt' (vL L a m) T) (hfl : flS I 0 S) (g : f (gnV L S a b (min (min 24 (Z a)) (min 24 (Z b)))) I L) : ∀ (k m : Nat), m + k = min (min 24 (Z a)) (min 24 (Z b)) → bt_Go P (d + 4) mi_B_bellsGone (kI f) 29 [some (vr 0 0), some (vr 33 a), some (vr 33 b), some (vi (nI (min (min 24 (Z a)) (min 24 (Z b))))), some (vi (nI (bsN (wN L a) (gnC L S a b) m))), some (vi (nI m))] [] (I, L)
  | 0, m, e => by
    have e : m = min (min 24 (Z a)) (min 24 (Z b)) := by omega
    have hG := bsN_lt (w := wN L a) (c := gnC L S a b) m (fun i hi => wN_8 (cx_T h).2 (hw i (by omega)))
    have e1 : (255 : Int32) &&& (nI (bsN (wN L a) (gnC L S a b) m) ^^^ (-1)) = nI (255 &&& (bsN (wN L a) (gnC L S a b) m ^^^ 255)) := nI_andn (a := 255) (by omega) hG
    refine ru_B_bellsGone_29 ⟨fun _ => ?_, fun q => absurd (by rw [e]; exact Int32.le_refl _) q⟩
    rw [e1]
    have hbl : 255 &&& (bsN (wN L a) (gnC L S a b) m ^^^ 255) < 256 := and_lt256 (by omega)
    refine sp_fns h ha hb xa xb hw hfl hbl ?_
    have hn := fsI_n (D := fun i => ¬ amo S (255 &&& (bsN (wN L a) (gnC L S a b) m ^^^ 255)) (tn (vL L a i)) i = vL L b i) (min (min 24 (Z a)) (min 24 (Z b))) 0 (by omega)
    unfold gnV at g
    rw [← e] at g hn ⊢
    by_cases q : gnF L S a b m
    · rw [if_pos q] at g
      refine ⟨fun z => absurd (hn.mpr (fun i _ hi => fun y => y (q i (by omega)))) z, fun _ => g⟩
    · rw [if_neg q] at g
      refine ⟨fun _ => g, fun z => absurd (fun i hi => Classical.byContradiction fun y => hn.mp z i (by omega) (by omega) y) q⟩
  | k + 1, m, e => by
    obtain ⟨-, -, -, za, ea⟩ := row_e (cx_row h ha xa)
    obtain ⟨-, -, -, zb, eb⟩ := row_e (cx_row h hb xb)
    obtain ⟨hT, hT8⟩ := cx_T h
    have ih := sp_bgL h ha hb xa xb hw hfl g k (m + 1) (by omega)
    refine ru_B_bellsGone_29 ⟨fun q => absurd ((nle (by omega) (by omega)).mp q) (by omega), fun _ => sp_at ea za (by omega) (sp_sat hT hT8 (hw m (by omega)) (by omega) hfl (sp_at eb zb (by omega) ⟨fun q => ?_, fun q => sp_at ea za (by omega) ?_⟩))⟩
    · rw [nI_s]
      rw [bsN_f (fun z => z q)] at ih; exact ih
    · obtain ⟨t, ht, et⟩ := hw m (by omega)
      have et' : (L 34 a m).toInt32 = nI t := et
      have ew : wN L a m = t := by show tn (vL L a m) = t; rw [et, ti_tn (by omega)]
      rw [bsN_t (c := gnC L S a b) q, ew] at ih
      rw [et', nI_one (by omega), nI_or, nI_s]; exact ih
theorem sm_goL (h : cx P I0 L T hu bn nb X Z F) {a b k : Nat} {w : Int32} (hk : k < 4) (ha : a < 6) (hb : b < 6) (e1 : w / 10 = nI a) (e2 : w - w / 10 * 10 = nI b) (xa : X a = some (.inr 0)) (xb : X b = some (.inr 0)) (hw : ∀ m, m < min 24 (Z a) → lt' (vL L a m) T)
    (g : ∀ I', mR I0 I' T (frD T nb hu) → f (gnV L (SD I0 F T nb hu k) a b (min (min 24 (Z a)) (min 24 (Z b)))) I' L) : ∀ (n m : Nat) (I : m_I), m + n = min (min 24 (Z a)) (min 24 (Z b)) → mR I0 I T (frD T nb hu) → (∀ i, i < m → gnK L (SD I0 F T nb hu k) a b i) → bt_Go P (d + 6) mi_M_gone (kI f) 56 [some (vr 35 0), some (vi (nI k)), some (vi w), some (vi (nI (bsN (wN L a) (gnR L (SD I0 F T nb hu k) a b) m))), some (vi (nI (bsN (wN L a) (gnS L (SD I0 F T nb hu k) a b) m))), some (vi (nI m)), none, none, none] [] (I, L)
  | n, m, I, e, hr, g1 => by
    have q : Scr I0 L I L := mR_Scr hr
    have hT8 := (cx_T h).2
    have ra := cx_row h ha xa
    obtain ⟨ka, a68, -, za, -⟩ := row_e (cx_row (cx_S h q) ha xa)
    obtain ⟨kb, e68, hby, zb, -⟩ := row_e (cx_row (cx_S h q) hb xb)
    have hw8 : ∀ i, i < min (min 24 (Z a)) (min 24 (Z b)) → wN L a i < 8 := fun i hi => wN_8 hT8 (hw i (by omega))
    have hR := bsN_lt (w := wN L a) (c := gnR L (SD I0 F T nb hu k) a b) m (fun i hi => hw8 i (by omega))
    have hS := bsN_lt (w := wN L a) (c := gnS L (SD I0 F T nb hu k) a b) m (fun i hi => hw8 i (by omega))
    have hRS := and_lt256 (b := bsN (wN L a) (gnS L (SD I0 F T nb hu k) a b) m) hR
    refine ru_M_gone_56 (sm_bothHave ha hb e1 e2 ka kb za zb ?_)
    rw [e2, e1]
    refine ⟨fun z => ?_, fun z => ?_⟩
    · have := (nle (by omega) (by omega)).mp z
      have em : m = min (min 24 (Z a)) (min 24 (Z b)) := by omega
      have g2 := g I hr
      unfold gnV at g2
      have hi := gn_iff hw8 (by rw [← em]; exact g1)
      rw [gn_eq (by rw [← em]; exact g1)] at g2
      rw [nI_and]
      rw [← em] at g2 hi
      refine ⟨fun y => ?_, fun y => ?_⟩
      · rw [if_neg (fun z => y (by rw [hi.mp z]; rfl))] at g2; exact g2
      · rw [if_pos (hi.mpr ((neq (b := 0) (by omega) (by omega)).mp y))] at g2; exact g2
    · have hm : ¬ min (min 24 (Z a)) (min 24 (Z b)) ≤ m := fun y => z ((nle (b := m) (by omega) (by omega)).mpr y)
      obtain ⟨n, rfl⟩ : ∃ n', n = n' + 1 := ⟨n - 1, by omega⟩
      have hwm := hw m (by omega)
      refine ⟨by decide, ru_M_every (cx_wso (b := 255) h hr hk ha ra hwm (by omega) (by omega) (fun I1 hr1 => ⟨by decide, sm_told hb (by omega) ?_⟩))⟩
      rw [amo_255 (hw8 m (by omega)), e68 m (by omega), by_e3 (hby m (by omega)), nI_s]
      have hno : ¬ gnK L (SD I0 F T nb hu k) a b m → f (-2) I1 L := fun y => by
        have g2 := g I1 hr1
        unfold gnV at g2
        rw [if_neg (gn_no hw8 ⟨m, by omega, y⟩)] at g2; exact g2
      have ih : gnK L (SD I0 F T nb hu k) a b m → _ := fun y => sm_goL h hk ha hb e1 e2 xa xb hw g n (m + 1) I1 (by omega) hr1 (fun i hi => by
        by_cases q : i = m
        · subst q; exact y
        · exact g1 i (by omega))
      obtain ⟨t, ht, et⟩ := hwm
      have et' : (L 34 a m).toInt32 = nI t := et
      have ew : wN L a m = t := by show tn (vL L a m) = t; rw [et, ti_tn (by omega)]
      refine ⟨fun y1 => ⟨fun y2 => ?_, fun y2 => ⟨by decide, sm_told ha (by omega) ?_⟩⟩, fun y1 => ⟨fun y2 => ?_, fun y2 => hno (fun z => y2 (z.1 y1))⟩⟩
      · rw [by_e2 (hby m (by omega))]
        refine ⟨fun y3 => hno (fun z => by rcases z.2 y1 with z | z; exact y2 z; exact y3 z), fun y3 => ⟨by decide, sm_told ha (by omega) ?_⟩⟩
        have ih' := ih ⟨fun z => absurd z y1, fun _ => Or.inr y3⟩
        rw [bsN_f (c := gnR L (SD I0 F T nb hu k) a b) (fun z => y2 z.2), bsN_t (c := gnS L (SD I0 F T nb hu k) a b) ⟨y1, y3⟩, ew] at ih'
        rw [a68 m (by omega), et', nI_one (by omega), nI_or]
        exact ih'
      · have ih' := ih ⟨fun z => absurd z y1, fun _ => Or.inl y2⟩
        rw [bsN_t (c := gnR L (SD I0 F T nb hu k) a b) ⟨y1, y2⟩, bsN_f (c := gnS L (SD I0 F T nb hu k) a b) (fun z => y1 (z.2.symm.trans y2)), ew] at ih'
        rw [a68 m (by omega), et', nI_one (by omega), nI_or]
        exact ih'
      · have ih' := ih ⟨fun _ => y2, fun z => absurd y1 z⟩
        rw [bsN_f (c := gnR L (SD I0 F T nb hu k) a b) (fun z => z.1 y1), bsN_f (c := gnS L (SD I0 F T nb hu k) a b) (fun z => z.1 y1)] at ih'
        exact ih'
  termination_by n => n
theorem jn_gone {G : m_I → m_L → Prop} {k w : Int32} (hx : cx P I L T hu bn nb X Z F) (h : ∀ I', Scr I L I' L → G I' L) :
    bt_WP P (d + 7) mi_B_gone [vr 0 0, vi k, vi w] (I, L) (kI fun x I1 L1 => bt_WP P (d + 7) mi_M_gone [vr 35 0, vi k, vi w] (I1, L1) (kI fun y I2 L2 => x = y ∧ G I2 L2)) := by
  have hr : G I L := h I Scr_rf
  rcases ix k 4 (by omega) with hk | ⟨k, hk, rfl⟩
  · exact ru_B_gone (ru_B_walkAndBookRefusal (sp_isSort_out hk ⟨fun _ => ⟨(fun z => absurd z (by decide)), fun _ => ru_M_gone (sm_isSort_out hk ⟨fun _ => ⟨rfl, hr⟩, (fun z => absurd rfl z)⟩)⟩, (fun z => absurd rfl z)⟩))
  rcases pr_c w 6 with hw | ⟨a, b, ha, hb, h0, e1, e2⟩
  · exact ru_B_gone (ru_B_walkAndBookRefusal (sp_isSort_in hk ⟨(fun z => absurd z (by decide)), fun _ => sp_isPair_out (B := 6) (by omega) hw ⟨(fun z => absurd rfl z), fun _ => ⟨(fun z => absurd z (by decide)), fun _ => ru_M_gone (sm_isSort_in hk ⟨(fun z => absurd z (by decide)), fun _ => sm_areShelves_out hw ⟨(fun z => absurd rfl z), fun _ => ⟨rfl, hr⟩⟩⟩)⟩⟩⟩))
  have hm : ∀ (I1 : m_I) (Q : Int32 → m_I → m_L → Prop), Scr I L I1 L → (¬ 0 ≤ faI (fun i => i = a ∨ i = b) X (fun _ => True) → Q (faI (fun i => i = a ∨ i = b) X (fun _ => True)) I1 L) → (0 ≤ faI (fun i => i = a ∨ i = b) X (fun _ => True) → bt_WP P (d + 6) mi_M_isWalk [vr 35 0, vi (nI a)] (I1, L) (kI fun x12 I10 N11 => (¬ x12 = 0 → (bt_WP P (d + 6) mi_M_findFar [vr 35 0] (I10, N11) (kV fun I13 N14 => bt_Go P (d + 6) mi_M_gone (kI Q) 56 [some (vr 35 0), some (vi (nI k)), some (vi w), some (vi 0), some (vi 0), some (vi 0), none, none, none] [] (I13, N14)))) ∧ (x12 = 0 → (Q (-5) I10 N11)))) → bt_WP P (d + 7) mi_M_gone [vr 35 0, vi (nI k), vi w] (I1, L) (kI Q) := fun I1 Q q c1 c2 => by
    have hR := (cx_S hx q).2.1
    refine ru_M_gone (sm_isSort_in hk ⟨(fun z => absurd z (by decide)), fun _ => sm_areShelves_in ha hb h0 e1 e2 ⟨fun _ => sm_rowsFault hR ha hb e1 e2 ⟨fun z => ⟨by decide, ?_⟩, fun z => sm_rowsFault hR ha hb e1 e2 (c1 z)⟩, (fun z => absurd z (by decide))⟩⟩)
    rw [e1]; exact c2 z
  rcases wbr_c X (WK L T nb Z) a b with ⟨v1, v2⟩ | ⟨v1, xa, xb, hc⟩
  · exact ru_B_gone (sp_wbr hx hk ha hb h0 e1 e2 (fun _ => ⟨fun z => absurd z v1, fun _ => hm I _ Scr_rf (fun _ => ⟨rfl, hr⟩) (fun z => absurd z v2)⟩) (fun z => absurd z v1))
  · rw [v1] at hm
    refine ru_B_gone (sp_wbr hx hk ha hb h0 e1 e2 (fun z => absurd v1 z) (fun _ => ?_))
    rcases hc with ⟨wa, hv⟩ | ⟨wa, hv⟩
    · rw [hv]
      refine ⟨fun _ => cx_fill hx hk (fun I1 q1 q2 => ⟨by decide, ?_⟩), (fun z => absurd rfl z)⟩
      have hx1 := cx_S hx (offS_Scr (L := L) q1)
      obtain ⟨-, -, -, za, ea⟩ := row_e (cx_row hx1 ha xa)
      obtain ⟨-, -, -, zb, eb⟩ := row_e (cx_row hx1 hb xb)
      rw [e1]
      refine sp_sA ha (ru_B_gone_30_b ⟨by decide, ?_⟩)
      rw [e2]
      refine sp_sA hb (ru_B_gone_38_d (ru_B_bellsGone ⟨(fun z => by cases z), fun _ => ⟨fun _ => sp_minutes ea za (sp_minutes eb zb ?_), (fun z => by cases z)⟩⟩))
      rw [mn_i (by omega) (by omega)]
      refine sp_bgL hx1 ha hb xa xb (fun m hm => WK_lt wa hm) q2 ?_ (min (min 24 (Z a)) (min 24 (Z b))) 0 (by omega)
      refine hm I1 _ (offS_Scr q1) (fun z => absurd (by decide) z) (fun _ => sm_isWalk hx1.1.2.1 ha (cx_row hx1 ha xa) (bP_br' (fun _ => cx_far hx1 (fun I2 q3 => ?_)) (fun z => absurd wa z)))
      refine sm_goL hx1 hk ha hb e1 e2 xa xb (fun m hm => WK_lt wa hm) (fun I' q4 => ⟨?_, h _ (Scr_tr (offS_Scr q1) (mR_Scr q4))⟩) (min (min 24 (Z a)) (min 24 (Z b))) 0 I2 (by omega) q3 (fun i hi => by omega)
      rw [show SD I1 F T nb hu k = SD I F T nb hu k from by unfold SD; rw [snd_S (offS_Scr (L := L) q1)]]
    · rw [hv]
      exact ⟨(fun z => absurd z (by decide)), fun _ => hm I _ Scr_rf (fun z => absurd (by decide) z) (fun _ => sm_isWalk hx.1.2.1 ha (cx_row hx ha xa) (bP_br' (fun z => absurd z wa) (fun _ => ⟨rfl, hr⟩)))⟩
end GON
