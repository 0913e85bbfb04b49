/-! least: the reference, joint -/
/-- never, as the reference tells it -/
def bgI (x : Nat) : Int32 := if x = 1000 then 1000000 else nI x
theorem bg_n {x : Nat} (h : ¬ x = 1000) : bgI x = nI x := by unfold bgI; rw [if_neg h]
theorem bg_1 : bgI 1000 = 1000000 := rfl
theorem bg_e {x : Nat} (hx : x ≤ 1000) : bgI x = 1000000 ↔ x = 1000 := by
  by_cases h : x = 1000
  · rw [h]; exact ⟨fun _ => rfl, fun _ => rfl⟩
  · rw [bg_n h]
    exact ⟨fun z => by have := (neq (b := 1000000) (by omega) (by omega)).mp z; omega, fun z => absurd z h⟩
theorem bg_le {x y : Nat} (hx : x ≤ 1000) (hy : y ≤ 1000) : bgI x ≤ bgI y ↔ x ≤ y := by
  by_cases h : x = 1000
  · by_cases h2 : y = 1000
    · rw [h, h2]; exact ⟨fun _ => Nat.le_refl _, fun _ => Int32.le_refl _⟩
    · rw [h, bg_n h2, bg_1]
      have e : (1000000 : Int32) ≤ nI y ↔ 1000000 ≤ y := nle (a := 1000000) (by omega) (by omega)
      rw [e]; omega
  · by_cases h2 : y = 1000
    · rw [h2, bg_n h, bg_1]
      have e : nI x ≤ (1000000 : Int32) ↔ x ≤ 1000000 := nle (b := 1000000) (by omega) (by omega)
      rw [e]; omega
    · rw [bg_n h, bg_n h2, nle (by omega) (by omega)]
section LSM
variable {P : bt_PT} {d : Nat} {f : Int32 → m_I → m_L → Prop} {I0 I : m_I} {L : m_L} {T hu bn : Nat} {nb : Nat → Nat} {X : Nat → sH} {Z : Nat → Nat} {F : lF}
def fdI (I : m_I) (T : Nat) (nb : Nat → Nat) (hu : Nat) : Prop := ∀ t, t < T → I 48 0 t = nI (frD T nb hu t)
theorem sm_soundIn (h : cx P I0 L T hu bn nb X Z F) {k t m : Nat} (hs : Scr I0 L I L) (hf : fdI I T nb hu) (hk : k < 4) (ht : t < T) (hm : m < 24) (g : ∀ I', Scr I0 L I' L → fdI I' T nb hu → (∀ c, I' 59 0 c = I 59 0 c) → f (nI (nsN (SD I0 F T nb hu k) t m)) I' L) : bt_WP P (d + 6) mi_M_soundIn [vr 35 0, vi (nI k), vi (nI t), vi (nI m)] (I, L) (kI f) := by
  have hT8 := (cx_T h).2
  have hx := cx_S h hs
  have eS : SD I F T nb hu k = SD I0 F T nb hu k := by unfold SD; rw [snd_S hs]
  refine ru_M_soundIn (ru_M_every (cx_so (b := 255) hx ⟨fun _ _ _ _ => rfl, hf⟩ hk ht hm (by omega) (fun I1 hr1 => ?_)))
  have g' := g I1 (Scr_tr hs (mR_Scr hr1)) hr1.2 (fun c => hr1.1 59 0 c (by omega))
  rw [amo_255 (by omega), eS]
  refine ⟨fun y => ?_, fun y => ?_⟩
  · rw [nsN_1 y] at g'; exact g'
  · rw [nsN_0 y] at g'; exact g'
def rwL (S : Nat → Nat → Int32) (nb : Nat → Nat) (T to b : Nat) (I : m_I) (m t : Nat) : Prop := (∀ m' o, m < m' → m' ≤ b → o < T → I 59 0 (8 * m' + o) = bgI (lsN S nb T to b m' o)) ∧ ∀ o, o < t → I 59 0 (8 * m + o) = bgI (lsN S nb T to b m o)
theorem rwL_u {S : Nat → Nat → Int32} {to b m t : Nat} {v : Int32} (hT8 : T ≤ 8) (h : rwL S nb T to b I m t) (ht : t < T) (hv : v = bgI (lsN S nb T to b m t)) : rwL S nb T to b (ui I 59 0 (8 * m + t) v) m (t + 1) := by
  refine ⟨fun m' o a1 a2 a3 => by rw [ui_j (by omega)]; exact h.1 m' o a1 a2 a3, fun o a1 => ?_⟩
  by_cases q : o = t
  · subst q; rw [ui_same, hv]
  · rw [ui_j (by omega)]; exact h.2 o (by omega)
theorem rwL_c {I' : m_I} {S : Nat → Nat → Int32} {to b m t : Nat} (h : rwL S nb T to b I m t) (q : ∀ c, I' 59 0 c = I 59 0 c) : rwL S nb T to b I' m t := ⟨fun m' o a1 a2 a3 => by rw [q]; exact h.1 m' o a1 a2 a3, fun o a1 => by rw [q]; exact h.2 o a1⟩
theorem Scr_59 {c : Nat} {v : Int32} (h : Scr I0 L I L) : Scr I0 L (ui I 59 0 c v) L := Scr_ui h rfl
theorem fd_59 {c : Nat} {v : Int32} (h : fdI I T nb hu) : fdI (ui I 59 0 c v) T nb hu := fun t ht => by rw [ui_k (by decide)]; exact h t ht
theorem sm_fl88 {f : m_I → m_L → Prop} (h : cx P I0 L T hu bn nb X Z F) {k to a b m t : Nat} (hk : k < 4) (hb : b < 24) (hm : m < b) (ht : t < T)
    (g : ∀ I', Scr I0 L I' L → fdI I' T nb hu → rwL (SD I0 F T nb hu k) nb T to b I' m (t + 1) → bt_Go P (d + 6) mi_M_findLeast (kV f) 71 [some (vr 35 0), some (vi (nI k)), none, some (vi (nI a)), none, some (vi (nI m)), some (vi (nI (t + 1))), none, none] [] (I', L)) :
    ∀ (q o : Nat), o + q = T → Scr I0 L I L → fdI I T nb hu → rwL (SD I0 F T nb hu k) nb T to b I m t → bt_Go P (d + 6) mi_M_findLeast (kV f) 88 [some (vr 35 0), some (vi (nI k)), none, some (vi (nI a)), none, some (vi (nI m)), some (vi (nI t)), some (vi (bgI (mnF (lsN (SD I0 F T nb hu k) nb T to b (m + 1)) (arN nb t) o))), some (vi (nI o))] [] (I, L)
  | 0, o, e, hs, hf, hl => by
    have hT8 := (cx_T h).2
    have eo : o = T := by omega
    have hx := cx_S h hs
    have hT : I 35 0 1 = nI T := hx.1.2.1.1
    have hls := lsN_s (S := SD I0 F T nb hu k) (nb := nb) (T := T) (to := to) (b := b) (m := m) (t := t) hm
    obtain ⟨w, w1, w2, -, w4, -⟩ := qi_ar h.1.1 (g := lsN (SD I0 F T nb hu k) nb T to b (m + 1)) (fun o => lsN_1000 hb) ht
    have hw1 := lsN_v (S := SD I0 F T nb hu k) (nb := nb) (T := T) (to := to) (m := m + 1) (t := w) hb
    rw [eo]
    have hv8 : vp_in (nI (8 * m + t)) 192 := ti_in (by omega) (by omega)
    refine ru_M_findLeast_88 ⟨fun _ => ?_, fun z => absurd (by rw [hT]; exact Int32.le_refl _) z⟩
    rw [bg_e (by omega), nI_s]
    refine ⟨fun y => sm_soundIn h hs hf hk ht (by omega) (fun I1 a1 a2 a3 => ?_), fun y => ?_⟩
    · rw [e8_i, ti_tn (by omega), bg_n y, nI_add]
      refine ⟨hv8, g _ (Scr_59 a1) (fd_59 a2) (rwL_u hT8 (rwL_c hl a3) ht ?_)⟩
      have hn := nsN_le (S := SD I0 F T nb hu k) (t := t) (m := m)
      rw [hls, if_neg y, bg_n (by omega)]
    · rw [e8_i, ti_tn (by omega)]
      refine ⟨hv8, g _ (Scr_59 hs) (fd_59 hf) (rwL_u hT8 hl ht ?_)⟩
      rw [hls, if_pos y]; rfl
  | q + 1, o, e, hs, hf, hl => by
    have hT8 := (cx_T h).2
    have hx := cx_S h hs
    have hT : I 35 0 1 = nI T := hx.1.2.1.1
    have ih := sm_fl88 (to := to) h hk hb hm ht g q (o + 1) (by omega) hs hf hl
    have ho1 := lsN_1000 (S := SD I0 F T nb hu k) (nb := nb) (T := T) (to := to) (m := m + 1) (t := o) hb
    have hmo : mnF (lsN (SD I0 F T nb hu k) nb T to b (m + 1)) (arN nb t) o ≤ 1000 := by
      rcases qi_mn (g := lsN (SD I0 F T nb hu k) nb T to b (m + 1)) (b := arN nb t) (fun o => lsN_1000 hb) o with ⟨-, -, z⟩ | ⟨w, -, -, -, z, -⟩
      · omega
      · rw [z]; exact lsN_1000 hb
    refine ru_M_findLeast_88 ⟨fun z => ?_, fun _ => sm_mayGo hx.1.2.1 ht (by omega) ?_⟩
    · rw [hT, nle (by omega) (by omega)] at z; omega
    · rw [nI_s, nI_s, e8_i, ti_tn (by omega), hl.1 (m + 1) o (by omega) (by omega) (by omega), bg_le hmo ho1]
      have hv8 : vp_in (nI (8 * (m + 1) + o)) 192 := ti_in (by omega) (by omega)
      refine bP_br (fun y => ?_) (fun y => ⟨hv8, fun y2 => ?_, fun y2 => ⟨hv8, ?_⟩⟩)
      · rw [mnF_f (fun z => y z.1)] at ih; exact ih
      · rw [mnF_f (fun z => by have := z.2; omega)] at ih; exact ih
      · have hlt : lsN (SD I0 F T nb hu k) nb T to b (m + 1) o < mnF (lsN (SD I0 F T nb hu k) nb T to b (m + 1)) (arN nb t) o := by omega
        rw [mnF_t ⟨y, hlt⟩] at ih; exact ih
theorem sm_fl71 {f : m_I → m_L → Prop} (h : cx P I0 L T hu bn nb X Z F) {k to a b m : Nat} (hk : k < 4) (hb : b < 24) (hm : m < b)
    (g : ∀ I', Scr I0 L I' L → fdI I' T nb hu → rwL (SD I0 F T nb hu k) nb T to b I' m T → bt_Go P (d + 6) mi_M_findLeast (kV f) 62 [some (vr 35 0), some (vi (nI k)), none, some (vi (nI a)), none, some (vi (nI m - 1)), none, none, none] [] (I', L)) :
    ∀ (q t : Nat) (I : m_I), t + q = T → Scr I0 L I L → fdI I T nb hu → rwL (SD I0 F T nb hu k) nb T to b I m t → bt_Go P (d + 6) mi_M_findLeast (kV f) 71 [some (vr 35 0), some (vi (nI k)), none, some (vi (nI a)), none, some (vi (nI m)), some (vi (nI t)), none, none] [] (I, L)
  | 0, t, I, e, hs, hf, hl => by
    have e : t = T := by omega
    subst e
    have hT : I 35 0 1 = nI t := (cx_S h hs).1.2.1.1
    refine ru_M_findLeast_71 ⟨fun _ => ?_, fun z => absurd (by rw [hT]; exact Int32.le_refl _) z⟩
    rw [show nI m + (-1) = nI m - 1 by rw [Int32.sub_eq_add_neg]]
    exact g I hs hf hl
  | q + 1, t, I, e, hs, hf, hl => by
    have hT8 := (cx_T h).2
    have hT : I 35 0 1 = nI T := (cx_S h hs).1.2.1.1
    refine ru_M_findLeast_71 ⟨fun z => ?_, fun _ => ?_⟩
    · rw [hT, nle (by omega) (by omega)] at z; omega
    · exact sm_fl88 (to := to) h hk hb hm (by omega) (fun I' a1 a2 a3 => sm_fl71 h hk hb hm g q (t + 1) I' (by omega) a1 a2 a3) T 0 (by omega) hs hf hl
theorem sm_fl62 {f : m_I → m_L → Prop} (h : cx P I0 L T hu bn nb X Z F) {k to a b : Nat} (hk : k < 4) (hb : b < 24) (hab : a ≤ b)
    (g : ∀ I', Scr I0 L I' L → fdI I' T nb hu → (∀ m' o, a ≤ m' → m' ≤ b → o < T → I' 59 0 (8 * m' + o) = bgI (lsN (SD I0 F T nb hu k) nb T to b m' o)) → f I' L) :
    ∀ (q j : Nat) (I : m_I), a + q = j → j ≤ b → Scr I0 L I L → fdI I T nb hu → (∀ m' o, j ≤ m' → m' ≤ b → o < T → I 59 0 (8 * m' + o) = bgI (lsN (SD I0 F T nb hu k) nb T to b m' o)) → bt_Go P (d + 6) mi_M_findLeast (kV f) 62 [some (vr 35 0), some (vi (nI k)), none, some (vi (nI a)), none, some (vi (nI j - 1)), none, none, none] [] (I, L)
  | 0, j, I, e, hj, hs, hf, hl => by
    have e : j = a := by omega
    subst e
    refine ru_M_findLeast_62 ⟨fun _ => g I hs hf hl, fun z => absurd ?_ z⟩
    rw [ti_lt, i_sub1 (by omega), ti_nI (by omega)]; omega
  | q + 1, j, I, e, hj, hs, hf, hl => by
    obtain ⟨m, rfl⟩ : ∃ m, j = m + 1 := ⟨j - 1, by omega⟩
    rw [nI_pred]
    refine ru_M_findLeast_62 ⟨fun z => absurd ((nlt (by omega) (by omega)).mp z) (by omega), fun _ => ?_⟩
    refine sm_fl71 (to := to) h hk hb (m := m) (by omega) (fun I' a1 a2 a3 => sm_fl62 h hk hb hab g q m I' (by omega) (by omega) a1 a2 (fun m' o b1 b2 b3 => ?_)) T 0 I (by omega) hs hf ⟨fun m' o b1 b2 b3 => hl m' o (by omega) b2 b3, fun o b1 => by omega⟩
    by_cases e : m' = m
    · subst e; exact a3.2 o b3
    · exact a3.1 m' o (by omega) b2 b3
theorem sm_fl7 {f : m_I → m_L → Prop} (h : cx P I0 L T hu bn nb X Z F) {k to a b : Nat} (hk : k < 4) (hto : to < T) (hb : b < 24) (hab : a ≤ b)
    (g : ∀ I', Scr I0 L I' L → fdI I' T nb hu → (∀ m' o, a ≤ m' → m' ≤ b → o < T → I' 59 0 (8 * m' + o) = bgI (lsN (SD I0 F T nb hu k) nb T to b m' o)) → f I' L) :
    ∀ (q t : Nat) (I : m_I), t + q = T → Scr I0 L I L → fdI I T nb hu → rwL (SD I0 F T nb hu k) nb T to b I b t → bt_Go P (d + 6) mi_M_findLeast (kV f) 7 [some (vr 35 0), some (vi (nI k)), some (vi (nI to)), some (vi (nI a)), some (vi (nI b)), some (vi (nI t)), none, none, none] [] (I, L)
  | 0, t, I, e, hs, hf, hl => by
    have e : t = T := by omega
    subst e
    have hT : I 35 0 1 = nI t := (cx_S h hs).1.2.1.1
    refine ru_M_findLeast_7 ⟨fun _ => ?_, fun z => absurd (by rw [hT]; exact Int32.le_refl _) z⟩
    refine sm_fl62 h hk hb hab g (b - a) b I (by omega) (Nat.le_refl _) hs hf (fun m' o b1 b2 b3 => ?_)
    rw [show m' = b by omega]; exact hl.2 o b3
  | q + 1, t, I, e, hs, hf, hl => by
    have hT8 := (cx_T h).2
    have hT : I 35 0 1 = nI T := (cx_S h hs).1.2.1.1
    have hv8 : vp_in (nI (8 * b + t)) 192 := ti_in (by omega) (by omega)
    have hto' : nI t = nI to ↔ t = to := neq (by omega) (by omega)
    refine ru_M_findLeast_7 ⟨fun z => ?_, fun _ => ?_⟩
    · rw [hT, nle (by omega) (by omega)] at z; omega
    · rw [e8_i, ti_tn (by omega), nI_s]
      refine ⟨fun y => ⟨hv8, ?_⟩, fun y => sm_soundIn h hs hf hk (by omega) hb (fun I1 a1 a2 a3 => ⟨hv8, ?_⟩)⟩
      · refine sm_fl7 h hk hto hb hab g q (t + 1) _ (by omega) (Scr_59 hs) (fd_59 hf) (rwL_u hT8 hl (by omega) ?_)
        rw [lsN_b, if_neg (fun z => y (hto'.mpr z))]; rfl
      · refine sm_fl7 h hk hto hb hab g q (t + 1) _ (by omega) (Scr_59 a1) (fd_59 a2) (rwL_u hT8 (rwL_c hl a3) (by omega) ?_)
        have hn := nsN_le (S := SD I0 F T nb hu k) (t := t) (m := b)
        rw [lsN_b, if_pos (hto'.mp y), bg_n (by omega)]
theorem sm_findLeast {f : m_I → m_L → Prop} (h : cx P I L T hu bn nb X Z F) {k to a b : Nat} (hk : k < 4) (hto : to < T) (hb : b < 24) (hab : a ≤ b)
    (g : ∀ I', Scr I L I' L → fdI I' T nb hu → (∀ m' o, a ≤ m' → m' ≤ b → o < T → I' 59 0 (8 * m' + o) = bgI (lsN (SD I F T nb hu k) nb T to b m' o)) → f I' L) : bt_WP P (d + 7) mi_M_findLeast [vr 35 0, vi (nI k), vi (nI to), vi (nI a), vi (nI b)] (I, L) (kV f) :=
  ru_M_findLeast (cx_far h (fun I1 hr => sm_fl7 h hk hto hb hab g T 0 I1 (by omega) (mR_Scr hr) hr.2 ⟨fun m' o b1 b2 b3 => by omega, fun o ho => by omega⟩))
theorem sm_ls207 (h : cx P I0 L T hu bn nb X Z F) {k to a b m t w : Nat} {av : Int32} (hb : b < 24) (ham : a ≤ m) (hm : m < b) (ht : t < T) (hs : Scr I0 L I L) (hl : ∀ m' o, a ≤ m' → m' ≤ b → o < T → I 59 0 (8 * m' + o) = bgI (lsN (SD I0 F T nb hu k) nb T to b m' o))
    (hw : w < T) (hwb : (arN nb t).testBit w = true) (hw1 : ¬ lsN (SD I0 F T nb hu k) nb T to b (m + 1) w = 1000) (hwm : ∀ o, o < w → (arN nb t).testBit o = true → lsN (SD I0 F T nb hu k) nb T to b (m + 1) w < lsN (SD I0 F T nb hu k) nb T to b (m + 1) o)
    (g : bt_Go P (d + 6) mi_M_least (kI f) 172 [some (vr 35 0), none, none, some (vi av), some (vi (nI k)), none, some (vi (nI w)), some (vi (nI (m + 1))), none, none] [] (I, L)) :
    ∀ (q o : Nat), o + q = w → bt_Go P (d + 6) mi_M_least (kI f) 207 [some (vr 35 0), none, none, some (vi av), some (vi (nI k)), none, some (vi (nI t)), some (vi (nI m)), some (vi (nI (lsN (SD I0 F T nb hu k) nb T to b (m + 1) w))), some (vi (nI o))] [] (I, L)
  | q, o, e => by
    have hT8 := (cx_T h).2
    have hx := cx_S h hs
    have hlw := lsN_1000 (S := SD I0 F T nb hu k) (nb := nb) (T := T) (to := to) (m := m + 1) (t := w) hb
    have hlo := lsN_1000 (S := SD I0 F T nb hu k) (nb := nb) (T := T) (to := to) (m := m + 1) (t := o) hb
    have hv8 : vp_in (nI (8 * (m + 1) + o)) 192 := ti_in (by omega) (by omega)
    refine ru_M_least_207 (sm_mayGo hx.1.2.1 ht (by omega) ?_)
    rw [nI_s, nI_s, e8_i, ti_tn (by omega), hl (m + 1) o (by omega) (by omega) (by omega)]
    have hnext : ¬ o = w → bt_Go P (d + 6) mi_M_least (kI f) 207 [some (vr 35 0), none, none, some (vi av), some (vi (nI k)), none, some (vi (nI t)), some (vi (nI m)), some (vi (nI (lsN (SD I0 F T nb hu k) nb T to b (m + 1) w))), some (vi (nI (o + 1)))] [] (I, L) := fun y => by
      obtain ⟨q, rfl⟩ : ∃ q', q = q' + 1 := ⟨q - 1, by omega⟩
      exact sm_ls207 h hb ham hm ht hs hl hw hwb hw1 hwm g q (o + 1) (by omega)
    refine bP_br (fun y => hnext (fun z => by subst z; exact y hwb)) (fun y => ⟨hv8, fun y2 => ?_, fun y2 => hnext (fun z => ?_)⟩)
    · have eo : o = w := by
        refine Classical.byContradiction fun z => ?_
        have hlt := hwm o (by omega) y
        by_cases q1 : lsN (SD I0 F T nb hu k) nb T to b (m + 1) o = 1000
        · rw [q1, bg_1] at y2
          have := (neq (a := 1000000) (by omega) (by omega)).mp y2
          omega
        · rw [bg_n q1] at y2
          have := (neq (by omega) (by omega)).mp y2
          omega
      rw [eo]; exact g
    · subst z; exact y2 (bg_n hw1)
  termination_by q => q
theorem sm_ls172 (h : cx P I0 L T hu bn nb X Z F) {k to a b fr at' : Nat} (hk : k < 4) (hfr : fr < T) (hb : b < 24) (hab : at' ≤ b) (h0 : ¬ lsN (SD I0 F T nb hu k) nb T to b a fr = 1000) :
    ∀ (q r : Nat) (I : m_I), a + r + q = at' → Scr I0 L I L → fdI I T nb hu → (∀ m' o, a ≤ m' → m' ≤ b → o < T → I 59 0 (8 * m' + o) = bgI (lsN (SD I0 F T nb hu k) nb T to b m' o)) → (∀ I', Scr I0 L I' L → f (nI (qtN (lsN (SD I0 F T nb hu k) nb T to b) nb T a fr (r + q))) I' L) → bt_Go P (d + 6) mi_M_least (kI f) 172 [some (vr 35 0), none, none, some (vi (nI at')), some (vi (nI k)), none, some (vi (nI (qtN (lsN (SD I0 F T nb hu k) nb T to b) nb T a fr r))), some (vi (nI (a + r))), none, none] [] (I, L)
  | 0, r, I, e, hs, hf, hl, g => ru_M_least_172 ⟨fun _ => g I hs, fun z => absurd ((nle (by omega) (by omega)).mpr (by omega)) z⟩
  | q + 1, r, I, e, hs, hf, hl, g => by
    have hT8 := (cx_T h).2
    obtain ⟨h1, h2⟩ := qt_s h.1.1 hfr hb h0 r (by omega)
    obtain ⟨w, w1, w2, w3, w4, -, w6⟩ := qi_ar h.1.1 (g := lsN (SD I0 F T nb hu k) nb T to b (a + r + 1)) (fun o => lsN_1000 hb) h1
    have e2 : qtN (lsN (SD I0 F T nb hu k) nb T to b) nb T a fr (r + 1) = w := by
      show (qiF (lsN (SD I0 F T nb hu k) nb T to b (a + r + 1)) (arN nb (qtN (lsN (SD I0 F T nb hu k) nb T to b) nb T a fr r)) T).getD 0 = w
      rw [w1]; rfl
    have hls := lsN_s (S := SD I0 F T nb hu k) (nb := nb) (T := T) (to := to) (b := b) (m := a + r) (t := qtN (lsN (SD I0 F T nb hu k) nb T to b) nb T a fr r) (by omega)
    have hmn : ¬ mnF (lsN (SD I0 F T nb hu k) nb T to b (a + r + 1)) (arN nb (qtN (lsN (SD I0 F T nb hu k) nb T to b) nb T a fr r)) T = 1000 := fun z => h2 (by rw [hls, if_pos z])
    rw [if_neg hmn, w4] at hls
    have hv8 : vp_in (nI (8 * (a + r) + qtN (lsN (SD I0 F T nb hu k) nb T to b) nb T a fr r)) 192 := ti_in (by omega) (by omega)
    refine ru_M_least_172 ⟨fun z => absurd ((nle (by omega) (by omega)).mp z) (by omega), fun _ => ?_⟩
    rw [e8_i, ti_tn (by omega), hl (a + r) _ (by omega) (by omega) h1, bg_n h2, hls]
    refine ⟨hv8, sm_soundIn h hs hf hk h1 (by omega) (fun I1 a1 a2 a3 => ?_)⟩
    rw [pk_sub (by omega), show lsN (SD I0 F T nb hu k) nb T to b (a + r + 1) w + nsN (SD I0 F T nb hu k) (qtN (lsN (SD I0 F T nb hu k) nb T to b) nb T a fr r) (a + r) - nsN (SD I0 F T nb hu k) (qtN (lsN (SD I0 F T nb hu k) nb T to b) nb T a fr r) (a + r) = lsN (SD I0 F T nb hu k) nb T to b (a + r + 1) w by omega]
    have hl1 : ∀ m' o, a ≤ m' → m' ≤ b → o < T → I1 59 0 (8 * m' + o) = bgI (lsN (SD I0 F T nb hu k) nb T to b m' o) := fun m' o b1 b2 b3 => by rw [a3]; exact hl m' o b1 b2 b3
    refine sm_ls207 (a := a) h hb (by omega) (by omega) h1 a1 hl1 w2 w3 (by rw [← w4]; exact hmn) w6 ?_ w 0 (Nat.zero_add _)
    have ih := sm_ls172 h hk hfr hb hab h0 q (r + 1) I1 (by omega) a1 a2 hl1 (fun I' b1 => by rw [show r + 1 + q = r + (q + 1) by omega]; exact g I' b1)
    rw [e2] at ih; exact ih
theorem ten_c (x : Int32) : x < 0 ∨ ∃ n, n < 2147483648 ∧ x = nI n ∧ ¬ x < 0 ∧ x / 100 = nI (n / 100) ∧ x / 10 - x / 10 / 10 * 10 = nI (n / 10 % 10) ∧ x - x / 10 * 10 = nI (n % 10) := by
  rcases hd_c x with h | ⟨n, hn, rfl, h0, e1, -⟩
  · exact Or.inl h
  · have e3 : nI n / 10 = nI (n / 10) := pk_div (d := 10) hn (by omega) (by omega)
    refine Or.inr ⟨n, hn, rfl, h0, e1, ?_, pk_rem (d := 10) hn (by omega) (by omega)⟩
    rw [e3]; exact pk_rem (d := 10) (by omega) (by omega) (by omega)
theorem jn_least {G : m_I → m_L → Prop} {x y z : Int32} (hx : cx P I L T hu bn nb X Z F) (h : ∀ I', Scr I L I' L → G I' L) :
    bt_WP P (d + 8) mi_B_least [vr 0 0, vi x, vi y, vi z] (I, L) (kI fun x1 I1 L1 => bt_WP P (d + 8) mi_M_least [vr 35 0, vi x, vi y, vi z] (I1, L1) (kI fun y1 I2 L2 => x1 = y1 ∧ G I2 L2)) := by
  have hr : G I L := h I Scr_rf
  obtain ⟨hT, hT8⟩ := cx_T hx
  have hmT := hx.1.2.1.1
  have d10 : ¬ (10 : Int32) = 0 := by decide
  have d100 : ¬ (100 : Int32) = 0 := by decide
  rcases ten_c x with hx0 | ⟨N, hN, rfl, hx0, x1, x2, x3⟩
  · exact ru_B_least ⟨d10, d10, d10, fun _ => ru_M_least ⟨fun _ => ⟨rfl, hr⟩, fun w => absurd hx0 w⟩, fun w => absurd hx0 w⟩
  refine ru_B_least ⟨d10, d10, d10, fun w => absurd w hx0, fun _ => ⟨d100, ?_⟩⟩
  rw [x3, x2, x1]
  rcases ix (nI (N / 100)) 4 (by omega) with hk | ⟨k, hk, ek⟩
  · refine sp_isSort_out hk ⟨fun _ => ru_M_least ⟨fun w => absurd w hx0, fun _ => ⟨d100, ?_⟩⟩, (fun z => absurd rfl z)⟩
    rw [x1]; exact sm_isSort_out hk ⟨fun _ => ⟨rfl, hr⟩, (fun z => absurd rfl z)⟩
  rw [ek] at x1 ⊢
  have hfr10 : N / 10 % 10 < 10 := Nat.mod_lt _ (by omega)
  have hto10 : N % 10 < 10 := Nat.mod_lt _ (by omega)
  generalize hfe : N / 10 % 10 = fr at *
  generalize hte : N % 10 = to at *
  refine sp_isSort_in hk ⟨(fun z => absurd z (by decide)), fun _ => ?_⟩
  rcases ix (nI fr) T (by omega) with hf | ⟨fr', hf, ef⟩
  · refine sp_has hT (bP_br (fun _ => ru_M_least ⟨fun w => absurd w hx0, fun _ => ⟨d100, ?_⟩⟩) (fun w => absurd hf w))
    rw [x1]; refine sm_isSort_in hk ⟨(fun z => absurd z (by decide)), fun _ => ⟨d10, d10, ?_⟩⟩
    rw [x2]; exact sm_isTree hmT hT8 (bP_br (fun _ => ⟨rfl, hr⟩) (fun w => absurd hf w))
  have ef' : fr = fr' := (neq (by omega) (by omega)).mp ef
  subst ef'
  refine sp_has_in hT hT8 hf ⟨(fun z => absurd z (by decide)), fun _ => ?_⟩
  rcases ix (nI to) T (by omega) with ht | ⟨to', ht, et⟩
  · refine sp_has hT (bP_br' (fun w => absurd ht w) (fun _ => ru_M_least ⟨fun w => absurd w hx0, fun _ => ⟨d100, ?_⟩⟩))
    rw [x1]; refine sm_isSort_in hk ⟨(fun z => absurd z (by decide)), fun _ => ⟨d10, d10, ?_⟩⟩
    rw [x2]; refine sm_isTree hmT hT8 (bP_br (fun w => absurd (n_oob hf (by omega)) w) (fun _ => ⟨d10, ?_⟩))
    rw [x3]; exact sm_isTree hmT hT8 (bP_br (fun _ => ⟨rfl, hr⟩) (fun w => absurd ht w))
  have et' : to = to' := (neq (by omega) (by omega)).mp et
  subst et'
  refine sp_has_in hT hT8 ht ⟨fun _ => ⟨d100, d100, ?_⟩, (fun z => absurd z (by decide))⟩
  have hpre : ∀ (I1 : m_I) (Q : Int32 → m_I → m_L → Prop), I1 35 0 1 = nI T → (y < 0 → Q (-1) I1 L) → (¬ y < 0 → bt_WP P (d + 7) mi_M_isMinute [vi (y / 100)] (I1, L) (kI fun x12 I10 N11 => (x12 = 0 → (Q (-1) I10 N11)) ∧ (¬ x12 = 0 → (¬ (100 : Int32) = 0 ∧ (¬ (100 : Int32) = 0 ∧ (bt_WP P (d + 7) mi_M_in [vi (y - y / 100 * 100), vi (y / 100), vi 23] (I10, N11) (kI fun x15 I13 N14 => (x15 = 0 → (Q (-1) I13 N14)) ∧ (¬ x15 = 0 → ((z = (-1) → (¬ (100 : Int32) = 0 ∧ (¬ (100 : Int32) = 0 ∧ (¬ (10 : Int32) = 0 ∧ (¬ (100 : Int32) = 0 ∧ (bt_WP P (d + 7) mi_M_findLeast [vr 35 0, vi (nI k), vi (nI to), vi (y / 100), vi (y - y / 100 * 100)] (I13, N14) (kV fun I16 N17 => ¬ (10 : Int32) = 0 ∧ (¬ (10 : Int32) = 0 ∧ (vp_in ((8 * (y / 100)) + nI fr) 192 ∧ ((¬ (I16 59 0 (tn ((8 * (y / 100)) + nI fr))) = 1000000 → ((0 ≤ z → (bt_Go P (d + 7) mi_M_least (kI Q) 172 [some (vr 35 0), none, none, some (vi z), some (vi (nI k)), none, some (vi (nI fr)), some (vi (y / 100)), none, none] [] (I16, N17))) ∧ (¬ 0 ≤ z → (vp_in ((8 * (y / 100)) + nI fr) 192 ∧ (Q (I16 59 0 (tn ((8 * (y / 100)) + nI fr))) I16 N17))))) ∧ ((I16 59 0 (tn ((8 * (y / 100)) + nI fr))) = 1000000 → (Q (-2) I16 N17)))))))))))) ∧ (¬ z = (-1) → (¬ (100 : Int32) = 0 ∧ (¬ (100 : Int32) = 0 ∧ (bt_WP P (d + 7) mi_M_in [vi z, vi (y / 100), vi (y - y / 100 * 100)] (I13, N14) (kI fun x20 I18 N19 => (¬ x20 = 0 → (¬ (100 : Int32) = 0 ∧ (¬ (100 : Int32) = 0 ∧ (¬ (10 : Int32) = 0 ∧ (¬ (100 : Int32) = 0 ∧ (bt_WP P (d + 7) mi_M_findLeast [vr 35 0, vi (nI k), vi (nI to), vi (y / 100), vi (y - y / 100 * 100)] (I18, N19) (kV fun I21 N22 => ¬ (10 : Int32) = 0 ∧ (¬ (10 : Int32) = 0 ∧ (vp_in ((8 * (y / 100)) + nI fr) 192 ∧ ((¬ (I21 59 0 (tn ((8 * (y / 100)) + nI fr))) = 1000000 → ((0 ≤ z → (bt_Go P (d + 7) mi_M_least (kI Q) 172 [some (vr 35 0), none, none, some (vi z), some (vi (nI k)), none, some (vi (nI fr)), some (vi (y / 100)), none, none] [] (I21, N22))) ∧ (¬ 0 ≤ z → (vp_in ((8 * (y / 100)) + nI fr) 192 ∧ (Q (I21 59 0 (tn ((8 * (y / 100)) + nI fr))) I21 N22))))) ∧ ((I21 59 0 (tn ((8 * (y / 100)) + nI fr))) = 1000000 → (Q (-2) I21 N22)))))))))))) ∧ (x20 = 0 → (Q (-1) I18 N19)))))))))))))))) → bt_WP P (d + 8) mi_M_least [vr 35 0, vi (nI N), vi y, vi z] (I1, L) (kI Q) := fun I1 Q q c1 c2 => by
    refine ru_M_least ⟨fun w => absurd w hx0, fun _ => ⟨d100, ?_⟩⟩
    rw [x3, x2, x1]
    exact sm_isSort_in hk ⟨(fun z => absurd z (by decide)), fun _ => ⟨d10, d10, sm_isTree q hT8 (bP_br (fun w => absurd (n_oob hf (by omega)) w) (fun _ => ⟨d10, sm_isTree q hT8 (bP_br (fun w => absurd (n_oob ht (by omega)) w) (fun _ => ⟨c1, fun w => ⟨d100, c2 w⟩⟩))⟩))⟩⟩
  rcases hd_c y with hy0 | ⟨M, hM, rfl, hy0, y1, y2⟩
  · exact ⟨fun _ => hpre _ _ hmT (fun _ => ⟨rfl, hr⟩) (fun w => absurd hy0 w), fun w => absurd hy0 w⟩
  refine ⟨fun w => absurd w hy0, fun _ => ?_⟩
  rw [y2, y1]
  rw [y2, y1] at hpre
  have hb100 : M % 100 < 100 := Nat.mod_lt _ (by omega)
  generalize hbe : M % 100 = b at *
  have haM : M / 100 < 2147483648 := by omega
  generalize hae : M / 100 = a at *
  rcases Nat.lt_or_ge a 24 with ha | ha
  · refine sp_isMin ha ⟨(fun z => absurd z (by decide)), fun _ => ?_⟩
    have hmA : ∀ (Q : Int32 → m_I → m_L → Prop) (I1 : m_I), (bt_WP P (d + 7) mi_M_isMinute [vi (nI a)] (I1, L) (kI Q)) = (bt_WP P (d + 7) mi_M_isMinute [vi (nI a)] (I1, L) (kI Q)) := fun _ _ => rfl
    have hin23 : (nI a ≤ nI b ∧ nI b ≤ 23) ↔ (a ≤ b ∧ b < 24) := by
      have e23 : nI b ≤ (23 : Int32) ↔ b ≤ 23 := nle (b := 23) (by omega) (by omega)
      rw [e23, nle (by omega) (by omega)]; omega
    have hbadab : ¬ (a ≤ b ∧ b < 24) → bt_WP P (d + 8) mi_M_least [vr 35 0, vi (nI N), vi (nI M), vi z] (I, L) (kI fun y1 I2 L2 => (-1) = y1 ∧ G I2 L2) := fun w => by
      refine hpre _ _ hmT (fun w2 => absurd w2 hy0) (fun _ => sm_isMinute ?_)
      rw [bP_t (n_oob ha (by omega))]
      refine ⟨(fun z => absurd z (by decide)), fun _ => ⟨d100, d100, sm_in ?_⟩⟩
      rw [bP_f (fun w2 => w (hin23.mp w2))]
      exact ⟨fun _ => ⟨rfl, hr⟩, (fun z => absurd rfl z)⟩
    rcases Nat.lt_or_ge b 24 with hb | hb
    · refine sp_isMin hb ⟨(fun z => absurd z (by decide)), fun _ => ⟨fun hab' => ?_, fun w => hbadab (fun w2 => w ((nle (by omega) (by omega)).mpr w2.1))⟩⟩
      have hab : a ≤ b := (nle (by omega) (by omega)).mp hab'
      have hgoM : ∀ (I1 : m_I) (Q : Int32 → m_I → m_L → Prop), Scr I L I1 L → (¬ z = -1 → ¬ (nI a ≤ z ∧ z ≤ nI b) → Q (-1) I1 L) → ((z = -1 ∨ (nI a ≤ z ∧ z ≤ nI b)) → ∀ I', Scr I1 L I' L → fdI I' T nb hu → (∀ m' o, a ≤ m' → m' ≤ b → o < T → I' 59 0 (8 * m' + o) = bgI (lsN (SD I1 F T nb hu k) nb T to b m' o)) → (¬ lsN (SD I1 F T nb hu k) nb T to b a fr = 1000 → ((0 ≤ z → (bt_Go P (d + 7) mi_M_least (kI Q) 172 [some (vr 35 0), none, none, some (vi z), some (vi (nI k)), none, some (vi (nI fr)), some (vi (nI a)), none, none] [] (I', L))) ∧ (¬ 0 ≤ z → Q (nI (lsN (SD I1 F T nb hu k) nb T to b a fr)) I' L))) ∧ (lsN (SD I1 F T nb hu k) nb T to b a fr = 1000 → Q (-2) I' L)) → bt_WP P (d + 8) mi_M_least [vr 35 0, vi (nI N), vi (nI M), vi z] (I1, L) (kI Q) := fun I1 Q q c1 c2 => by
        have hx1 := cx_S hx q
        have hl1 := lsN_1000 (S := SD I1 F T nb hu k) (nb := nb) (T := T) (to := to) (m := a) (t := fr) hb
        refine hpre _ _ hx1.1.2.1.1 (fun w2 => absurd w2 hy0) (fun _ => sm_isMinute ?_)
        rw [bP_t (n_oob ha (by omega))]
        refine ⟨(fun z => absurd z (by decide)), fun _ => ⟨d100, d100, sm_in ?_⟩⟩
        rw [bP_t (hin23.mpr ⟨hab, hb⟩)]
        have hv8 : vp_in (nI (8 * a + fr)) 192 := ti_in (by omega) (by omega)
        have hfl : (z = -1 ∨ (nI a ≤ z ∧ z ≤ nI b)) → bt_WP P (d + 7) mi_M_findLeast [vr 35 0, vi (nI k), vi (nI to), vi (nI a), vi (nI b)] (I1, L) (kV fun I16 N17 => ¬ (10 : Int32) = 0 ∧ (¬ (10 : Int32) = 0 ∧ (vp_in ((8 * nI a) + nI fr) 192 ∧ ((¬ (I16 59 0 (tn ((8 * nI a) + nI fr))) = 1000000 → ((0 ≤ z → (bt_Go P (d + 7) mi_M_least (kI Q) 172 [some (vr 35 0), none, none, some (vi z), some (vi (nI k)), none, some (vi (nI fr)), some (vi (nI a)), none, none] [] (I16, N17))) ∧ (¬ 0 ≤ z → (vp_in ((8 * nI a) + nI fr) 192 ∧ (Q (I16 59 0 (tn ((8 * nI a) + nI fr))) I16 N17))))) ∧ ((I16 59 0 (tn ((8 * nI a) + nI fr))) = 1000000 → (Q (-2) I16 N17)))))) := fun hz => by
          refine sm_findLeast hx1 hk ht hb hab (fun I' a1 a2 a3 => ⟨d10, d10, ?_⟩)
          obtain ⟨g1, g2⟩ := c2 hz I' a1 a2 a3
          rw [e8_i, ti_tn (by omega), a3 a fr (Nat.le_refl _) hab hf, bg_e hl1]
          refine ⟨hv8, fun w => ?_, g2⟩
          obtain ⟨g3, g4⟩ := g1 w
          exact ⟨g3, fun w2 => ⟨hv8, by rw [bg_n w]; exact g4 w2⟩⟩
        refine ⟨(fun z => absurd z (by decide)), fun _ => ⟨fun w => ⟨d100, d100, d10, d100, hfl (Or.inl w)⟩, fun w => ⟨d100, d100, sm_in (bP_br' (fun w2 => ⟨d100, d100, d10, d100, hfl (Or.inr w2)⟩) (fun w2 => c1 w w2))⟩⟩⟩
      have hmain : (z = -1 ∨ (nI a ≤ z ∧ z ≤ nI b)) → bt_WP P (d + 7) mi_So_fill [vr 12 0, vi (nI k)] (I, L) (kV fun I16 N17 => bt_WP P (d + 7) mi_Wa_measure [vr 16 0, vr 12 0, vi (nI to), vi (nI a), vi (nI b)] (I16, N17) (kV fun I18 N19 => bt_WP P (d + 7) mi_Wa_fewestFrom [vr 16 0, vi (nI fr), vi (nI a)] (I18, N19) (kI fun x22 I20 N21 => (x22 = (-2) → bt_WP P (d + 8) mi_M_least [vr 35 0, vi (nI N), vi (nI M), vi z] (I20, N21) (kI fun y1 I2 L2 => x22 = y1 ∧ G I2 L2)) ∧ (¬ x22 = (-2) → ((¬ z = (-1) → (bt_WP P (d + 7) mi_Wa_quietAt [vr 16 0, vi (nI fr), vi (nI a), vi z] (I20, N21) (kI fun x25 I23 N24 => bt_WP P (d + 8) mi_M_least [vr 35 0, vi (nI N), vi (nI M), vi z] (I23, N24) (kI fun y1 I2 L2 => x25 = y1 ∧ G I2 L2)))) ∧ (z = (-1) → bt_WP P (d + 8) mi_M_least [vr 35 0, vi (nI N), vi (nI M), vi z] (I20, N21) (kI fun y1 I2 L2 => x22 = y1 ∧ G I2 L2))))))) := fun hz => by
        refine cx_fill hx hk (fun I1 q1 q2 => ?_)
        have q : Scr I L I1 L := offS_Scr q1
        have hx1 := cx_S hx q
        refine sp_measure hx1 ht hb hab q2 (fun I2 q3 q4 => ?_)
        have q5 : Scr I L I2 L := Scr_tr q (off18_S q3)
        have hx2 := cx_S hx q5
        have eS : SD I2 F T nb hu k = SD I F T nb hu k := by unfold SD; rw [snd_S q5]
        have hl1 := lsN_v (S := SD I F T nb hu k) (nb := nb) (T := T) (to := to) (m := a) (t := fr) hb
        refine ru_Wa_fewestFrom (sp_onAt hx2.1.1.1 hT8 ha hf ?_)
        rw [q4 a fr (Nat.le_refl _) hab hf]
        have e1000 : nI (lsN (SD I F T nb hu k) nb T to b a fr) = 1000 ↔ lsN (SD I F T nb hu k) nb T to b a fr = 1000 := neq (b := 1000) (by omega) (by omega)
        rw [e1000]
        refine ⟨fun w => ⟨fun w2 => absurd (show nI (lsN (SD I F T nb hu k) nb T to b a fr) < 0 from by rw [w2]; decide) (n_neg (by omega)), fun _ => ⟨fun wz => ?_, fun wz => ?_⟩⟩, fun w => ⟨fun _ => ?_, fun w2 => absurd rfl w2⟩⟩
        · have hz2 := hz.resolve_left wz
          obtain ⟨c, hc, rfl⟩ : ∃ c, c < 24 ∧ z = nI c := by
            refine in_of (by omega) (fun w2 => ?_) (fun w2 => ?_)
            · have := hz2.1; rw [ti_le, ti_nI (by omega)] at this; rw [ti_lt, i_0] at w2; omega
            · have := hz2.2; rw [ti_le, ti_nI (by omega)] at this; rw [ti_le, ti_nI (by omega)] at w2; omega
          have hac : a ≤ c := (nle (by omega) (by omega)).mp hz2.1
          have hcb : c ≤ b := (nle (by omega) (by omega)).mp hz2.2
          refine ru_Wa_quietAt ?_
          rw [nI_s]
          have hq := sp_qat8 (P := P) (d := d + 3) (f := fun x25 I23 N24 => bt_WP P (d + 8) mi_M_least [vr 35 0, vi (nI N), vi (nI M), vi (nI c)] (I23, N24) (kI fun y1 I2 L2 => x25 = y1 ∧ G I2 L2)) (a := a) (at' := c) hx2 hf hb hcb w q4 (c - a) 0 (by omega) ?_
          · exact hq
          · refine hgoM I2 _ q5 (fun w2 w3 => absurd hz2 w3) (fun _ I3 a1 a2 a3 => ?_)
            rw [eS] at a3 ⊢
            refine ⟨fun _ => ⟨fun _ => ?_, fun w3 => absurd (Int32.not_lt.mp (n_neg (by omega))) w3⟩, fun w3 => absurd w3 w⟩
            rw [← eS] at w a3
            have hq2 := sm_ls172 (P := P) (d := d + 1) (f := fun y1 I2 L2 => nI (qtN (lsN (SD I F T nb hu k) nb T to b) nb T a fr (0 + (c - a))) = y1 ∧ G I2 L2) (a := a) (at' := c) hx2 hk hf hb hcb w (c - a) 0 I3 (by omega) a1 a2 a3 (fun I' b1 => ⟨by rw [eS], h _ (Scr_tr q5 b1)⟩)
            exact hq2
        · refine hgoM I2 _ q5 (fun w2 _ => absurd wz w2) (fun _ I3 a1 a2 a3 => ?_)
          rw [eS] at a3 ⊢
          subst wz
          exact ⟨fun _ => ⟨fun w2 => absurd w2 (by decide), fun _ => ⟨rfl, h _ (Scr_tr q5 a1)⟩⟩, fun w2 => absurd w2 w⟩
        · refine hgoM I2 _ q5 (fun w2 w3 => absurd hz (fun w4 => w4.elim w2 w3)) (fun _ I3 a1 a2 a3 => ?_)
          rw [eS] at a3 ⊢
          exact ⟨fun w2 => absurd w w2, fun _ => ⟨rfl, h _ (Scr_tr q5 a1)⟩⟩
      refine ⟨fun w => ⟨d100, hmain (Or.inl w)⟩, fun w => ⟨fun w2 => hgoM I _ Scr_rf (fun _ _ => ⟨rfl, hr⟩) (fun w3 => ?_), fun w2 => ⟨fun w3 => ⟨d100, hmain (Or.inr ⟨Int32.not_lt.mp w2, w3⟩)⟩, fun w3 => hgoM I _ Scr_rf (fun _ _ => ⟨rfl, hr⟩) (fun w4 => ?_)⟩⟩⟩
      · rcases w3 with w3 | w3
        · exact absurd w3 w
        · exact absurd w2 (Int32.not_lt.mpr w3.1)
      · rcases w4 with w4 | w4
        · exact absurd w4 w
        · exact absurd w4.2 w3
    · exact sp_isMin_out (oobR ((nle (by omega) (by omega)).mpr hb)) ⟨fun _ => hbadab (fun w => by omega), (fun z => absurd rfl z)⟩
  · have hoa : oob (nI a) 24 := oobR ((nle (by omega) (by omega)).mpr ha)
    refine sp_isMin_out hoa ⟨fun _ => hpre _ _ hmT (fun w => absurd w hy0) (fun _ => sm_isMinute ?_), (fun z => absurd rfl z)⟩
    rw [bP_f (fun w => w hoa)]
    exact ⟨fun _ => ⟨rfl, hr⟩, (fun z => absurd rfl z)⟩
end LSM
