/-! enough: joint -/
theorem bcN_le (n : Nat) : bcN n ≤ 8 := by unfold bcN; omega
/-- the fewest bells that are enough, among the first sets -/
noncomputable def enS (E : Nat → Prop) : Nat → Option Nat
  | 0 => none
  | s + 1 => @ite (Option Nat) (E s ∧ ∀ b, enS E s = some b → bcN s < bcN b) (Classical.propDecidable _) (some s) (enS E s)
theorem enS_t {E : Nat → Prop} {s : Nat} (h : E s ∧ ∀ b, enS E s = some b → bcN s < bcN b) : enS E (s + 1) = some s := by
  show @ite (Option Nat) _ (Classical.propDecidable _) (some s) (enS E s) = _
  rw [if_pos h]
theorem enS_f {E : Nat → Prop} {s : Nat} (h : ¬ (E s ∧ ∀ b, enS E s = some b → bcN s < bcN b)) : enS E (s + 1) = enS E s := by
  show @ite (Option Nat) _ (Classical.propDecidable _) (some s) (enS E s) = _
  rw [if_neg h]
theorem enS_lt {E : Nat → Prop} : ∀ (s b : Nat), enS E s = some b → b < s ∧ E b
  | 0, b, h => by cases h
  | s + 1, b, h => by
    by_cases q : E s ∧ ∀ b, enS E s = some b → bcN s < bcN b
    · rw [enS_t q] at h; cases h; exact ⟨by omega, q.1⟩
    · rw [enS_f q] at h
      have := enS_lt s b h
      exact ⟨by omega, this.2⟩
def beI : Option Nat → Int32
  | none => -2
  | some b => nI b
def fwI : Option Nat → Int32
  | none => 9
  | some b => nI (bcN b)
theorem fw_le {o : Option Nat} {s : Nat} : fwI o ≤ nI (bcN s) ↔ ¬ ∀ b, o = some b → bcN s < bcN b := by
  have h8 := bcN_le s
  rcases o with _ | b
  · have e : fwI none ≤ nI (bcN s) ↔ 9 ≤ bcN s := nle (a := 9) (by omega) (by omega)
    rw [e]
    exact ⟨fun z => by omega, fun z => absurd (fun b hb => by cases hb) z⟩
  · have hb8 := bcN_le b
    have e : fwI (some b) ≤ nI (bcN s) ↔ bcN b ≤ bcN s := nle (by omega) (by omega)
    rw [e]
    constructor
    · intro z w; have := w b rfl; omega
    · intro z
      refine Classical.byContradiction fun w => z (fun b' hb' => ?_)
      cases hb'; omega
section ENO
variable {P : bt_PT} {d : Nat} {f : Int32 → m_I → m_L → Prop} {I0 I : m_I} {L : m_L} {T hu bn : Nat} {nb : Nat → Nat} {X : Nat → sH} {Z : Nat → Nat} {F : lF}
/-- a set of bells that are there, and enough -/
def enE (L : m_L) (Z : Nat → Nat) (S : Nat → Nat → Int32) (n all : Nat) (s : Nat) : Prop := s &&& (all ^^^ 255) = 0 ∧ teP L Z S n s
theorem te_0 {S : Nat → Nat → Int32} {n : Nat} (hn : 0 < n) : ¬ teP L Z S n 0 := fun h => by
  obtain ⟨m, -, y⟩ := h.1 0 hn
  exact y (by unfold amo; rw [Nat.zero_testBit, if_neg (by decide)])
theorem sp_enL (h : cx P I L T hu bn nb X Z F) {n all : Nat} {S : Nat → Nat → Int32} (hn : n ≤ 4) (xa : ∀ i, i < n → X i = some (.inr 0)) (wa : ∀ i, i < n → WK L T nb Z i) (hfl : flS I 0 S) (hall : all < 256) (g : f (beI (enS (enE L Z S n all) (all + 1))) I L) : ∀ (k s : Nat), s + k = all + 1 → bt_Go P (d + 5) mi_B_enough (kI f) 63 [some (vr 0 0), none, some (vi (nI n)), none, some (vi (nI all)), some (vi (beI (enS (enE L Z S n all) s))), some (vi (fwI (enS (enE L Z S n all) s))), some (vi (nI s)), none] [] (I, L)
  | 0, s, e => by
    have e : s = all + 1 := by omega
    subst e
    exact ru_B_enough_63 ⟨fun _ => g, fun q => absurd ((nlt (by omega) (by omega)).mpr (by omega)) q⟩
  | k + 1, s, e => by
    have hs : s < 256 := by omega
    have hand := and_lt256 (b := all ^^^ 255) hs
    have h0 : nI (s &&& (all ^^^ 255)) = 0 ↔ s &&& (all ^^^ 255) = 0 := neq (b := 0) (by omega) (by omega)
    refine ru_B_enough_63 ⟨fun q => absurd ((nlt (by omega) (by omega)).mp q) (by omega), fun _ => sp_bitCount hs ?_⟩
    rw [nI_andn hs hall, nI_s]
    have hsame : ¬ (enE L Z S n all s ∧ ∀ b, enS (enE L Z S n all) s = some b → bcN s < bcN b) → bt_Go P (d + 5) mi_B_enough (kI f) 63 [some (vr 0 0), none, some (vi (nI n)), none, some (vi (nI all)), some (vi (beI (enS (enE L Z S n all) s))), some (vi (fwI (enS (enE L Z S n all) s))), some (vi (nI (s + 1))), none] [] (I, L) := fun q => by
      have := sp_enL h hn xa wa hfl hall g k (s + 1) (by omega)
      rw [enS_f q] at this; exact this
    refine ⟨fun q => hsame (fun z => q (h0.mpr z.1.1)), fun q => ⟨fun q2 => hsame (fun z => fw_le.mp q2 z.2), fun q2 => sp_areTold h hn xa wa hfl hs (bP_br (fun q3 => hsame (fun z => q3 z.1.2)) (fun q3 => ?_))⟩⟩
    have hc : enE L Z S n all s ∧ ∀ b, enS (enE L Z S n all) s = some b → bcN s < bcN b := ⟨⟨h0.mp q, q3⟩, Classical.byContradiction fun z => q2 (fw_le.mpr z)⟩
    have := sp_enL h hn xa wa hfl hall g k (s + 1) (by omega)
    rw [enS_t hc] at this; exact this
theorem sm_enL (h : cx P I0 L T hu bn nb X Z F) {n all k : Nat} (hk : k < 4) (hn : n ≤ 4) (xa : ∀ i, i < n → X i = some (.inr 0)) (wa : ∀ i, i < n → WK L T nb Z i) (hall : all < 256) (g : ∀ I', mR I0 I' T (frD T nb hu) → f (beI (enS (enE L Z (SD I0 F T nb hu k) n all) (all + 1))) I' L) : ∀ (q s : Nat) (I : m_I), s + q = all + 1 → mR I0 I T (frD T nb hu) → bt_Go P (d + 8) mi_M_enough (kI f) 76 [some (vr 35 0), some (vi (nI k)), some (vi (nI n)), some (vi (nI all)), some (vi (beI (enS (enE L Z (SD I0 F T nb hu k) n all) s))), some (vi (nI s))] [] (I, L)
  | 0, s, I, e, hr => by
    have e : s = all + 1 := by omega
    subst e
    exact ru_M_enough_76 ⟨fun _ => g I hr, fun q => absurd ((nlt (by omega) (by omega)).mpr (by omega)) q⟩
  | q + 1, s, I, e, hr => by
    have hs : s < 256 := by omega
    have hand := and_lt256 (b := all ^^^ 255) hs
    have h0 : nI (s &&& (all ^^^ 255)) = 0 ↔ s &&& (all ^^^ 255) = 0 := neq (b := 0) (by omega) (by omega)
    refine ru_M_enough_76 ⟨fun q => absurd ((nlt (by omega) (by omega)).mp q) (by omega), fun _ => ?_⟩
    rw [nI_andn hs hall, nI_s]
    have hsame : ∀ I', mR I0 I' T (frD T nb hu) → ¬ (enE L Z (SD I0 F T nb hu k) n all s ∧ ∀ b, enS (enE L Z (SD I0 F T nb hu k) n all) s = some b → bcN s < bcN b) → bt_Go P (d + 8) mi_M_enough (kI f) 76 [some (vr 35 0), some (vi (nI k)), some (vi (nI n)), some (vi (nI all)), some (vi (beI (enS (enE L Z (SD I0 F T nb hu k) n all) s))), some (vi (nI (s + 1)))] [] (I', L) := fun I' hr' q' => by
      have := sm_enL h hk hn xa wa hall g q (s + 1) I' (by omega) hr'
      rw [enS_f q'] at this; exact this
    have hnew : ∀ I', mR I0 I' T (frD T nb hu) → (enE L Z (SD I0 F T nb hu k) n all s ∧ ∀ b, enS (enE L Z (SD I0 F T nb hu k) n all) s = some b → bcN s < bcN b) → bt_Go P (d + 8) mi_M_enough (kI f) 76 [some (vr 35 0), some (vi (nI k)), some (vi (nI n)), some (vi (nI all)), some (vi (nI s)), some (vi (nI (s + 1)))] [] (I', L) := fun I' hr' q' => by
      have := sm_enL h hk hn xa wa hall g q (s + 1) I' (by omega) hr'
      rw [enS_t q'] at this; exact this
    refine ⟨fun y => hsame I hr (fun z => y (h0.mpr z.1.1)), fun y => ⟨fun y2 => sm_areEnough h hk hn xa wa hs hr (fun I1 hr1 => bP_br (fun y3 => hsame I1 hr1 (fun z => y3 z.1.2)) (fun y3 => hnew I1 hr1 ⟨⟨h0.mp y, y3⟩, fun b hb => ?_⟩)), fun y2 => ?_⟩⟩
    · rw [hb] at y2
      have := (enS_lt s b hb).1
      exact absurd y2 (n_neg (t := b) (by omega))
    · rcases hb : enS (enE L Z (SD I0 F T nb hu k) n all) s with _ | b
      · rw [hb] at y2; exact absurd (show (-2 : Int32) < 0 by decide) y2
      · have hbs := (enS_lt s b hb).1
        have hb8 := bcN_le b
        have hs8 := bcN_le s
        rw [hb] at hsame hnew
        refine sm_bitsOf hs (sm_bitsOf (n := b) (by omega) ⟨fun y3 => hsame I hr (fun z => ?_), fun y3 => sm_areEnough h hk hn xa wa hs hr (fun I1 hr1 => bP_br (fun y4 => hsame I1 hr1 (fun z => y4 z.1.2)) (fun y4 => hnew I1 hr1 ⟨⟨h0.mp y, y4⟩, fun b' hb' => ?_⟩))⟩)
        · have := z.2 b rfl
          have := (nle (by omega) (by omega)).mp y3
          omega
        · cases hb'
          have : ¬ bcN b ≤ bcN s := fun z => y3 ((nle (by omega) (by omega)).mpr z)
          omega
theorem sm_en41 (h : cx P I0 L T hu bn nb X Z F) {n k : Nat} (hr : mR I0 I T (frD T nb hu)) (g : bt_Go P d mi_M_enough (kI f) 76 [some (vr 35 0), some (vi (nI k)), some (vi (nI n)), some (vi (nI (thB I0 T))), some (vi (-2)), some (vi 0)] [] (I, L)) : ∀ (q t : Nat), t + q = T → bt_Go P d mi_M_enough (kI f) 41 [some (vr 35 0), some (vi (nI k)), some (vi (nI n)), some (vi (nI (thB I0 t))), some (vi (nI t)), none] [] (I, L)
  | 0, t, e => by
    have e : t = T := by omega
    subst e
    have hT8 := h.1.1.2.1
    refine ru_M_enough_41 ⟨fun _ => g, fun z => absurd ?_ z⟩
    rw [hr.1 35 0 1 (by omega), h.1.2.1.1]; exact Int32.le_refl _
  | q + 1, t, e => by
    have hT8 := h.1.1.2.1
    refine ru_M_enough_41 ⟨fun z => ?_, fun _ => ⟨ti_in (by omega) (by omega), ?_⟩⟩
    · rw [hr.1 35 0 1 (by omega), h.1.2.1.1, nle (by omega) (by omega)] at z; omega
    · have h3 := h.1.2.2.2.1 3 t (by omega) (by show t < T; omega)
      have h39 : I0 39 0 t = I0 3 3 t := h3.1
      rw [ti_tn (by omega), hr.1 39 0 t (by omega), h39, nI_s]
      have ih := sm_en41 h hr g q (t + 1) (by omega)
      have e1 : nI (thB I0 t) ||| (I0 3 3 t <<< (nI t &&& 31)) = nI (thB I0 (t + 1)) := by
        have hlt := thB_lt (I := I0) t (by omega)
        have hp := pow_lt256 (t := t) (T := T) (by omega) hT8
        show _ = nI (thB I0 t ||| (if I0 3 3 t = 1 then 2 ^ t else 0))
        obtain ⟨m, hm, em⟩ := h3.2
        have hm' : m < 2 := hm
        have : m = 0 ∨ m = 1 := by omega
        rcases this with rfl | rfl
        · rw [em, if_neg (show ¬ nI 0 = 1 by decide), nI_shl (by omega) (by omega), Nat.zero_mul, nI_or]
        · rw [em, if_pos (show nI 1 = 1 from rfl), show (nI 1 <<< (nI t &&& 31)) = nI (2 ^ t) from nI_one (by omega), nI_or]
      rw [e1]
      exact ih
theorem jn_enough {G : m_I → m_L → Prop} {k n : Int32} (hx : cx P I L T hu bn nb X Z F) (h : ∀ I', Scr I L I' L → G I' L) :
    bt_WP P (d + 9) mi_B_enough [vr 0 0, vi k, vi n] (I, L) (kI fun x I1 L1 => bt_WP P (d + 9) mi_M_enough [vr 35 0, vi k, vi n] (I1, L1) (kI fun y I2 L2 => x = y ∧ G I2 L2)) := by
  have hr : G I L := h I Scr_rf
  have i1 : (1 : Int32).toInt = 1 := rfl
  have i4 : (4 : Int32).toInt = 4 := rfl
  rcases ix k 4 (by omega) with hk | ⟨k, hk, rfl⟩
  · exact ru_B_enough (sp_isSort_out hk ⟨fun _ => ru_M_enough (sm_isSort_out hk ⟨fun _ => ⟨rfl, hr⟩, (fun z => absurd rfl z)⟩), (fun z => absurd rfl z)⟩)
  by_cases hn : (1 : Int32) ≤ n ∧ n ≤ 4
  · obtain ⟨hn1, hn4⟩ := hn
    obtain ⟨j, hj, rfl⟩ : ∃ j, j < 5 ∧ n = nI j := by
      refine in_of (by omega) (fun z => ?_) (fun z => ?_)
      · rw [ti_lt, i_0] at z; rw [ti_le, i1] at hn1; omega
      · rw [ti_le, ti_nI (by omega)] at z; rw [ti_le, i4] at hn4; omega
    have hj1 : 1 ≤ j := (nle (a := 1) (by omega) (by omega)).mp hn1
    have hm : ∀ (I1 : m_I) (Q : Int32 → m_I → m_L → Prop), Scr I L I1 L → (¬ 0 ≤ faI (fun i => i < j) X (WK L T nb Z) → Q (faI (fun i => i < j) X (WK L T nb Z)) I1 L) → (0 ≤ faI (fun i => i < j) X (WK L T nb Z) → bt_WP P (d + 8) mi_M_findFar [vr 35 0] (I1, L) (kV fun I10 N11 => bt_Go P (d + 8) mi_M_enough (kI Q) 41 [some (vr 35 0), some (vi (nI k)), some (vi (nI j)), some (vi 0), some (vi 0), none] [] (I10, N11))) → bt_WP P (d + 9) mi_M_enough [vr 35 0, vi (nI k), vi (nI j)] (I1, L) (kI Q) := fun I1 Q q c1 c2 => by
      have hx1 := cx_S hx q
      refine ru_M_enough (sm_isSort_in hk ⟨(fun z => absurd z (by decide)), fun _ => sm_in ?_⟩)
      rw [bP_t ⟨hn1, hn4⟩]
      exact ⟨fun _ => sm_walksFault hx1.1.2.1 hx1.2.1 (by omega) ⟨c2, fun z => sm_walksFault hx1.1.2.1 hx1.2.1 (by omega) (c1 z)⟩, (fun z => absurd z (by decide))⟩
    refine ru_B_enough (sp_isSort_in hk ⟨(fun z => absurd z (by decide)), fun _ => ⟨fun z => absurd z (Int32.not_lt.mpr hn1), fun _ => ⟨fun _ => ?_, fun z => absurd hn4 z⟩⟩⟩)
    have p4 : 2 ^ j ≤ 2 ^ 4 := Nat.pow_le_pow_right (by omega) (by omega)
    have p16 : 2 ^ 4 = 16 := rfl
    have e : ((1 : Int32) <<< (nI j &&& 31)) - 1 = nI (2 ^ j - 1) := by rw [nI_one (by omega), show (1 : Int32) = nI 1 from rfl, pk_sub Nat.one_le_two_pow]
    rw [e]
    refine sp_walksRefusal hx.1.1 hx.2.1 (by omega) ?_
    rw [faI_ext (S' := fun i => i < j) (fun i => by
      rw [Nat.testBit_two_pow_sub_one, decide_eq_true_iff]
      exact ⟨fun z => z.2, fun z => ⟨by omega, z⟩⟩)]
    by_cases hv : faI (fun i => i < j) X (WK L T nb Z) = 0
    · obtain ⟨xa, wa⟩ := faI_0 hv
      rw [hv] at hm ⊢
      refine ⟨fun _ => cx_fill hx hk (fun I1 q1 q2 => ?_), (fun z => absurd rfl z)⟩
      have q : Scr I L I1 L := offS_Scr q1
      have hx1 := cx_S hx q
      have h01 : ∀ t, t < T → I1 3 3 t = 0 ∨ I1 3 3 t = 1 := fun t ht => by
        obtain ⟨m, hm, em⟩ := (hx1.1.2.2.2.1 3 t (by omega) ht).2
        have hm' : m < 2 := hm
        have : m = 0 ∨ m = 1 := by omega
        rcases this with rfl | rfl
        · exact Or.inl em
        · exact Or.inr em
      have hall := thB_lt (I := I1) T hx.1.1.2.1
      refine sp_bellsThere hx1.1.1.1 hx.1.1.2.1 h01 ?_
      have e1 : enS (enE L Z (SD I F T nb hu k) j (thB I1 T)) 1 = none := by
        rw [enS_f (fun z => te_0 hj1 z.1.2)]; rfl
      refine (show bt_Go P (d + 8) mi_B_enough _ 63 [some (vr 0 0), none, some (vi (nI j)), none, some (vi (nI (thB I1 T))), some (vi (beI none)), some (vi (fwI none)), some (vi (nI 1)), none] [] (I1, L) from ?_)
      rw [← e1]
      refine sp_enL hx1 (by omega) xa wa q2 hall ?_ (thB I1 T) 1 (by omega)
      refine hm I1 _ q (fun z => absurd (by decide) z) (fun _ => cx_far hx1 (fun I2 q3 => ?_))
      refine sm_en41 (n := j) (k := k) hx1 q3 ?_ T 0 (by omega)
      refine sm_enL hx1 hk (by omega) xa wa hall (fun I' q4 => ⟨?_, h _ (Scr_tr q (mR_Scr q4))⟩) (thB I1 T + 1) 0 I2 (by omega) q3
      rw [show SD I1 F T nb hu k = SD I F T nb hu k from by unfold SD; rw [snd_S q]]
    · exact ⟨fun z => absurd z hv, fun _ => hm I _ Scr_rf (fun _ => ⟨rfl, hr⟩) (fun z => absurd (faI_lt.mpr hv) (Int32.not_lt.mpr z))⟩
  · have hmb : bt_WP P (d + 9) mi_M_enough [vr 35 0, vi (nI k), vi n] (I, L) (kI fun y I2 L2 => (-1) = y ∧ G I2 L2) := by
      refine ru_M_enough (sm_isSort_in hk ⟨(fun z => absurd z (by decide)), fun _ => sm_in ?_⟩)
      rw [bP_f hn]
      exact ⟨(fun z => absurd rfl z), fun _ => ⟨rfl, hr⟩⟩
    exact ru_B_enough (sp_isSort_in hk ⟨(fun z => absurd z (by decide)), fun _ => ⟨fun _ => hmb, fun z => ⟨fun z2 => absurd ⟨Int32.not_lt.mp z, z2⟩ hn, fun _ => hmb⟩⟩⟩)
end ENO
