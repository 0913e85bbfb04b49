/-! judge, apart: joint -/
def badP (x : Int32) (B : Nat) : Prop := x < 0 ∨ ∃ n, n < 2147483648 ∧ x = nI n ∧ (B ≤ n / 10 ∨ B ≤ n % 10)
theorem pr_c (x : Int32) (B : Nat) : badP x B ∨ ∃ a b, a < B ∧ b < B ∧ ¬ x < 0 ∧ x / 10 = nI a ∧ x - x / 10 * 10 = nI b := by
  by_cases h0 : x < 0
  · exact Or.inl (Or.inl h0)
  · obtain ⟨n, hn, rfl⟩ : ∃ n : Nat, n < 2147483648 ∧ x = nI n := by
      refine ⟨x.toInt.toNat, ?_, ?_⟩
      · have := Int32.toInt_lt x
        rw [ti_lt, i_0] at h0; omega
      · rw [ti_lt, i_0] at h0
        have hb := Int32.toInt_lt x
        rw [ti_eq, ti_nI (by omega)]; omega
    by_cases h1 : B ≤ n / 10 ∨ B ≤ n % 10
    · exact Or.inl (Or.inr ⟨n, hn, rfl, h1⟩)
    · exact Or.inr ⟨n / 10, n % 10, by omega, by omega, h0, pk_div (d := 10) hn (by omega) (by omega), pk_rem (d := 10) hn (by omega) (by omega)⟩
theorem sp_isPair_in {P : bt_PT} {d : Nat} {f : Int32 → m_I → m_L → Prop} {I : m_I} {L : m_L} {x : Int32} {a b B : Nat} (hB : B ≤ 10) (ha : a < B) (hb : b < B) (h0 : ¬ x < 0) (e1 : x / 10 = nI a) (e2 : x - x / 10 * 10 = nI b) (h : f 1 I L) : bt_WP P (d + 1) mi_B_isPair [vi x, vi (nI B)] (I, L) (kI f) := by
  refine ru_B_isPair ⟨fun z => absurd z h0, fun _ => ⟨by decide, ?_⟩⟩
  rw [e2, e1]
  exact ⟨fun z => absurd ((nle (by omega) (by omega)).mp z) (by omega), fun _ => ⟨by decide, fun z => absurd ((nle (by omega) (by omega)).mp z) (by omega), fun _ => ⟨o01, h⟩⟩⟩
theorem sp_isPair_out {P : bt_PT} {d : Nat} {f : Int32 → m_I → m_L → Prop} {I : m_I} {L : m_L} {x : Int32} {B : Nat} (hB : B ≤ 10) (hx : badP x B) (h : f 0 I L) : bt_WP P (d + 1) mi_B_isPair [vi x, vi (nI B)] (I, L) (kI f) := by
  refine ru_B_isPair ⟨fun _ => ⟨z01, h⟩, fun h0 => ⟨by decide, fun _ => ⟨z01, h⟩, fun h1 => ⟨by decide, fun _ => ⟨z01, h⟩, fun h2 => ?_⟩⟩⟩
  rcases hx with z | ⟨n, hn, rfl, z⟩
  · exact absurd z h0
  · have e1 : nI n / 10 = nI (n / 10) := pk_div (d := 10) hn (by omega) (by omega)
    have e2 : nI n - nI n / 10 * 10 = nI (n % 10) := pk_rem (d := 10) hn (by omega) (by omega)
    rw [e2] at h2
    rw [e1] at h1
    rcases z with z | z
    · exact absurd ((nle (by omega) (by omega)).mpr z) h1
    · exact absurd ((nle (by omega) (by omega)).mpr z) h2
theorem sm_areSorts_in {P : bt_PT} {d : Nat} {f : Int32 → m_I → m_L → Prop} {I : m_I} {L : m_L} {x : Int32} {a b : Nat} (ha : a < 4) (hb : b < 4) (h0 : ¬ x < 0) (e1 : x / 10 = nI a) (e2 : x - x / 10 * 10 = nI b) (h : f 1 I L) : bt_WP P (d + 3) mi_M_areSorts [vi x] (I, L) (kI f) := by
  refine ru_M_areSorts ⟨fun z => absurd z h0, fun _ => ⟨by decide, ?_⟩⟩
  rw [e2, e1]
  refine sm_isSort (bP_br (fun z => absurd (n_oob ha (by omega)) z) (fun _ => ⟨by decide, sm_isSort (bP_br (fun z => absurd (n_oob hb (by omega)) z) (fun _ => ⟨o01, h⟩))⟩))
theorem sm_areSorts_out {P : bt_PT} {d : Nat} {f : Int32 → m_I → m_L → Prop} {I : m_I} {L : m_L} {x : Int32} (hx : badP x 4) (h : f 0 I L) : bt_WP P (d + 3) mi_M_areSorts [vi x] (I, L) (kI f) := by
  refine ru_M_areSorts ⟨fun _ => ⟨z01, h⟩, fun h0 => ⟨by decide, sm_isSort (bP_br (fun _ => ⟨z01, h⟩) (fun h1 => ⟨by decide, sm_isSort (bP_br (fun _ => ⟨z01, h⟩) (fun h2 => ?_))⟩))⟩⟩
  rcases hx with z | ⟨n, hn, rfl, z⟩
  · exact absurd z h0
  · have e1 : nI n / 10 = nI (n / 10) := pk_div (d := 10) hn (by omega) (by omega)
    have e2 : nI n - nI n / 10 * 10 = nI (n % 10) := pk_rem (d := 10) hn (by omega) (by omega)
    rw [e2] at h2
    rw [e1] at h1
    rcases z with z | z
    · exact absurd (oobR ((nle (by omega) (by omega)).mpr z)) h1
    · exact absurd (oobR ((nle (by omega) (by omega)).mpr z)) h2
theorem sm_areShelves_in {P : bt_PT} {d : Nat} {f : Int32 → m_I → m_L → Prop} {I : m_I} {L : m_L} {x : Int32} {a b : Nat} (ha : a < 6) (hb : b < 6) (h0 : ¬ x < 0) (e1 : x / 10 = nI a) (e2 : x - x / 10 * 10 = nI b) (h : f 1 I L) : bt_WP P (d + 3) mi_M_areShelves [vi x] (I, L) (kI f) := by
  refine ru_M_areShelves ⟨fun z => absurd z h0, fun _ => ⟨by decide, ?_⟩⟩
  rw [e2, e1]
  refine sm_isShelf (bP_br (fun z => absurd (n_oob ha (by omega)) z) (fun _ => ⟨by decide, sm_isShelf (bP_br (fun z => absurd (n_oob hb (by omega)) z) (fun _ => ⟨o01, h⟩))⟩))
theorem sm_areShelves_out {P : bt_PT} {d : Nat} {f : Int32 → m_I → m_L → Prop} {I : m_I} {L : m_L} {x : Int32} (hx : badP x 6) (h : f 0 I L) : bt_WP P (d + 3) mi_M_areShelves [vi x] (I, L) (kI f) := by
  refine ru_M_areShelves ⟨fun _ => ⟨z01, h⟩, fun h0 => ⟨by decide, sm_isShelf (bP_br (fun _ => ⟨z01, h⟩) (fun h1 => ⟨by decide, sm_isShelf (bP_br (fun _ => ⟨z01, h⟩) (fun h2 => ?_))⟩))⟩⟩
  rcases hx with z | ⟨n, hn, rfl, z⟩
  · exact absurd z h0
  · have e1 : nI n / 10 = nI (n / 10) := pk_div (d := 10) hn (by omega) (by omega)
    have e2 : nI n - nI n / 10 * 10 = nI (n % 10) := pk_rem (d := 10) hn (by omega) (by omega)
    rw [e2] at h2
    rw [e1] at h1
    rcases z with z | z
    · exact absurd (oobR ((nle (by omega) (by omega)).mpr z)) h1
    · exact absurd (oobR ((nle (by omega) (by omega)).mpr z)) h2
theorem sp_isSort_in {P : bt_PT} {d : Nat} {f : Int32 → m_I → m_L → Prop} {I : m_I} {L : m_L} {k : Nat} (hk : k < 4) (h : f 1 I L) : bt_WP P (d + 1) mi_B_isSort [vi (nI k)] (I, L) (kI f) := ru_B_isSort ⟨fun q => absurd q (n_neg (by omega)), fun _ => ⟨fun q => absurd ((nle (a := 4) (by omega) (by omega)).mp q) (by omega), fun _ => ⟨o01, h⟩⟩⟩
theorem sp_isSort_out {P : bt_PT} {d : Nat} {f : Int32 → m_I → m_L → Prop} {I : m_I} {L : m_L} {x : Int32} (hx : oob x 4) (h : f 0 I L) : bt_WP P (d + 1) mi_B_isSort [vi x] (I, L) (kI f) := ru_B_isSort ⟨fun _ => ⟨z01, h⟩, fun h0 => ⟨fun _ => ⟨z01, h⟩, fun h1 => absurd hx (fun z => z.elim h0 h1)⟩⟩
theorem sm_isSort_in {P : bt_PT} {d : Nat} {f : Int32 → m_I → m_L → Prop} {I : m_I} {L : m_L} {k : Nat} (hk : k < 4) (h : f 1 I L) : bt_WP P (d + 2) mi_M_isSort [vi (nI k)] (I, L) (kI f) := sm_isSort (by rw [bP_t (n_oob hk (by omega))]; exact h)
theorem sm_isSort_out {P : bt_PT} {d : Nat} {f : Int32 → m_I → m_L → Prop} {I : m_I} {L : m_L} {x : Int32} (hx : oob x 4) (h : f 0 I L) : bt_WP P (d + 2) mi_M_isSort [vi x] (I, L) (kI f) := sm_isSort (by rw [bP_f (fun z => z hx)]; exact h)
theorem tb_2 {a b i : Nat} : (2 ^ a ||| 2 ^ b).testBit i = true ↔ i = a ∨ i = b := by
  rw [Nat.testBit_or, Nat.testBit_two_pow, Nat.testBit_two_pow, Bool.or_eq_true, decide_eq_true_iff, decide_eq_true_iff]
  omega
theorem tb_1 {a i : Nat} : (2 ^ a).testBit i = true ↔ i = a := by
  rw [Nat.testBit_two_pow, decide_eq_true_iff]; omega
theorem sp_amo {P : bt_PT} {d : Nat} {f : Int32 → m_I → m_L → Prop} {I : m_I} {L : m_L} {T s0 m bl : Nat} {x : Int32} {S : Nat → Nat → Int32} (hT : I 1 0 4 = nI T) (hT8 : T ≤ 8) (hx : lt' x T) (hm : m < 24) (hb : bl < 256) (hfl : flS I s0 S) (h : f (amo S bl (tn x) m) I L) : bt_WP P (d + 3) mi_So_among [vr 12 s0, vi (nI bl), vi x, vi (nI m)] (I, L) (kI f) := by
  obtain ⟨t, ht, rfl⟩ := hx
  rw [ti_tn (by omega)] at h
  refine sp_SoAmong hT hT8 ht hm hb ?_
  rw [hfl t m (by omega) hm]; exact h
theorem sp_sat {P : bt_PT} {d : Nat} {f : Int32 → m_I → m_L → Prop} {I : m_I} {L : m_L} {T s0 m : Nat} {x : Int32} {S : Nat → Nat → Int32} (hT : I 1 0 4 = nI T) (hT8 : T ≤ 8) (hx : lt' x T) (hm : m < 24) (hfl : flS I s0 S) (h : f (S (tn x) m) I L) : bt_WP P (d + 2) mi_So_at [vr 12 s0, vi x, vi (nI m)] (I, L) (kI f) := by
  obtain ⟨t, ht, rfl⟩ := hx
  rw [ti_tn (by omega)] at h
  refine sp_SoAt hT hT8 ht hm ?_
  rw [hfl t m (by omega) hm]; exact h
section CXL
variable {P : bt_PT} {d : Nat} {f : Int32 → m_I → m_L → Prop} {I0 I : m_I} {L : m_L} {T hu bn : Nat} {nb : Nat → Nat} {X : Nat → sH} {Z : Nat → Nat} {F : lF}
theorem cx_T (h : cx P I L T hu bn nb X Z F) : I 1 0 4 = nI T ∧ T ≤ 8 := ⟨h.1.1.1, h.1.1.2.1⟩
theorem cx_row (h : cx P I L T hu bn nb X Z F) {s : Nat} (hs : s < 6) (hx : X s = some (.inr 0)) : gS1 I L bn s (some (.inr 0)) (Z s) := by
  have := h.2.1.2 s hs
  rw [hx] at this; exact this
theorem WK_lt {s : Nat} (h : WK L T nb Z s) {m : Nat} (hm : m < min 24 (Z s)) : lt' (vL L s m) T := (h m hm).1
theorem sp_fnsL (h : cx P I L T hu bn nb X Z F) {a b bl : Nat} {S : Nat → Nat → Int32} (ha : a < 6) (hb : b < 6) (xa : X a = some (.inr 0)) (xb : X b = some (.inr 0)) (hw : ∀ m, m < min 24 (Z a) → lt' (vL L a m) T) (hfl : flS I 0 S) (hbl : bl < 256) : ∀ (k m : Nat), m + k = min (min 24 (Z a)) (min 24 (Z b)) → f (fsI (fun m => ¬ amo S bl (tn (vL L a m)) m = vL L b m) m k) I L → bt_Go P (d + 3) mi_B_firstNotSo (kI f) 27 [some (vr 0 0), some (vr 33 a), some (vr 33 b), some (vi (nI bl)), some (vi (nI (min (min 24 (Z a)) (min 24 (Z b))))), some (vi (nI m))] [] (I, L)
  | 0, m, e, g => by
    have e : m = min (min 24 (Z a)) (min 24 (Z b)) := by omega
    rw [← e]
    exact ru_B_firstNotSo_27 ⟨fun _ => g, fun q => absurd (Int32.le_refl _) q⟩
  | k + 1, m, e, g => by
    obtain ⟨-, -, -, za, ea⟩ := row_e (cx_row h ha xa)
    obtain ⟨-, -, -, zb, eb⟩ := row_e (cx_row h hb xb)
    obtain ⟨hT, hT8⟩ := cx_T h
    refine ru_B_firstNotSo_27 ⟨fun q => absurd ((nle (by omega) (by omega)).mp q) (by omega), fun _ => sp_at ea za (by omega) (sp_amo hT hT8 (hw m (by omega)) (by omega) hbl hfl (sp_at eb zb (by omega) ⟨fun q => ?_, fun q => ?_⟩))⟩
    · rw [nI_s]
      rw [fsI_f (fun z => z q)] at g
      exact sp_fnsL h ha hb xa xb hw hfl hbl k (m + 1) (by omega) g
    · rw [fsI_t q] at g; exact g
theorem sp_fns (h : cx P I L T hu bn nb X Z F) {a b bl : Nat} {S : Nat → Nat → Int32} (ha : a < 6) (hb : b < 6) (xa : X a = some (.inr 0)) (xb : X b = some (.inr 0)) (hw : ∀ m, m < min 24 (Z a) → lt' (vL L a m) T) (hfl : flS I 0 S) (hbl : bl < 256) (g : f (fsI (fun m => ¬ amo S bl (tn (vL L a m)) m = vL L b m) 0 (min (min 24 (Z a)) (min 24 (Z b)))) I L) : bt_WP P (d + 4) mi_B_firstNotSo [vr 0 0, vr 33 a, vr 33 b, vi (nI bl)] (I, L) (kI f) := by
  obtain ⟨-, -, -, za, ea⟩ := row_e (cx_row h ha xa)
  obtain ⟨-, -, -, zb, eb⟩ := row_e (cx_row h hb xb)
  refine ru_B_firstNotSo ⟨(fun z => by cases z), fun _ => ⟨fun _ => sp_minutes ea za (sp_minutes eb zb ?_), (fun z => by cases z)⟩⟩
  rw [mn_i (by omega) (by omega)]
  exact sp_fnsL h ha hb xa xb hw hfl hbl _ 0 (by omega) g
theorem sm_judgeL (h : cx P I0 L T hu bn nb X Z F) {a b k : Nat} {w : Int32} (hk : k < 4) (ha : a < 6) (hb : b < 6) (e1 : w / 10 = nI a) (e2 : w - w / 10 * 10 = nI b) (xa : X a = some (.inr 0)) (xb : X b = some (.inr 0)) (hw : ∀ m, m < min 24 (Z a) → lt' (vL L a m) T) : ∀ (n m : Nat) (I : m_I), m + n = min (min 24 (Z a)) (min 24 (Z b)) → mR I0 I T (frD T nb hu) → (∀ I', mR I0 I' T (frD T nb hu) → f (fsI (fun m => ¬ amo (SD I0 F T nb hu k) 255 (tn (vL L a m)) m = vL L b m) m n) I' L) → bt_Go P (d + 6) mi_M_judge (kI f) 50 [some (vr 35 0), some (vi (nI k)), some (vi w), some (vi (nI m))] [] (I, L)
  | n, m, I, e, hr, g => by
    have q : Scr I0 L I L := mR_Scr hr
    have ra := cx_row h ha xa
    have rb := cx_row h hb xb
    obtain ⟨ka, -, -, za, -⟩ := row_e (cx_row (cx_S h q) ha xa)
    obtain ⟨kb, e68, hby, zb, -⟩ := row_e (cx_row (cx_S h q) hb xb)
    refine ru_M_judge_50 (sm_bothHave ha hb e1 e2 ka kb za zb ?_)
    rw [e2, e1]
    refine ⟨fun z => ?_, fun z => ⟨by decide, ru_M_every (cx_wso (b := 255) h hr hk ha ra (hw m ?_) ?_ (by omega) (fun I1 hr1 => ⟨by decide, sm_told hb ?_ ?_⟩))⟩⟩
    · have := (nle (by omega) (by omega)).mp z
      have e0 : n = 0 := by omega
      subst e0; exact g I hr
    · have : ¬ min (min 24 (Z a)) (min 24 (Z b)) ≤ m := fun y => z ((nle (b := m) (by omega) (by omega)).mpr y)
      omega
    · have : ¬ min (min 24 (Z a)) (min 24 (Z b)) ≤ m := fun y => z ((nle (b := m) (by omega) (by omega)).mpr y)
      omega
    · have : ¬ min (min 24 (Z a)) (min 24 (Z b)) ≤ m := fun y => z ((nle (b := m) (by omega) (by omega)).mpr y)
      omega
    · have hm : ¬ min (min 24 (Z a)) (min 24 (Z b)) ≤ m := fun y => z ((nle (b := m) (by omega) (by omega)).mpr y)
      obtain ⟨n, rfl⟩ : ∃ n', n = n' + 1 := ⟨n - 1, by omega⟩
      rw [e68 m (by omega), nI_s, by_e1 (hby m (by omega))]
      refine ⟨fun y => sm_judgeL h hk ha hb e1 e2 xa xb hw n (m + 1) I1 (by omega) hr1 (fun I' hr' => ?_), fun y => ?_⟩
      · have := g I' hr'
        rw [fsI_f (fun z => z y)] at this; exact this
      · have := g I1 hr1
        rw [fsI_t y] at this; exact this
  termination_by n => n
end CXL
