/-! HOW FAR: the layers of a search, in the class and in the reference -/
theorem fb_holes : ∀ (m n : Nat) (f : Nat → Nat), (∀ i, i < n → f i < m) → (∀ i j, i < j → j < n → f i ≠ f j) → n ≤ m := by
  intro m
  induction m with
  | zero =>
    intro n f h1 _
    rcases Nat.eq_zero_or_pos n with h | h
    · omega
    · exact absurd (h1 0 h) (Nat.not_lt_zero _)
  | succ m ih =>
    intro n f h1 h2
    by_cases hx : ∃ i, i < n ∧ f i = m
    · obtain ⟨a, ha, hfa⟩ := hx
      have hg := ih (n - 1) (fun i => if i < a then f i else f (i + 1)) (by
        intro i hi
        by_cases q : i < a
        · simp only [if_pos q]
          have b1 := h1 i (by omega)
          have b2 := h2 i a q ha
          omega
        · simp only [if_neg q]
          have b1 := h1 (i + 1) (by omega)
          have b2 := h2 a (i + 1) (by omega) (by omega)
          omega) (by
        intro i j hij hj
        by_cases q : i < a
        · by_cases r : j < a
          · simp only [if_pos q, if_pos r]
            exact h2 i j hij (by omega)
          · simp only [if_pos q, if_neg r]
            exact h2 i (j + 1) (by omega) (by omega)
        · have r : ¬ j < a := by omega
          simp only [if_neg q, if_neg r]
          exact h2 (i + 1) (j + 1) (by omega) (by omega))
      omega
    · have hg := ih n f (fun i hi => by
        have b1 := h1 i hi
        have b2 : f i ≠ m := fun e => hx ⟨i, hi, e⟩
        omega) h2
      omega
/-- two of them in one place -/

theorem tb255 (i : Nat) : Nat.testBit 255 i = decide (i < 8) := by
  have := Nat.testBit_two_pow_sub_one 8 i
  simpa using this
theorem tb_andn (a b i : Nat) (hi : i < 8) : (a &&& (b ^^^ 255)).testBit i = (a.testBit i && !b.testBit i) := by
  rw [Nat.testBit_and, Nat.testBit_xor, tb255, decide_eq_true hi]
  cases a.testBit i <;> cases b.testBit i <;> rfl
theorem tb_hi {a i : Nat} (h : a < 256) (hi : 8 ≤ i) : a.testBit i = false := Nat.testBit_lt_two_pow (Nat.lt_of_lt_of_le h (by
  have : 2 ^ 8 ≤ 2 ^ i := Nat.pow_le_pow_right (by omega) hi
  exact this))
/-- the neighbours of the first trees of a set -/
def nxS (nb : Nat → Nat) (E : Nat) : Nat → Nat
  | 0 => 0
  | t + 1 => if E.testBit t = true then nxS nb E t ||| nb t else nxS nb E t
theorem nxS_lt {nb : Nat → Nat} {E : Nat} (hn : ∀ t, nb t < 256) : ∀ t, nxS nb E t < 256
  | 0 => by show 0 < 256; omega
  | t + 1 => by
    unfold nxS
    split
    · exact or_lt256 (nxS_lt hn t) (hn t)
    · exact nxS_lt hn t
theorem nxS_bit {nb : Nat → Nat} {E o : Nat} : ∀ t, (nxS nb E t).testBit o = true ↔ ∃ u, u < t ∧ E.testBit u = true ∧ (nb u).testBit o = true
  | 0 => by
    show (0 : Nat).testBit o = true ↔ _
    rw [Nat.zero_testBit]
    exact ⟨(fun h => by cases h), (fun ⟨u, h, _⟩ => by omega)⟩
  | t + 1 => by
    unfold nxS
    have ih := nxS_bit (nb := nb) (E := E) (o := o) t
    by_cases hE : E.testBit t = true
    · rw [if_pos hE, Nat.testBit_or, Bool.or_eq_true, ih]
      constructor
      · rintro (⟨u, h1, h2⟩ | h)
        · exact ⟨u, by omega, h2⟩
        · exact ⟨t, by omega, hE, h⟩
      · rintro ⟨u, h1, h2, h3⟩
        rcases Nat.lt_or_ge u t with q | q
        · exact Or.inl ⟨u, q, h2, h3⟩
        · have : u = t := by omega
          subst this; exact Or.inr h3
    · rw [if_neg hE, ih]
      constructor
      · rintro ⟨u, h1, h2⟩; exact ⟨u, by omega, h2⟩
      · rintro ⟨u, h1, h2, h3⟩
        refine ⟨u, ?_, h2, h3⟩
        rcases Nat.lt_or_ge u t with q | q
        · exact q
        · have : u = t := by omega
          subst this; exact absurd h2 hE
/-- the k-th layer, and all up to it -/
def bsE (T : Nat) (nb : Nat → Nat) (hu : Nat) : Nat → Nat × Nat
  | 0 => if hu < T then (2 ^ hu, 2 ^ hu) else (0, 0)
  | k + 1 => (nxS nb (bsE T nb hu k).1 T &&& ((bsE T nb hu k).2 ^^^ 255), (bsE T nb hu k).2 ||| (nxS nb (bsE T nb hu k).1 T &&& ((bsE T nb hu k).2 ^^^ 255)))
section BSL
variable {T hu : Nat} {nb : Nat → Nat}
theorem bsE_lt (hT : T ≤ 8) (hn : ∀ t, nb t < 256) : ∀ k, (bsE T nb hu k).1 < 256 ∧ (bsE T nb hu k).2 < 256
  | 0 => by
    unfold bsE
    split
    · next h => exact ⟨pow_lt256 h hT, pow_lt256 h hT⟩
    · exact ⟨by omega, by omega⟩
  | k + 1 => by
    have ih := bsE_lt hT hn k
    exact ⟨and_lt256 (nxS_lt hn T), or_lt256 ih.2 (and_lt256 (nxS_lt hn T))⟩
/-- the layer's bits -/
def inE (T : Nat) (nb : Nat → Nat) (hu k o : Nat) : Prop := (bsE T nb hu k).1.testBit o = true
theorem inR (o : Nat) : ∀ k, (bsE T nb hu k).2.testBit o = true ↔ ∃ j, j ≤ k ∧ inE T nb hu j o
  | 0 => by
    have e : (bsE T nb hu 0).2 = (bsE T nb hu 0).1 := by unfold bsE; split <;> rfl
    rw [e]
    exact ⟨fun h => ⟨0, Nat.le_refl _, h⟩, fun ⟨j, h1, h2⟩ => by have : j = 0 := by omega
                                                                 subst this; exact h2⟩
  | k + 1 => by
    show ((bsE T nb hu k).2 ||| (bsE T nb hu (k + 1)).1).testBit o = true ↔ _
    rw [Nat.testBit_or, Bool.or_eq_true, inR o k]
    constructor
    · rintro (⟨j, h1, h2⟩ | h)
      · exact ⟨j, by omega, h2⟩
      · exact ⟨k + 1, Nat.le_refl _, h⟩
    · rintro ⟨j, h1, h2⟩
      rcases Nat.lt_or_ge k j with q | q
      · have : j = k + 1 := by omega
        subst this; exact Or.inr h2
      · exact Or.inl ⟨j, q, h2⟩
theorem inE_s {k o : Nat} (ho : o < 8) : inE T nb hu (k + 1) o ↔ (∃ u, u < T ∧ inE T nb hu k u ∧ (nb u).testBit o = true) ∧ ∀ j, j ≤ k → ¬ inE T nb hu j o := by
  show (nxS nb (bsE T nb hu k).1 T &&& ((bsE T nb hu k).2 ^^^ 255)).testBit o = true ↔ _
  rw [tb_andn _ _ _ ho, Bool.and_eq_true, nxS_bit, Bool.not_eq_true']
  have h1 := inR (T := T) (nb := nb) (hu := hu) o k
  constructor
  · rintro ⟨h2, h3⟩
    exact ⟨h2, fun j hj hin => by rw [h1.mpr ⟨j, hj, hin⟩] at h3; cases h3⟩
  · rintro ⟨h2, h3⟩
    refine ⟨h2, ?_⟩
    cases hb : (bsE T nb hu k).2.testBit o with
    | false => rfl
    | true => obtain ⟨j, hj, hin⟩ := h1.mp hb; exact absurd hin (h3 j hj)
theorem inE_0 {o : Nat} : inE T nb hu 0 o ↔ (hu < T ∧ o = hu) := by
  unfold inE bsE
  by_cases h : hu < T
  · rw [if_pos h, Nat.testBit_two_pow]
    simp [h, eq_comm]
  · rw [if_neg h]
    simp [h]
theorem inE_T (hT : T ≤ 8) (hn : ∀ t, nb t < 2 ^ T) : ∀ k o, inE T nb hu k o → o < T
  | 0, o, h => by have h := inE_0.mp h; omega
  | k + 1, o, h => by
    have h1 : (nxS nb (bsE T nb hu k).1 T &&& ((bsE T nb hu k).2 ^^^ 255)).testBit o = true := h
    rw [Nat.testBit_and, Bool.and_eq_true] at h1
    obtain ⟨u, -, -, h2⟩ := (nxS_bit T).mp h1.1
    rcases Nat.lt_or_ge o T with q | q
    · exact q
    · have : (nb u).testBit o = false := Nat.testBit_lt_two_pow (Nat.lt_of_lt_of_le (hn u) (Nat.pow_le_pow_right (by omega) q))
      rw [this] at h2; cases h2
theorem inE_one (hT : T ≤ 8) (hn : ∀ t, nb t < 2 ^ T) {i j o : Nat} (h : i < j) (hi : inE T nb hu i o) : ¬ inE T nb hu j o := by
  intro hj
  cases j with
  | zero => omega
  | succ j =>
    have ho := inE_T hT hn _ _ hi
    exact ((inE_s (by omega)).mp hj).2 i (by omega) hi
/-- there is no ninth layer -/
theorem inE_8 (hT : T ≤ 8) (hn : ∀ t, nb t < 2 ^ T) {o : Nat} : ¬ inE T nb hu 8 o := by
  intro h8
  have hne : ∀ n k, k + n = 8 → ∃ u, inE T nb hu k u := by
    intro n
    induction n with
    | zero => intro k hk; have : k = 8 := by omega
              subst this; exact ⟨o, h8⟩
    | succ n ih =>
      intro k hk
      obtain ⟨u, hu'⟩ := ih (k + 1) (by omega)
      have ho := inE_T hT hn _ _ hu'
      obtain ⟨⟨w, -, hw, -⟩, -⟩ := (inE_s (by omega)).mp hu'
      exact ⟨w, hw⟩
  have hch : ∀ k, ∃ u, k ≤ 8 → inE T nb hu k u := by
    intro k
    rcases Nat.lt_or_ge 8 k with q | q
    · exact ⟨0, fun z => by omega⟩
    · obtain ⟨u, hu'⟩ := hne (8 - k) k (by omega)
      exact ⟨u, fun _ => hu'⟩
  have hc := fun k => Classical.choose_spec (hch k)
  have := fb_holes T 9 (fun k => Classical.choose (hch k)) (fun i hi => inE_T hT hn _ _ (hc i (by omega))) (fun i j hij hj e => inE_one hT hn hij (hc i (by omega)) (by
    have h1 := hc j (by omega)
    rw [← e] at h1
    exact h1))
  omega
/-- how far by the first layers; 9: in none -/
noncomputable def frK (T : Nat) (nb : Nat → Nat) (hu : Nat) : Nat → Nat → Nat
  | 0, _ => 9
  | k + 1, t => @ite Nat (inE T nb hu k t) (Classical.propDecidable _) k (frK T nb hu k t)
/-- FAR -/
noncomputable def frD (T : Nat) (nb : Nat → Nat) (hu t : Nat) : Nat := frK T nb hu 8 t
theorem frK_spec (hT : T ≤ 8) (hn : ∀ t, nb t < 2 ^ T) (t : Nat) : ∀ k, k ≤ 9 → (frK T nb hu k t = 9 ∧ ∀ j, j < k → ¬ inE T nb hu j t) ∨ ∃ j, j < k ∧ frK T nb hu k t = j ∧ inE T nb hu j t
  | 0, _ => Or.inl ⟨rfl, fun j hj => by omega⟩
  | k + 1, hk => by
    unfold frK
    by_cases h : inE T nb hu k t
    · rw [if_pos h]; exact Or.inr ⟨k, by omega, rfl, h⟩
    · rw [if_neg h]
      rcases frK_spec hT hn t k (by omega) with ⟨h1, h2⟩ | ⟨j, h1, h2, h3⟩
      · refine Or.inl ⟨h1, fun j hj => ?_⟩
        rcases Nat.lt_or_ge j k with q | q
        · exact h2 j q
        · have : j = k := by omega
          subst this; exact h
      · exact Or.inr ⟨j, by omega, h2, h3⟩
theorem frD_9 (hT : T ≤ 8) (hn : ∀ t, nb t < 2 ^ T) (t : Nat) : frK T nb hu 9 t = frD T nb hu t := by
  show @ite Nat (inE T nb hu 8 t) (Classical.propDecidable _) 8 (frK T nb hu 8 t) = _
  rw [if_neg (inE_8 hT hn)]; rfl
theorem frK_lt (t : Nat) : ∀ k, k ≤ 9 → frK T nb hu k t < 10
  | 0, _ => by show 9 < 10; omega
  | k + 1, h => by
    unfold frK
    split
    · omega
    · exact frK_lt t k (by omega)
end BSL
-- ---------- the class: Arrays.fill, measureFar
theorem sp_fill5 {P : bt_PT} {d : Nat} {f : m_I → m_L → Prop} {I0 : m_I} {L : m_L} {v : Int32} (h : ∀ I : m_I, (∀ j, j < 8 → I 5 0 j = v) → (∀ a b c, ¬ a = 5 → I a b c = I0 a b c) → f I L) : ∀ (n j : Nat) (I : m_I), j + n = 8 → (∀ i, i < j → I 5 0 i = v) → (∀ a b c, ¬ a = 5 → I a b c = I0 a b c) → bt_Go P d mi_JA_fillI (kV f) 5 [some (vr 5 0), some (vi v), some (vi (nI j)), some (vi (nI 8))] [] (I, L)
  | 0, j, I, e, h1, h2 => by
    have e : j = 8 := by omega
    subst e
    exact ru_JA_fillI_5 ⟨fun _ => h I h1 h2, fun z => absurd ((nle (by omega) (by omega)).mpr (Nat.le_refl _)) z⟩
  | n + 1, j, I, e, h1, h2 => by
    refine ru_JA_fillI_5 ⟨fun z => by rw [nle (by omega) (by omega)] at z; omega, fun _ => ⟨ti_in (by omega) (by omega), ?_⟩⟩
    rw [ti_tn (by omega), nI_s]
    refine sp_fill5 h n (j + 1) _ (by omega) (fun i hi => ?_) (fun a b c ha => by rw [ui_k ha]; exact h2 a b c ha)
    rcases Nat.lt_or_ge i j with q | q
    · rw [ui_j (by omega)]; exact h1 i q
    · have : i = j := by omega
      subst this; exact ui_same _ _ _ _ _
theorem sp_fill15 {P : bt_PT} {d s : Nat} {f : m_I → m_L → Prop} {I0 : m_I} {L : m_L} {v : Int32} (h : ∀ I : m_I, (∀ j, j < 10 → I 15 s j = v) → (∀ a b c, ¬ (a = 15 ∧ b = s) → I a b c = I0 a b c) → f I L) : ∀ (n j : Nat) (I : m_I), j + n = 10 → (∀ i, i < j → I 15 s i = v) → (∀ a b c, ¬ (a = 15 ∧ b = s) → I a b c = I0 a b c) → bt_Go P d mi_JA_fillI (kV f) 5 [some (vr 15 s), some (vi v), some (vi (nI j)), some (vi (nI 10))] [] (I, L)
  | 0, j, I, e, h1, h2 => by
    have e : j = 10 := by omega
    subst e
    exact ru_JA_fillI_5_b ⟨fun _ => h I h1 h2, fun z => absurd ((nle (by omega) (by omega)).mpr (Nat.le_refl _)) z⟩
  | n + 1, j, I, e, h1, h2 => by
    refine ru_JA_fillI_5_b ⟨fun z => by rw [nle (by omega) (by omega)] at z; omega, fun _ => ⟨ti_in (by omega) (by omega), ?_⟩⟩
    rw [ti_tn (by omega), nI_s]
    refine sp_fill15 h n (j + 1) _ (by omega) (fun i hi => ?_) (fun a b c ha => ?_)
    · rcases Nat.lt_or_ge i j with q | q
      · rw [ui_j (by omega)]; exact h1 i q
      · have : i = j := by omega
        subst this; exact ui_same _ _ _ _ _
    · rw [← h2 a b c ha]
      by_cases h3 : a = 15
      · exact ui_i (fun z => ha ⟨h3, z⟩)
      · exact ui_k h3
/-- the far row stands for the first k layers -/
def farIs (I : m_I) (T : Nat) (nb : Nat → Nat) (hu k : Nat) : Prop := ∀ t, t < T → I 5 0 t = nI (frK T nb hu k t)
def off5 (I0 I : m_I) : Prop := ∀ a b c, ¬ a = 5 → I a b c = I0 a b c
theorem off5_iF {I0 I : m_I} {T : Nat} {nb : Nat → Nat} (h : off5 I0 I) (hF : iF I0 T nb) : iF I T nb := ⟨by rw [h 1 0 4 (by decide)]; exact hF.1, hF.2.1, fun t ht => by rw [h 4 0 t (by decide)]; exact hF.2.2.1 t ht, hF.2.2.2⟩
theorem off5_Scr {I0 I : m_I} {L : m_L} (h : off5 I0 I) : Scr I0 L I L := ⟨fun k i j e => h k i j (fun z => by subst z; cases e), fun _ _ _ _ => rfl⟩
theorem nb256 {I : m_I} {T : Nat} {nb : Nat → Nat} (h : iF I T nb) : ∀ t, nb t < 256 := iF_lt h
theorem nbT {I : m_I} {T : Nat} {nb : Nat → Nat} (h : iF I T nb) : ∀ t, nb t < 2 ^ T := fun t => by
  rcases Nat.lt_or_ge t 8 with q | q
  · exact (h.2.2.1 t q).2
  · rw [h.2.2.2 t (by have := h.2.1; omega)]; exact Nat.two_pow_pos T
section MFC
variable {P : bt_PT} {d : Nat} {f : m_I → m_L → Prop} {I0 : m_I} {L : m_L} {T hu : Nat} {nb : Nat → Nat}
theorem sp_mf55 (hF : iF I0 T nb) {k : Nat} (hk : k < 8) (hg : ∀ I, off5 I0 I → farIs I T nb hu (k + 1) → bt_Go P d mi_Fo_measureFar (kV f) 38 [some (vr 1 0), none, some (vi (nI (bsE T nb hu (k + 1)).1)), some (vi (nI (bsE T nb hu (k + 1)).2)), some (vi (nI (k + 1))), none, none] [] (I, L)) :
    ∀ (n t : Nat) (I : m_I), t + n = T → off5 I0 I → (∀ u, u < T → I 5 0 u = nI (@ite Nat (u < t ∧ inE T nb hu k u) (Classical.propDecidable _) k (frK T nb hu k u))) → bt_Go P d mi_Fo_measureFar (kV f) 55 [some (vr 1 0), none, some (vi (nI (bsE T nb hu k).1)), some (vi (nI (bsE T nb hu k).2)), some (vi (nI k)), some (vi (nI (nxS nb (bsE T nb hu k).1 t))), some (vi (nI t))] [] (I, L)
  | 0, t, I, e, h1, h2 => by
    have e : t = T := by omega
    subst e
    have hF' := off5_iF h1 hF
    have hlt := bsE_lt (hu := hu) hF.2.1 (nb256 hF) k
    refine ru_Fo_measureFar_55 ⟨fun _ => ?_, fun z => absurd (by rw [hF'.1]; exact (nle (by have := hF.2.1; omega) (by have := hF.2.1; omega)).mpr (Nat.le_refl _)) z⟩
    rw [nI_andn (nxS_lt (nb256 hF) _) hlt.2, nI_or, nI_s]
    refine hg I h1 (fun u hu' => ?_)
    rw [h2 u hu']
    congr 1
    show _ = @ite Nat (inE t nb hu k u) (Classical.propDecidable _) k (frK t nb hu k u)
    by_cases h3 : inE t nb hu k u
    · rw [if_pos ⟨hu', h3⟩, if_pos h3]
    · rw [if_neg (fun z => h3 z.2), if_neg h3]
  | n + 1, t, I, e, h1, h2 => by
    have hF' := off5_iF h1 hF
    have hT8 := hF.2.1
    have hlt := bsE_lt (hu := hu) hF.2.1 (nb256 hF) k
    refine ru_Fo_measureFar_55 ⟨fun z => by rw [hF'.1, nle (by omega) (by omega)] at z; omega, fun _ => ?_⟩
    rw [nI_bit (by omega) (by omega)]
    refine bP_br (fun h3 => ?_) (fun h3 => ?_)
    · rw [nI_s]
      have ex : nxS nb (bsE T nb hu k).1 t = nxS nb (bsE T nb hu k).1 (t + 1) := by
        show _ = (if _ then _ else _); rw [if_neg h3]
      rw [ex]
      refine sp_mf55 hF hk hg n (t + 1) I (by omega) h1 (fun u hu' => ?_)
      rw [h2 u hu']
      congr 1
      by_cases h4 : u < t ∧ inE T nb hu k u
      · rw [if_pos h4, if_pos ⟨by omega, h4.2⟩]
      · rw [if_neg h4, if_neg (fun z => by
          rcases Nat.lt_or_ge u t with q | q
          · exact h4 ⟨q, z.2⟩
          · have : u = t := by omega
            subst this; exact h3 z.2)]
    · refine ⟨ti_in (by omega) (by omega), ti_in (by omega) (by omega), ?_⟩
      rw [ti_tn (by omega), ui_k (by decide), (hF'.2.2.1 t (by omega)).1, nI_or, nI_s]
      have ex : nxS nb (bsE T nb hu k).1 t ||| nb t = nxS nb (bsE T nb hu k).1 (t + 1) := by
        show _ = (if _ then _ else _); rw [if_pos h3]
      rw [ex]
      refine sp_mf55 hF hk hg n (t + 1) _ (by omega) (fun a b c ha => by rw [ui_k ha]; exact h1 a b c ha) (fun u hu' => ?_)
      by_cases hut : u = t
      · subst hut
        rw [ui_same, if_pos ⟨by omega, h3⟩]
      · rw [ui_j hut, h2 u hu']
        congr 1
        by_cases h4 : u < t ∧ inE T nb hu k u
        · rw [if_pos h4, if_pos ⟨by omega, h4.2⟩]
        · rw [if_neg h4, if_neg (fun z => h4 ⟨by omega, z.2⟩)]
theorem inE_none {k : Nat} (hT : T ≤ 8) (hn : ∀ t, nb t < 2 ^ T) (hz : (bsE T nb hu k).1 = 0) : ∀ n j, j = k + n → ∀ o, ¬ inE T nb hu j o
  | 0, j, e, o, h => by
    have e : j = k := by omega
    subst e
    have h : (bsE T nb hu j).1.testBit o = true := h
    rw [hz, Nat.zero_testBit] at h; cases h
  | n + 1, j, e, o, h => by
    have e : j = (k + n) + 1 := by omega
    subst e
    have ho := inE_T hT hn _ _ h
    obtain ⟨⟨w, -, hw, -⟩, -⟩ := (inE_s (by omega)).mp h
    exact inE_none hT hn hz n (k + n) rfl w hw
theorem frK_none {k : Nat} (hT : T ≤ 8) (hn : ∀ t, nb t < 2 ^ T) (hz : (bsE T nb hu k).1 = 0) (t : Nat) : ∀ n, frK T nb hu (k + n) t = frK T nb hu k t
  | 0 => rfl
  | n + 1 => by
    show @ite Nat (inE T nb hu (k + n) t) (Classical.propDecidable _) (k + n) (frK T nb hu (k + n) t) = _
    rw [if_neg (inE_none hT hn hz n _ rfl t), frK_none hT hn hz t n]
theorem sp_mf38 (hF : iF I0 T nb) (h : ∀ I, off5 I0 I → farIs I T nb hu 8 → f I L) : ∀ (n k : Nat) (I : m_I), k + n = 8 → off5 I0 I → farIs I T nb hu k → bt_Go P d mi_Fo_measureFar (kV f) 38 [some (vr 1 0), none, some (vi (nI (bsE T nb hu k).1)), some (vi (nI (bsE T nb hu k).2)), some (vi (nI k)), none, none] [] (I, L)
  | 0, k, I, e, h1, h2 => by
    have e : k = 8 := by omega
    subst e
    exact ru_Fo_measureFar_38 ⟨fun _ => h I h1 h2, fun z => absurd ((nle (a := 8) (b := 8) (by omega) (by omega)).mpr (Nat.le_refl _)) z⟩
  | n + 1, k, I, e, h1, h2 => by
    have hlt := bsE_lt (hu := hu) hF.2.1 (nb256 hF) k
    refine ru_Fo_measureFar_38 ⟨fun z => absurd ((nle (a := 8) (b := k) (by omega) (by omega)).mp z) (by omega), fun _ => ⟨fun h3 => ?_, fun h3 => ?_⟩⟩
    · have hz : (bsE T nb hu k).1 = 0 := (neq (b := 0) (by omega) (by omega)).mp h3
      refine h I h1 (fun t ht => ?_)
      rw [h2 t ht, show (8 : Nat) = k + (n + 1) by omega, frK_none hF.2.1 (nbT hF) hz]
    · refine sp_mf55 hF (by omega) (fun I' h4 h5 => sp_mf38 hF h n (k + 1) I' (by omega) h4 h5) T 0 I (by omega) h1 (fun u hu' => ?_)
      rw [h2 u hu', if_neg (fun z => by omega)]
theorem sp_measureFar (hF : iF I0 T nb) (hhu : I0 3 7 0 = nI hu) (hu8 : hu < 8) (h : ∀ I, off5 I0 I → farIs I T nb hu 8 → f I L) : bt_WP P (d + 4) mi_Fo_measureFar [vr 1 0] (I0, L) (kV f) := by
  have hT8 := hF.2.1
  refine ru_Fo_measureFar (ru_JA_fillI (sp_fill5 (I0 := I0) (fun I h1 h2 => ?_) 8 0 I0 (by omega) (fun i hi => by omega) (fun _ _ _ _ => rfl)))
  have hF' := off5_iF h2 hF
  refine sp_get (w := 7) (t := 0) hF'.1 hT8 (by omega) (by show 0 < 1; omega) ?_
  rw [h2 3 7 0 (by decide), hhu]
  refine sp_has hF'.1 ?_
  have h9 : farIs I T nb hu 0 := fun t ht => h1 t (by omega)
  refine bP_br (fun h3 => ?_) (fun h3 => ?_)
  · have hb : bsE T nb hu 0 = (0, 0) := by
      unfold bsE; rw [if_neg (fun z => h3 (n_oob z (by omega)))]
    have hgo := sp_mf38 (P := P) (d := d + 3) hF h 8 0 I (by omega) h2 h9
    rw [hb] at hgo
    exact hgo
  · have hb : bsE T nb hu 0 = (2 ^ hu, 2 ^ hu) := by
      unfold bsE
      rw [if_pos]
      rcases ix (nI hu) T (by omega) with q | ⟨j, hj, e⟩
      · exact absurd q h3
      · rw [neq (by omega) (by omega)] at e; omega
    have hgo := sp_mf38 (P := P) (d := d + 3) hF h 8 0 I (by omega) h2 h9
    rw [hb] at hgo
    rw [nI_one (by omega)]
    exact hgo
end MFC
