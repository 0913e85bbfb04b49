/-! THE LAW: joint -/
theorem cp_00 {f g : Nat → Int32} {n j : Nat} (h : j < n) : va_cpy f g 0 0 n j = f j := by
  unfold va_cpy; rw [if_pos (by omega), Nat.sub_zero, Nat.zero_add]
theorem aC_7 {t : Nat} (h : okT t) : (aC t).toInt8.toInt32 = aC t := by
  have := aC_8 h
  rw [Int8.toInt8_toInt32] at this
  exact this
def envO (l d w p s k : Int32) : Nat → Int32
  | 0 => l
  | 1 => d
  | 2 => w
  | 3 => p
  | 4 => s
  | _ => k
def lwF (ls : List Ln) : lF := fun l d w p s k => ¬ gvE (envO l d w p s k) ls = 0
section LWJ
variable {P : bt_PT} {fd : Nat} {tp : Nat → Nat}
theorem ok_tk : ∀ (ls : List Ln), (∀ l, l ∈ ls → wfL l) → ∀ t, t ∈ tkA ls → okT t
  | [], _, t, ht => by cases ht
  | l :: r, hw, t, ht => by
    rcases List.mem_append.mp (show t ∈ lnT l ++ tkA r from ht) with q | q
    · have hl := hw l List.mem_cons_self
      obtain ⟨a, e⟩ := l
      match a, hl, q with
      | none, hl, q => exact hl.2.1 t q
      | some u, hl, q =>
        rcases List.mem_append.mp (show t ∈ u ++ e from q) with q | q
        · exact (hl.1 u rfl).1 t q
        · exact hl.2.1 t q
    · exact ok_tk r (fun l hl => hw l (List.mem_cons_of_mem _ hl)) t q
theorem gd_mem {z : Nat} : ∀ (l : List Nat) (i : Nat), i < l.length → l.getD i z ∈ l
  | [], i, h => absurd h (Nat.not_lt_zero _)
  | a :: l, 0, _ => List.mem_cons_self
  | a :: l, i + 1, h => List.mem_cons_of_mem _ (gd_mem l i (Nat.lt_of_succ_lt_succ h))
theorem mkS_sh {T E : Nat → Int32} : ∀ (ls : List Ln) (s j : Nat), mkS T E s j ls → s + (tkA ls).length < 200 → ∀ i, i < ls.length → (T (j + i)).toInt16.toInt32 = T (j + i) ∧ (E (j + i)).toInt16.toInt32 = E (j + i)
  | [], s, j, h, hs, i, hi => absurd hi (Nat.not_lt_zero _)
  | l :: r, s, j, h, hs, i, hi => by
    have htk : (tkA (l :: r)).length = (lnT l).length + (tkA r).length := List.length_append
    match i, hi with
    | 0, _ =>
      rw [Nat.add_zero, h.1, h.2.1]
      exact ⟨i16_lo _ (by omega), i16_lo _ (by omega)⟩
    | i + 1, hi =>
      have := mkS_sh r (s + (lnT l).length) (j + 1) h.2.2 (by omega) i (Nat.lt_of_succ_lt_succ hi)
      rw [show j + 1 + i = j + (i + 1) by omega] at this
      exact this
theorem mkS_cp {T E T' E' : Nat → Int32} : ∀ (ls : List Ln) (s j : Nat), mkS T E s j ls → (∀ i, i < ls.length → T' (j + i) = T (j + i) ∧ E' (j + i) = E (j + i)) → mkS T' E' s j ls
  | [], s, j, h, _ => trivial
  | l :: r, s, j, h, g => ⟨(g 0 (Nat.zero_lt_succ _)).1.trans h.1, (g 0 (Nat.zero_lt_succ _)).2.trans h.2.1, mkS_cp r _ _ h.2.2 (fun i hi => by
    have := g (i + 1) (Nat.succ_lt_succ hi)
    rw [show j + 1 + i = j + (i + 1) by omega]; exact this)⟩
/-- the second copy -/
theorem cp_177 {d m : Nat} {f : Int32 → m_I → m_L → Prop} {L : m_L} {a b : Nat → Int32} (hm : m ≤ 61) (hs : ∀ i, i < m → (a i).toInt16.toInt32 = a i ∧ (b i).toInt16.toInt32 = b i) : ∀ (k i : Nat) (I : m_I), i + k = m → I 52 0 0 = nI m → (∀ j, j < m → I 53 0 (61 + j) = a j ∧ I 54 0 (61 + j) = b j) → (∀ j, j < i → I 53 0 j = a j ∧ I 54 0 j = b j) → (∀ I', (∀ j, j < m → I' 53 0 j = a j ∧ I' 54 0 j = b j) → (∀ x y c, ¬ (x = 53 ∨ x = 54) → I' x y c = I x y c) → f (-1) I' L) → bt_Go P d mi_M_readText (kI f) 177 [some (vr 35 0), some (vi 0), some (vi (nI i))] [] (I, L)
  | 0, i, I, e, hi, h1, h2, g => by
    have e : i = m := by omega
    subst e
    refine ru_M_readText_177 ⟨ti_in (n := 0) (by omega) (by omega), fun _ => g I h2 (fun _ _ _ _ => rfl), fun z => absurd ?_ z⟩
    rw [show tn 0 = 0 from rfl, hi]; exact (nle (by omega) (by omega)).mpr (Nat.le_refl _)
  | k + 1, i, I, e, hi, h1, h2, g => by
    have him : i < m := by omega
    refine ru_M_readText_177 ?_
    rw [show tn 0 = 0 from rfl, hi, show (61 : Int32) * 0 = 0 from rfl, Int32.zero_add, show (61 : Int32) + nI i = nI (61 + i) from nI_add 61 i, ti_tn (n := i) (by omega), ti_tn (n := 61 + i) (by omega), nI_s i, (h1 i him).1, (hs i him).1, ui_k (a := 54) (k := 53) (by decide), (h1 i him).2, (hs i him).2]
    have v1 : vp_in (nI (61 + i)) 122 := ti_in (by omega) (by omega)
    have v2 : vp_in (nI i) 122 := ti_in (by omega) (by omega)
    refine ⟨ti_in (n := 0) (by omega) (by omega), fun z => absurd ((nle (by omega) (by omega)).mp z) (by omega), fun _ => ⟨v1, v2, v1, v2, ?_⟩⟩
    refine cp_177 hm hs k (i + 1) _ (by omega) ?_ (fun j hj => ⟨?_, ?_⟩) (fun j hj => ⟨?_, ?_⟩) (fun I' a1 a2 => g I' a1 (fun x y c z => ?_))
    · rw [ui_k (by decide), ui_k (by decide)]; exact hi
    · rw [ui_k (by decide), ui_j (by omega)]; exact (h1 j hj).1
    · rw [ui_j (by omega), ui_k (by decide)]; exact (h1 j hj).2
    · rw [ui_k (by decide)]
      by_cases q : j = i
      · rw [q, ui_same]
      · rw [ui_j q]; exact (h2 j (by omega)).1
    · by_cases q : j = i
      · rw [q, ui_same]
      · rw [ui_j q, ui_k (by decide)]; exact (h2 j (by omega)).2
    · rw [a2 x y c z, ui_k (fun e => z (Or.inr e)), ui_k (fun e => z (Or.inl e))]
/-- the first copy -/
theorem cp_105 {d n : Nat} {f : Int32 → m_I → m_L → Prop} {L : m_L} {a b : Nat → Int32} (hn : n ≤ 130) (hs : ∀ i, i < n → (a i).toInt8.toInt32 = a i) : ∀ (k i : Nat) (I : m_I), i + k = n → I 35 0 26 = nI n → (∀ j, j < n → I 50 0 (130 + j) = a j ∧ I 51 0 (130 + j) = b j) → (∀ j, j < i → I 50 0 j = a j ∧ I 51 0 j = b j) → (∀ I', (∀ j, j < n → I' 50 0 j = a j ∧ I' 51 0 j = b j) → (∀ x y c, ¬ (x = 50 ∨ x = 51) → I' x y c = I x y c) → bt_Go P d mi_M_readText (kI f) 177 [some (vr 35 0), some (vi 0), some (vi 0)] [] (ui I' 52 0 0 (I' 52 0 1), L)) → bt_Go P d mi_M_readText (kI f) 105 [some (vr 35 0), some (vi 0), some (vi (nI i))] [] (I, L)
  | 0, i, I, e, hi, h1, h2, g => by
    have e : i = n := by omega
    subst e
    refine ru_M_readText_105 ⟨fun _ => ⟨ti_in (n := 1) (by omega) (by omega), ti_in (n := 0) (by omega) (by omega), g I h2 (fun _ _ _ _ => rfl)⟩, fun z => absurd ?_ z⟩
    rw [hi]; exact (nle (by omega) (by omega)).mpr (Nat.le_refl _)
  | k + 1, i, I, e, hi, h1, h2, g => by
    have him : i < n := by omega
    refine ru_M_readText_105 ?_
    rw [hi, show (130 : Int32) * 0 = 0 from rfl, Int32.zero_add, show (130 : Int32) + nI i = nI (130 + i) from nI_add 130 i, ti_tn (n := i) (by omega), ti_tn (n := 130 + i) (by omega), nI_s i, (h1 i him).1, hs i him, ui_k (a := 51) (k := 50) (by decide), (h1 i him).2]
    have v1 : vp_in (nI (130 + i)) 260 := ti_in (by omega) (by omega)
    have v2 : vp_in (nI i) 260 := ti_in (by omega) (by omega)
    refine ⟨fun z => absurd ((nle (by omega) (by omega)).mp z) (by omega), fun _ => ⟨v1, v2, v1, v2, ?_⟩⟩
    refine cp_105 hn hs k (i + 1) _ (by omega) ?_ (fun j hj => ⟨?_, ?_⟩) (fun j hj => ⟨?_, ?_⟩) (fun I' a1 a2 => g I' a1 (fun x y c z => ?_))
    · rw [ui_k (by decide), ui_k (by decide)]; exact hi
    · rw [ui_k (by decide), ui_j (by omega)]; exact (h1 j hj).1
    · rw [ui_j (by omega), ui_k (by decide)]; exact (h1 j hj).2
    · rw [ui_k (by decide)]
      by_cases q : j = i
      · rw [q, ui_same]
      · rw [ui_j q]; exact (h2 j (by omega)).1
    · by_cases q : j = i
      · rw [q, ui_same]
      · rw [ui_j q, ui_k (by decide)]; exact (h2 j (by omega)).2
    · rw [a2 x y c z, ui_k (fun e => z (Or.inr e)), ui_k (fun e => z (Or.inl e))]
/-- the class's law is these lines -/
theorem lw_C {I : m_I} {ls : List Ln} (hw : ∀ l, l ∈ ls → wfL l) (h0 : 0 < (cdA ls).length) (hn : (cdA ls).length ≤ 128) (h7 : I 7 0 7 = nI (cdA ls).length) (hc : cAt I 0 (cdA ls)) : lawC P I (lwF ls) := fun d f I' L w q g => by
  have e7 : ui I' 7 0 11 w 7 0 7 = nI (cdA ls).length := by rw [ui_j (by decide), q.2.1]; exact h7
  refine ru_La_hears ?_
  rw [e7]
  refine ⟨fun _ => ru_La_workOut ?_, fun z => absurd ((neq (b := 0) (by omega) (by omega)).mp z) (by omega)⟩
  refine wk_lines (env := envO (I' 7 0 9) (I' 7 0 10) w (I' 7 0 12) (I' 7 0 13) (I' 7 0 14)) hn ls 0 _ hw ⟨ui_same _ _ _ _ _, trivial⟩ ⟨?_, ?_, ?_, ?_, ?_, ?_⟩ ?_ (Nat.zero_add _) ?_ (fun I2 a => ?_)
  · rw [ui_j (by decide), ui_j (by decide)]; rfl
  · rw [ui_j (by decide), ui_j (by decide)]; rfl
  · rw [ui_j (by decide), ui_same]; rfl
  · rw [ui_j (by decide), ui_j (by decide)]; rfl
  · rw [ui_j (by decide), ui_j (by decide)]; rfl
  · rw [ui_j (by decide), ui_j (by decide)]; rfl
  · rw [ui_j (by decide)]; exact e7
  · refine at_imp _ _ (fun i c e => ?_) hc
    show ui (ui I' 7 0 11 w) 7 0 8 0 10 0 i = c
    rw [ui_k (by decide), ui_k (by decide), q.1 i]; exact e
  · have hfr : ∀ a b c, ¬ (a = 11 ∨ (a = 7 ∧ (c = 8 ∨ c = 11))) → I2 a b c = I' a b c := fun x y c z => by
      rw [a x y c (fun y => z (by rcases y with y | y; exact Or.inl y; exact Or.inr ⟨y.1, Or.inl y.2⟩))]
      by_cases q7 : x = 7
      · rw [ui_j (by omega), ui_j (by omega)]
      · rw [ui_k q7, ui_k q7]
    have g' := g I2 hfr
    refine ⟨fun z => ?_, fun z => ?_⟩
    · rw [bP_f (show ¬ lwF ls (I' 7 0 9) (I' 7 0 10) w (I' 7 0 12) (I' 7 0 13) (I' 7 0 14) from fun y => y z)] at g'
      exact ⟨z01, g'⟩
    · rw [bP_t (show lwF ls (I' 7 0 9) (I' 7 0 10) w (I' 7 0 12) (I' 7 0 13) (I' 7 0 14) from z)] at g'
      exact ⟨o01, g'⟩
/-- the reference's -/
theorem lw_M {I : m_I} {ls : List Ln} (hw : ∀ l, l ∈ ls → wfL l) (hn : (tkA ls).length < 130) (hl : ls.length ≤ 61) (hi : I 52 0 0 = nI ls.length) (hm : mkS (fun i => I 53 0 i) (fun i => I 54 0 i) 0 0 ls) (hc : mAt I 0 (tkA ls)) : lawM P I (lwF ls) := fun d f I' L q g => by
  refine ru_M_gives ?_
  rw [show (61 : Int32) * 0 = 0 from rfl]
  refine gv_lines (env := envO (I' 55 0 0) (I' 55 0 1) (I' 55 0 2) (I' 55 0 3) (I' 55 0 4) (I' 55 0 5)) hl ls 0 0 I' hw (fun i hi => ?_) (by rw [q.2.2.2.2.1]; exact hi) (Nat.zero_add _) (by omega) ?_ ?_ (fun I2 a => g I2 _ a Iff.rfl)
  · match i, hi with
    | 0, _ => rfl
    | 1, _ => rfl
    | 2, _ => rfl
    | 3, _ => rfl
    | 4, _ => rfl
    | 5, _ => rfl
  · refine mkS_cp ls 0 0 hm (fun i hi => ?_)
    rw [Nat.zero_add]
    exact q.2.2.2.2.2 i (by omega)
  · have : atP (fun i t => i < 130 ∧ I 50 0 i = aC t ∧ I 51 0 i = wC t) 0 (tkA ls) := by
      have go : ∀ (l : List Nat) (q : Nat), q + l.length < 130 → mAt I q l → atP (fun i t => i < 130 ∧ I 50 0 i = aC t ∧ I 51 0 i = wC t) q l := by
        intro l
        induction l with
        | nil => intro q _ _; trivial
        | cons a r ih =>
          intro q hq h
          rw [List.length_cons] at hq
          exact ⟨⟨by omega, h.1⟩, ih (q + 1) (by omega) h.2⟩
      exact go _ 0 (by omega) hc
    refine at_imp _ _ (fun i t e => ?_) this
    show I' 50 0 i = aC t ∧ I' 51 0 i = wC t
    rw [(q.2.2.2.1 i e.1).1, (q.2.2.2.1 i e.1).2]; exact e.2
/-- what the law may change -/
def lwA (I I' : m_I) : Prop := ∀ a b c, ¬ (a = 9 ∨ a = 10 ∨ (a = 7 ∧ 4 ≤ c ∧ c ≤ 7) ∨ (a = 35 ∧ ((22 ≤ c ∧ c ≤ 26) ∨ c = 34)) ∨ a = 50 ∨ a = 51 ∨ a = 52 ∨ a = 53 ∨ a = 54) → I' a b c = I a b c
theorem lw_J {I1 : m_I} {p : Nat} {cs : List Int32} {Q : m_I → Prop} (h : tcS I1 fd tp p cs) (hn : cs.length ≤ 128) (g : ∀ J : m_I, J 7 0 4 = 0 → J 7 0 7 = nI cs.length → (∀ i, i < cs.length → J 10 0 i = cs.getD i 0) → (∀ a b c, ¬ (a = 10 ∨ (a = 7 ∧ (c = 4 ∨ c = 7))) → J a b c = I1 a b c) → Q J) : (¬ (0 : Int32) < 0 ∧ ¬ (0 : Int32) < 0 ∧ ¬ ((ui I1 7 0 4 0) 7 0 6) < 0 ∧ tn 0 + tn ((ui I1 7 0 4 0) 7 0 6) ≤ 128 ∧ tn 0 + tn ((ui I1 7 0 4 0) 7 0 6) ≤ 128) ∧ Q (ui (uc (ui I1 7 0 4 0) 10 0 (va_cpy ((ui I1 7 0 4 0) 9 0) ((ui I1 7 0 4 0) 10 0) (tn 0) (tn 0) (tn ((ui I1 7 0 4 0) 7 0 6)))) 7 0 7 ((uc (ui I1 7 0 4 0) 10 0 (va_cpy ((ui I1 7 0 4 0) 9 0) ((ui I1 7 0 4 0) 10 0) (tn 0) (tn 0) (tn ((ui I1 7 0 4 0) 7 0 6)))) 7 0 6)) := by
  have e6 : (ui I1 7 0 4 0) 7 0 6 = nI cs.length := by rw [ui_j (by decide)]; exact h.2.1
  rw [e6, ti_tn (n := cs.length) (by omega), show tn 0 = 0 from rfl, uc_k (by decide), e6]
  refine ⟨⟨by decide, by decide, n_neg (by omega), by omega, by omega⟩, g _ ?_ (ui_same _ _ _ _ _) (fun i hi => ?_) (fun a b c z => ?_)⟩
  · rw [ui_j (by decide), uc_k (by decide), ui_same]
  · rw [ui_k (by decide), uc_same, cp_00 hi]
    show ui I1 7 0 4 0 9 0 i = _
    rw [ui_k (by decide)]; exact h.2.2 i hi
  · by_cases q : a = 7
    · rw [ui_j (by omega), uc_k (by omega), ui_j (by omega)]
    · rw [ui_k q, uc_k (by omega), ui_k q]
theorem cdA_pos {ls : List Ln} (h : 0 < ls.length) : 0 < (cdA ls).length := by
  match ls, h with
  | l :: r, _ =>
    show 0 < (lnC l ++ cdA r).length
    rw [List.length_append, lnC_len]; omega
/-- what the reference keeps of a text -/
theorem lw_E {d : Nat} {f : Int32 → m_I → m_L → Prop} {J I2 : m_I} {L : m_L} {p : Nat} {ls : List Ln} (hw : ∀ l, l ∈ ls → wfL l) (hn : (tkA ls).length ≤ 120) (hl : ls.length ≤ 61) (c1 : rfS I2 fd tp p 0 ([] ++ tkA ls)) (c2 : I2 52 0 1 = nI (0 + ls.length)) (c3 : mkS (fun i => I2 53 0 (61 + i)) (fun i => I2 54 0 (61 + i)) 0 0 ls) (c4 : rgF 0 J I2) (g : ∀ I4, I4 35 0 22 = 0 → I4 52 0 0 = nI ls.length → mkS (fun i => I4 53 0 i) (fun i => I4 54 0 i) 0 0 ls → mAt I4 0 (tkA ls) → (∀ a b c, ¬ ((a = 35 ∧ 22 ≤ c ∧ c ≤ 26) ∨ a = 50 ∨ a = 51 ∨ a = 52 ∨ a = 53 ∨ a = 54) → I4 a b c = J a b c) → f (-1) I4 L) : sE P d f I2 L := by
  unfold sE
  rw [List.nil_append] at c1
  rw [Nat.zero_add] at c2
  refine cp_105 (n := (tkA ls).length) (a := fun i => aC ((tkA ls).getD i 0)) (b := fun i => wC ((tkA ls).getD i 0)) (by omega) (fun i hi => aC_7 (ok_tk ls hw _ (gd_mem _ _ hi))) (tkA ls).length 0 _ (Nat.zero_add _) ?_ (fun j hj => ?_) (fun j hj => absurd hj (Nat.not_lt_zero _)) (fun I3 a1 a2 => ?_)
  · rw [ui_j (by decide)]; exact c1.2.2.2.1
  · rw [ui_k (by decide), ui_k (by decide)]; exact c1.2.2.2.2 j hj
  · have hk : ∀ j, ui I3 52 0 0 (I3 52 0 1) 53 0 (61 + j) = I2 53 0 (61 + j) ∧ ui I3 52 0 0 (I3 52 0 1) 54 0 (61 + j) = I2 54 0 (61 + j) := fun j =>
      ⟨by rw [ui_k (by decide), a2 53 0 _ (by omega), ui_k (by decide)], by rw [ui_k (by decide), a2 54 0 _ (by omega), ui_k (by decide)]⟩
    refine cp_177 (m := ls.length) (a := fun i => I2 53 0 (61 + i)) (b := fun i => I2 54 0 (61 + i)) hl (fun i hi => ?_) ls.length 0 _ (Nat.zero_add _) ?_ (fun j _ => hk j) (fun j hj => absurd hj (Nat.not_lt_zero _)) (fun I4 b1 b2 => g I4 ?_ ?_ ?_ ?_ (fun a b c z => ?_))
    · have := mkS_sh ls 0 0 c3 (by omega) i hi
      rw [Nat.zero_add] at this
      exact this
    · rw [ui_same, a2 52 0 1 (by omega), ui_k (by decide)]; exact c2
    · rw [b2 35 0 22 (by omega), ui_k (by decide), a2 35 0 22 (by omega), ui_same]
    · rw [b2 52 0 0 (by omega), ui_same, a2 52 0 1 (by omega), ui_k (by decide)]; exact c2
    · exact mkS_cp ls 0 0 c3 (fun i hi => by rw [Nat.zero_add]; exact b1 i hi)
    · refine at_of (z := 0) (tkA ls) 0 (fun i hi => ?_)
      rw [Nat.zero_add, b2 50 0 i (by omega), b2 51 0 i (by omega), ui_k (by decide), ui_k (by decide)]
      exact a1 i hi
    · rw [b2 a b c (by omega), ui_k (by omega), a2 a b c (by omega)]
      by_cases q : a = 35
      · rw [ui_j (by omega), c4 a b c (by omega)]
      · rw [ui_k q, c4 a b c (by omega)]
theorem jn_law {P : bt_PT} {d : Nat} {G : m_I → m_L → Prop} {I : m_I} {L : m_L} {fd : Nat} {F : lF} (hA : gA I fd) (hL : gL P I F) (h : ∀ I' F', gA I' 0 → gL P I' F' → lwA I I' → G I' L) :
    bt_WP P (d + 57) mi_B_law [vr 0 0] (I, L) (kI fun x I1 L1 => bt_WP P (d + 57) mi_M_law [vr 35 0] (I1, L1) (kI fun y I2 L2 => x = y ∧ G I2 L2)) := by
  obtain ⟨a1, a2, a3, a4⟩ := hA
  have etp : ∀ j, j < fd → I 8 0 j = nI (tn (I 8 0 j)) ∧ tn (I 8 0 j) < 256 := fun j hj => by
    obtain ⟨m, hm, e⟩ := (a4 j hj).1
    rw [e, ti_tn (by omega)]; exact ⟨rfl, hm⟩
  have hc0 : tcS (ui (ui I 7 0 5 0) 7 0 6 0) fd (fun j => tn (I 8 0 j)) 0 [] := ⟨⟨a1, by rw [ui_j (by decide), ui_j (by decide)]; exact a2, fun j hj => by rw [ui_k (by decide), ui_k (by decide)]; exact (etp j hj).1, fun j hj => (etp j hj).2, by rw [ui_j (by decide), ui_same]; rfl, Nat.zero_le _⟩, ui_same _ _ _ _ _, fun i hi => absurd hi (Nat.not_lt_zero _)⟩
  have hcF : ∀ I', tcF (ui (ui I 7 0 5 0) 7 0 6 0) I' → ∀ a b c, ¬ (a = 9 ∨ (a = 7 ∧ (c = 5 ∨ c = 6))) → I' a b c = I a b c := fun I' g a b c z => by
    rw [g a b c z]
    by_cases q : a = 7
    · rw [ui_j (by omega), ui_j (by omega)]
    · rw [ui_k q, ui_k q]
  have hm0 : ∀ J : m_I, (∀ j, j < fd → J 49 0 j = I 49 0 j) → J 35 0 22 = nI fd → rfS (ui (ui (ui (ui (ui J 35 0 23 0) 35 0 24 (-1)) 35 0 25 0) 35 0 26 0) 52 0 1 0) fd (fun j => tn (I 8 0 j)) 0 0 [] := fun J h1 h2 => by
    refine ⟨⟨a1, ?_, fun j hj => ?_, fun j hj => (etp j hj).2, ?_, Nat.zero_le _⟩, ?_, ?_, ?_, fun i hi => absurd hi (Nat.not_lt_zero _)⟩
    · rw [ui_k (by decide), ui_j (by decide), ui_j (by decide), ui_j (by decide), ui_j (by decide)]; exact h2
    · rw [ui_k (by decide), ui_k (by decide), ui_k (by decide), ui_k (by decide), ui_k (by decide), h1 j hj, (a4 j hj).2, ← (etp j hj).1]
    · rw [ui_k (by decide), ui_j (by decide), ui_j (by decide), ui_j (by decide), ui_same]; rfl
    · rw [ui_k (by decide), ui_j (by decide), ui_j (by decide), ui_same]
    · rw [ui_k (by decide), ui_j (by decide), ui_same]; rfl
    · rw [ui_k (by decide), ui_same]; rfl
  have hmF : ∀ J I' : m_I, rgF 0 (ui (ui (ui (ui (ui J 35 0 23 0) 35 0 24 (-1)) 35 0 25 0) 35 0 26 0) 52 0 1 0) I' → rgF 0 J I' := fun J I' g a b c z => by
    rw [g a b c z]
    by_cases q : a = 35
    · rw [ui_k (by omega), ui_j (by omega), ui_j (by omega), ui_j (by omega), ui_j (by omega)]
    · by_cases q2 : a = 52
      · rw [ui_j (by omega), ui_k q, ui_k q, ui_k q, ui_k q]
      · rw [ui_k q2, ui_k q, ui_k q, ui_k q, ui_k q]
  rcases sO_n P (fun j => tn (I 8 0 j)) a1 (fd + 1) 0 0 (by omega) (by omega) (by omega) with ⟨ls, g0, g1, g2, g3, g4, g5, g6⟩ | ⟨p', g1, g2, g5, g6⟩
  · have hn := g2
    refine ru_B_law (ru_La_read (ru_La_readLines ?_))
    show sC P (d + 1) 0 _ _ _
    refine g5 (d + 1) _ _ L [] hc0 (Nat.zero_le _) (fun I1 b1 b2 => ⟨fun _ => ?_, (fun z => absurd z (by decide))⟩)
    rw [List.nil_append] at b1
    refine lw_J (Q := fun J => bt_WP P (d + 57) mi_M_law [vr 35 0] (J, L) (kI fun y I2 L2 => 1 = y ∧ G I2 L2)) b1 (by omega) (fun J e1 e2 e3 e4 => ?_)
    have hJ : ∀ a b c, ¬ (a = 9 ∨ a = 10 ∨ (a = 7 ∧ 4 ≤ c ∧ c ≤ 7)) → J a b c = I a b c := fun a b c z => by
      rw [e4 a b c (by omega), hcF I1 b2 a b c (by omega)]
    refine ru_M_law (ru_M_readText ⟨ti_in (n := 1) (by omega) (by omega), ?_⟩)
    rw [show tn 1 = 1 from rfl]
    show sM P (d + 8) _ _ _
    refine g6 (d + 8) _ _ L [] (hm0 J (fun j hj => hJ 49 0 j (by omega)) (by rw [hJ 35 0 22 (by omega)]; exact a3)) (Nat.zero_le _) (ui_same _ _ _ _ _) (fun I2 c1 c2 c3 c4 => lw_E g1 (by omega) (by omega) c1 c2 c3 (hmF J I2 c4) (fun I4 k1 k2 k3 k4 k5 => ⟨fun _ => ⟨o01, rfl, ?_⟩, fun z => absurd (by decide) z⟩))
    refine h _ (lwF ls) ⟨by omega, ?_, ?_, fun j hj => absurd hj (Nat.not_lt_zero _)⟩ ⟨lw_C g1 (cdA_pos g0) (by omega) ?_ ?_, Or.inr ⟨?_, lw_M g1 (by omega) (by omega) ?_ ?_ ?_⟩⟩ (fun a b c z => ?_)
    · rw [ui_k (by decide), k5 7 0 4 (by omega), e1]; rfl
    · rw [ui_j (by decide), k1]; rfl
    · rw [ui_k (by decide), k5 7 0 7 (by omega), e2]
    · refine at_of (z := 0) (cdA ls) 0 (fun i hi => ?_)
      show ui I4 35 0 34 1 10 0 (0 + i) = _
      rw [Nat.zero_add, ui_k (by decide), k5 10 0 i (by omega), e3 i hi]
    · rw [ui_same]; decide
    · rw [ui_k (by decide)]; exact k2
    · refine mkS_cp ls 0 0 k3 (fun i hi => ?_)
      exact ⟨ui_k (by decide), ui_k (by decide)⟩
    · refine at_imp _ _ (fun i t e => ?_) k4
      show ui I4 35 0 34 1 50 0 i = _ ∧ ui I4 35 0 34 1 51 0 i = _
      rw [ui_k (by decide), ui_k (by decide)]; exact e
    · have e35 : ui I4 35 0 34 1 a b c = I4 a b c := by
        by_cases q : a = 35
        · exact ui_j (by omega)
        · exact ui_k q
      rw [e35, k5 a b c (by omega), hJ a b c (by omega)]
  · refine ru_B_law (ru_La_read (ru_La_readLines ?_))
    show sC P (d + 1) 0 _ _ _
    refine g5 (d + 1) _ _ L [] hc0 (Nat.zero_le _) (fun I1 b1 b2 => ⟨(fun z => absurd rfl z), fun _ => ?_⟩)
    have e5 : ui I1 7 0 4 0 7 0 5 = nI p' := by rw [ui_j (by decide)]; exact b1.1.2.2.2.2.1
    rw [e5]
    have hJ : ∀ a b c, ¬ (a = 9 ∨ (a = 7 ∧ 4 ≤ c ∧ c ≤ 6)) → ui I1 7 0 4 0 a b c = I a b c := fun a b c z => by
      by_cases q : a = 7
      · rw [ui_j (by omega), hcF I1 b2 a b c (by omega)]
      · rw [ui_k q, hcF I1 b2 a b c (by omega)]
    refine ru_M_law (ru_M_readText ⟨ti_in (n := 1) (by omega) (by omega), ?_⟩)
    rw [show tn 1 = 1 from rfl]
    show sM P (d + 8) _ _ _
    refine g6 (d + 8) _ _ L [] (hm0 _ (fun j hj => hJ 49 0 j (by omega)) (by rw [hJ 35 0 22 (by omega)]; exact a3)) (Nat.zero_le _) (ui_same _ _ _ _ _) (fun I2 c4 => ⟨fun z => absurd z (n_neg (by omega)), fun _ => ⟨rfl, ?_⟩⟩)
    have k5 := hmF _ I2 c4
    have hall : ∀ a b c, ¬ (a = 9 ∨ (a = 7 ∧ 4 ≤ c ∧ c ≤ 6) ∨ (a = 35 ∧ 22 ≤ c ∧ c ≤ 26) ∨ ((a = 50 ∨ a = 51) ∧ 130 ≤ c) ∨ (a = 52 ∧ c = 1) ∨ ((a = 53 ∨ a = 54) ∧ 61 ≤ c)) → ui I2 35 0 22 0 a b c = I a b c := fun a b c z => by
      have e35 : ui I2 35 0 22 0 a b c = I2 a b c := by
        by_cases q : a = 35
        · exact ui_j (by omega)
        · exact ui_k q
      rw [e35, k5 a b c (by omega), hJ a b c (by omega)]
    refine h _ F ⟨by omega, ?_, ?_, fun j hj => absurd hj (Nat.not_lt_zero _)⟩ (gL_Q hL ⟨fun c => hall 10 0 c (by omega), hall 7 0 7 (by omega), hall 35 0 34 (by omega), fun c hc => ⟨hall 50 0 c (by omega), hall 51 0 c (by omega)⟩, hall 52 0 0 (by omega), fun c hc => ⟨hall 53 0 c (by omega), hall 54 0 c (by omega)⟩⟩) (fun a b c z => hall a b c (by omega))
    · rw [ui_k (by decide), k5 7 0 4 (by omega), ui_same]; rfl
    · rw [ui_same]; rfl
end LWJ
