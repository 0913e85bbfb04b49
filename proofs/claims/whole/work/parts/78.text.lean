/-! THE LAW: the whole text, both sides -/
section TXT
variable {P : bt_PT} {fd p : Nat} {tp : Nat → Nat}
def sC (P : bt_PT) (d j : Nat) (f : Int32 → m_I → m_L → Prop) (I : m_I) (L : m_L) : Prop := bt_Go P (d + 53) mi_La_readLines (kI f) 2 [some (vr 7 0), some (vi (nI j))] [] (I, L)
def sM (P : bt_PT) (d : Nat) (f : Int32 → m_I → m_L → Prop) (I : m_I) (L : m_L) : Prop := bt_WP P (d + 47) mi_M_line [vr 35 0] (I, L) (kV fun I1 N2 => bt_Go P (d + 47) mi_M_readText (kI f) 31 [some (vr 35 0), some (vi 0), none] [] (I1, N2))
def sE (P : bt_PT) (d : Nat) (f : Int32 → m_I → m_L → Prop) (I : m_I) (L : m_L) : Prop := bt_Go P (d + 47) mi_M_readText (kI f) 105 [some (vr 35 0), some (vi 0), some (vi 0)] [] (ui I 35 0 22 0, L)
def sO (P : bt_PT) (fd : Nat) (tp : Nat → Nat) (j p : Nat) : Prop :=
  (∃ ls, 0 < ls.length ∧ (∀ l, l ∈ ls → wfL l) ∧ (cdA ls).length ≤ fd - p + 1 ∧ (tkA ls).length ≤ fd - p ∧ j + ls.length ≤ 61 ∧ (∀ (d : Nat) (f : Int32 → m_I → m_L → Prop) (I : m_I) (L : m_L) (cs : List Int32), tcS I fd tp p cs → cs.length ≤ p → (∀ I', tcS I' fd tp fd (cs ++ cdA ls) → tcF I I' → f 1 I' L) → sC P d j f I L) ∧ ∀ (d : Nat) (f : Int32 → m_I → m_L → Prop) (I : m_I) (L : m_L) (ss : List Nat), rfS I fd tp p 0 ss → ss.length ≤ p → I 52 0 1 = nI j → (∀ I', rfS I' fd tp fd 0 (ss ++ tkA ls) → I' 52 0 1 = nI (j + ls.length) → mkS (fun i => I' 53 0 (61 + i)) (fun i => I' 54 0 (61 + i)) ss.length j ls → rgF j I I' → sE P d f I' L) → sM P d f I L) ∨
  (∃ p', p ≤ p' ∧ p' ≤ fd ∧ (∀ (d : Nat) (f : Int32 → m_I → m_L → Prop) (I : m_I) (L : m_L) (cs : List Int32), tcS I fd tp p cs → cs.length ≤ p → (∀ I', tcB I' fd tp p' → tcF I I' → f 0 I' L) → sC P d j f I L) ∧ ∀ (d : Nat) (f : Int32 → m_I → m_L → Prop) (I : m_I) (L : m_L) (ss : List Nat), rfS I fd tp p 0 ss → ss.length ≤ p → I 52 0 1 = nI j → (∀ I', rgF j I I' → f (nI p') (ui I' 35 0 22 0) L) → sM P d f I L)
theorem sC_st {d j : Nat} {f : Int32 → m_I → m_L → Prop} {I : m_I} {L : m_L} (hj : j ≤ 60) (g : bt_WP P (d + 53) mi_La_readLine [vr 7 0] (I, L) (kI fun x3 I1 N2 => (¬ x3 = 0 → (bt_WP P (d + 53) mi_La_note [vr 7 0, vi (-59)] (I1, N2) (kV fun I4 N5 => bt_WP P (d + 53) mi_La_next [vr 7 0] (I4, N5) (kI fun x8 I6 N7 => (x8 = 59 → sC P d (j + 1) f (ui I6 7 0 5 ((I6 7 0 5) + 1)) N7) ∧ (¬ x8 = 59 → (bt_WP P (d + 53) mi_La_next [vr 7 0] (I6, N7) (kI fun x11 I9 N10 => (¬ x11 = (-1) → f 0 I9 N10) ∧ (x11 = (-1) → f 1 I9 N10)))))))) ∧ (x3 = 0 → f 0 I1 N2))) : sC P d j f I L := by
  unfold sC at *
  refine ru_La_readLines_2 ⟨fun z => absurd ((nlt (a := 120) (by omega) (by omega)).mp z) (by omega), fun _ => bt_WP_imp g (fun r σ y => ?_)⟩
  match r, y with
  | some (.inl x), y =>
    refine ⟨fun z => bt_WP_imp (y.1 z) (fun r σ y => ?_), fun z => ⟨z01, y.2 z⟩⟩
    match r, y with
    | none, y =>
      refine bt_WP_imp y (fun r σ y => ?_)
      match r, y with
      | some (.inl x), y =>
        refine ⟨fun z => ?_, fun z => bt_WP_imp (y.2 z) (fun r σ y => ?_)⟩
        · rw [nI_s]; exact y.1 z
        · match r, y with
          | some (.inl x), y => exact ⟨fun z => ⟨z01, y.1 z⟩, fun z => ⟨o01, y.2 z⟩⟩
theorem s31_F {d p' : Nat} {f : Int32 → m_I → m_L → Prop} {I : m_I} {L : m_L} (hp : p' < 2000) (h : I 35 0 24 = nI p') (g : f (nI p') (ui I 35 0 22 0) L) : bt_Go P (d + 47) mi_M_readText (kI f) 31 [some (vr 35 0), some (vi 0), none] [] (I, L) := by
  have e : (0 : Int32) ≤ I 35 0 24 := by rw [h]; exact (nle (a := 0) (by omega) (by omega)).mpr (by omega)
  have e2 : ui I 35 0 22 0 35 0 24 = nI p' := by rw [ui_j (by decide)]; exact h
  refine ru_M_readText_31 ⟨fun _ => ⟨fun _ => ?_, fun z => absurd e z⟩, fun z => absurd e z⟩
  rw [e2]
  exact ⟨fun z => absurd z (n_neg (by omega)), fun _ => g⟩
theorem lnC_len (l : Ln) : (lnC l).length = (lnK l).length + 1 := List.length_append
theorem sO_n (P : bt_PT) {fd : Nat} (tp : Nat → Nat) (hfd : fd ≤ 120) : ∀ (n j p : Nat), fd - p < n → p ≤ fd → 2 * j ≤ p → sO P fd tp j p
  | 0, j, p, hn, _, _ => absurd hn (Nat.not_lt_zero _)
  | n + 1, j, p, hn, hp, hj => by
    have hj6 : j ≤ 60 := by omega
    rcases nO_all P (p := p) tp hfd hp with ⟨p', l, h1, h2, h3, h4, h4', h5, h6⟩ | ⟨p', h1, h2, h5, h6⟩ | ⟨p', h1, h2, h3, h5, h6⟩
    · have hcl : ∀ {cs : List Int32}, cs.length ≤ p → (cs ++ lnK l).length ≤ p' := fun {cs} q => by rw [List.length_append]; omega
      have hcl2 : ∀ {cs : List Int32}, cs.length ≤ p → ((cs ++ lnK l) ++ [(-59 : Int32)]).length ≤ p' + 1 := fun {cs} q => by
        have := hcl q
        rw [List.length_append]; show _ + 1 ≤ _; omega
      have hsl : ∀ {ss : List Nat}, ss.length ≤ p → (ss ++ lnT l).length ≤ p' := fun {ss} q => by rw [List.length_append]; omega
      have hC : ∀ {d : Nat} {f : Int32 → m_I → m_L → Prop} {I : m_I} {L : m_L} {cs : List Int32}, tcS I fd tp p cs → cs.length ≤ p → (∀ I', tcS I' fd tp p' ((cs ++ lnK l) ++ [-59]) → tcF I I' → (cBy fd tp p' = 59 → sC P d (j + 1) f (ui I' 7 0 5 (nI p' + 1)) L) ∧ (¬ cBy fd tp p' = 59 → (¬ cBy fd tp p' = -1 → f 0 I' L) ∧ (cBy fd tp p' = -1 → f 1 I' L))) → sC P d j f I L := fun {d f I L cs} h hc g => by
        refine sC_st hj6 (h5 d _ I L cs h hc (fun I' a1 a2 => ⟨fun _ => sp_note a1 (by have := hcl hc; omega) (fun I2 b1 b2 => sp_next b1.1 ?_), (fun z => absurd z (by decide))⟩))
        have g' := g I2 b1 (tcF_tr a2 b2)
        rw [b1.1.2.2.2.2.1]
        exact ⟨g'.1, fun z => sp_next b1.1 (g'.2 z)⟩
      have hM : ∀ {d : Nat} {f : Int32 → m_I → m_L → Prop} {I : m_I} {L : m_L} {ss : List Nat}, rfS I fd tp p 0 ss → ss.length ≤ p → I 52 0 1 = nI j → (∀ I', rfS I' fd tp p' 0 (ss ++ lnT l) → I' 52 0 1 = nI (j + 1) → I' 53 0 (61 + j) = nI (ss.length + ((lnT l).length - l.2.length)) → I' 54 0 (61 + j) = nI (ss.length + (lnT l).length) → rgF j I I' → (chB fd tp p' = 59 → sM P d f (ui I' 35 0 23 (nI p' + 1)) L) ∧ (¬ chB fd tp p' = 59 → (p' = fd → sE P d f I' L) ∧ (¬ p' = fd → ∀ I2, rfF I' I2 → f (nI p') (ui I2 35 0 22 0) L))) → sM P d f I L := fun {d f I L ss} h hs hi g => by
        unfold sM at *
        refine h6 d j _ I L ss h hs hi hj6 (fun I' a1 a2 a3 a4 a5 => ?_)
        have g' := g I' a1 a2 a3 a4 a5
        have e : ¬ (0 : Int32) ≤ I' 35 0 24 := by rw [a1.2.1]; decide
        have e59 : mBy fd tp p' = 59 ↔ chB fd tp p' = 59 := mB_eq (c := 59) a1.1.2.2.2.1 (by omega)
        refine ru_M_readText_31 ⟨fun z => absurd z e, fun _ => sm_look a1.1 ⟨fun z => ⟨fun z => absurd z e, fun _ => ?_⟩, fun z => ?_⟩⟩
        · have z' : ¬ chB fd tp p' = 59 := fun y => z (e59.mpr y)
          have g2 := g'.2 z'
          rw [a1.1.2.1, a1.1.2.2.2.2.1, nle (by omega) (by omega)]
          refine ⟨fun y => ?_, fun y => sm_faulty a1 (fun I2 b1 b2 => ?_)⟩
          · have e2 : ui I' 35 0 22 0 35 0 24 = -1 := by rw [ui_j (by decide)]; exact a1.2.1
            rw [e2]
            exact ⟨fun _ => g2.1 (by omega), fun y => absurd (by decide) y⟩
          · have e2 : ui I2 35 0 22 0 35 0 24 = nI p' := by rw [ui_j (by decide)]; exact b1.2.1
            rw [e2]
            exact ⟨fun y => absurd y (n_neg (by omega)), fun _ => g2.2 (by omega) I2 b2⟩
        · rw [a1.1.2.2.2.2.1]
          exact g'.1 (e59.mp z)
      by_cases q : chB fd tp p' = 59
      · have hp' : p' < fd := ch_lt q (by omega)
        rcases sO_n P tp hfd n (j + 1) (p' + 1) (by omega) (by omega) (by omega) with ⟨ls, g0, g1, g2, g3, g4, g5, g6⟩ | ⟨p2, g1, g2, g5, g6⟩
        · left
          have hcd : (cdA (l :: ls)).length = (lnK l).length + 1 + (cdA ls).length := by
            show (lnC l ++ cdA ls).length = _
            rw [List.length_append, lnC_len]
          have htk : (tkA (l :: ls)).length = (lnT l).length + (tkA ls).length := List.length_append
          refine ⟨l :: ls, Nat.zero_lt_succ _, fun u hu => ?_, by omega, by omega, by rw [List.length_cons]; omega, fun d f I L cs h hc g => hC h hc (fun I' a1 a2 => ⟨fun _ => ?_, fun z => absurd ((cB_eq (c := 59) a1.1.2.2.2.1 (by omega)).mpr q) z⟩), fun d f I L ss h hs hi g => hM h hs hi (fun I' a1 a2 a3 a4 a5 => ⟨fun _ => ?_, fun z => absurd q z⟩)⟩
          · rcases List.mem_cons.mp hu with e | e
            · subst e; exact h3
            · exact g1 u e
          · obtain ⟨b1, b2⟩ := tcS_at a1 hp'
            refine g5 d f _ L _ b1 (hcl2 hc) (fun I2 c1 c2 => g I2 ?_ (tcF_tr (tcF_tr a2 b2) c2))
            show tcS I2 fd tp fd (cs ++ ((lnK l ++ [-59]) ++ cdA ls))
            rw [← List.append_assoc, ← List.append_assoc]; exact c1
          · have f1 : rgF j I' (ui I' 35 0 23 (nI p' + 1)) := rgF_f (rfF_35 (by omega))
            refine g6 d f _ L _ (rfS_at a1 hp') (by have := hsl hs; omega) (by rw [ui_k (by decide)]; exact a2) (fun I2 c1 c2 c3 c4 => g I2 ?_ ?_ ⟨?_, ?_, ?_⟩ (rgF_tr a5 (rgF_tr f1 (rgF_s c4))))
            · show rfS I2 fd tp fd 0 (ss ++ (lnT l ++ tkA ls))
              rw [← List.append_assoc]; exact c1
            · rw [c2, List.length_cons]; congr 1; omega
            · show I2 53 0 (61 + j) = _
              rw [c4 53 0 _ (by omega), ui_k (by decide), a3]
            · show I2 54 0 (61 + j) = _
              rw [c4 54 0 _ (by omega), ui_k (by decide), a4]
            · rw [← List.length_append]; exact c3
        · right
          refine ⟨p2, by omega, g2, fun d f I L cs h hc g => hC h hc (fun I' a1 a2 => ⟨fun _ => ?_, fun z => absurd ((cB_eq (c := 59) a1.1.2.2.2.1 (by omega)).mpr q) z⟩), fun d f I L ss h hs hi g => hM h hs hi (fun I' a1 a2 a3 a4 a5 => ⟨fun _ => ?_, fun z => absurd q z⟩)⟩
          · obtain ⟨b1, b2⟩ := tcS_at a1 hp'
            exact g5 d f _ L _ b1 (hcl2 hc) (fun I2 c1 c2 => g I2 c1 (tcF_tr (tcF_tr a2 b2) c2))
          · have f1 : rgF j I' (ui I' 35 0 23 (nI p' + 1)) := rgF_f (rfF_35 (by omega))
            exact g6 d f _ L _ (rfS_at a1 hp') (by have := hsl hs; omega) (by rw [ui_k (by decide)]; exact a2) (fun I2 c4 => g I2 (rgF_tr a5 (rgF_tr f1 (rgF_s c4))))
      · by_cases q2 : p' = fd
        · left
          have hcd : (cdA [l]).length = (lnK l).length + 1 := by
            show (lnC l ++ []).length = _
            rw [List.append_nil, lnC_len]
          have htk : (tkA [l]).length = (lnT l).length := by
            show (lnT l ++ []).length = _
            rw [List.append_nil]
          refine ⟨[l], Nat.zero_lt_succ _, fun u hu => by rw [List.mem_singleton] at hu; subst hu; exact h3, by omega, by omega, by show j + 1 ≤ 61; omega, fun d f I L cs h hc g => hC h hc (fun I' a1 a2 => ⟨fun z => absurd ((cB_eq (c := 59) a1.1.2.2.2.1 (by omega)).mp z) q, fun _ => ⟨fun z => absurd ((cB_m1 a1.1.2.2.2.1).mpr (by omega)) z, fun _ => g I' ?_ a2⟩⟩), fun d f I L ss h hs hi g => hM h hs hi (fun I' a1 a2 a3 a4 a5 => ⟨fun z => absurd z q, fun _ => ⟨fun _ => g I' ?_ a2 ⟨a3, a4, trivial⟩ a5, fun z => absurd q2 z⟩⟩)⟩
          · show tcS I' fd tp fd (cs ++ ((lnK l ++ [-59]) ++ []))
            rw [List.append_nil, ← List.append_assoc, ← q2]
            rw [q2] at a1 ⊢; exact a1
          · show rfS I' fd tp fd 0 (ss ++ (lnT l ++ []))
            rw [List.append_nil]
            rw [q2] at a1; exact a1
        · right
          refine ⟨p', by omega, h2, fun d f I L cs h hc g => hC h hc (fun I' a1 a2 => ⟨fun z => absurd ((cB_eq (c := 59) a1.1.2.2.2.1 (by omega)).mp z) q, fun _ => ⟨fun _ => g I' (tcS_B a1 (by have := hcl2 hc; omega)) a2, fun z => absurd ((cB_m1 a1.1.2.2.2.1).mp z) (by omega)⟩⟩), fun d f I L ss h hs hi g => hM h hs hi (fun I' a1 a2 a3 a4 a5 => ⟨fun z => absurd z q, fun _ => ⟨fun z => absurd z q2, fun _ I2 b => g I2 (rgF_tr a5 (rgF_f b))⟩⟩)⟩
    · right
      refine ⟨p', h1, h2, fun d f I L cs h hc g => sC_st hj6 (h5 d _ I L cs h hc (fun I' a1 a2 => ⟨(fun z => absurd rfl z), fun _ => g I' a1 a2⟩)), fun d f I L ss h hs hi g => ?_⟩
      exact h6 d j _ I L ss h hs hi hj6 (fun I' a1 a2 a3 => s31_F (by omega) a2 (g I' a3))
    · right
      have hlt := dg_lt h3
      have h59 : ¬ chB fd tp p' = 59 := fun z => by have := h3.2; omega
      refine ⟨p', by omega, h2, fun d f I L cs h hc g => sC_st hj6 (h5 d _ I L cs h hc (fun I' a1 a2 => ⟨fun _ => sp_noteB a1 (fun I2 b1 b2 => sp_next b1.1 ⟨fun z => absurd ((cB_eq (c := 59) b1.1.2.2.2.1 (by omega)).mp z) h59, fun _ => sp_next b1.1 ⟨fun _ => g I2 b1 (tcF_tr a2 b2), fun z => absurd ((cB_m1 b1.1.2.2.2.1).mp z) (by omega)⟩⟩), (fun z => absurd z (by decide))⟩)), fun d f I L ss h hs hi g => ?_⟩
      exact h6 d j _ I L ss h hs hi hj6 (fun I' a1 a2 a3 => s31_F (by omega) a2 (g I' a3))
end TXT
