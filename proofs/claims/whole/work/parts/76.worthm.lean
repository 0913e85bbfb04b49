/-! THE LAW: what the lines are worth; the reference works it out -/
theorem dv_m1 (a : Int32) : a / (-1) = -a := by
  apply Int32.toInt_inj.mp
  rw [Int32.toInt_div, show ((-1 : Int32)).toInt = -1 from rfl, Int.tdiv_neg, Int.tdiv_one, Int32.toInt_neg]
theorem md_m1 (a : Int32) : a - a / (-1) * (-1) = 0 := by
  rw [dv_m1, Int32.neg_mul, Int32.mul_neg, Int32.neg_neg, Int32.mul_one, Int32.sub_self]
section WOM
variable {P : bt_PT} {d : Nat} {I : m_I} {L : m_L} {env : Nat → Int32}
theorem sm_twoOf {f : Int32 → m_I → m_L → Prop} {s : Nat} {a b : Int32} (hs : lvO s < 9) (g : f (tw s a b) I L) : bt_WP P (d + 1) mi_M_twoOf [vi (nI s), vi a, vi b] (I, L) (kI f) := by
  have hc := lvO_e s
  have hc' : s = 124 ∨ s = 38 ∨ s = 60 ∨ s = 61 ∨ s = 62 ∨ s = 43 ∨ s = 45 ∨ s = 42 ∨ s = 47 ∨ s = 37 := by omega
  refine ru_M_twoOf ?_
  rcases hc' with rfl | rfl | rfl | rfl | rfl | rfl | rfl | rfl | rfl | rfl
  · repeat refine ⟨fun z => absurd z (by decide), fun _ => ?_⟩
    refine ⟨fun z => ru_M_twoOf_226 ?_, fun z => ⟨fun z2 => ?_, fun z2 => ru_M_twoOf_226 ?_⟩⟩
    · unfold tw at g; rw [if_pos rfl, if_neg z] at g; exact g
    · unfold tw at g; rw [if_pos rfl, if_pos z, if_pos z2] at g; exact g
    · unfold tw at g; rw [if_pos rfl, if_pos z, if_neg z2] at g; exact g
  · repeat refine ⟨fun z => absurd z (by decide), fun _ => ?_⟩
    refine ⟨fun _ => ⟨fun z => ?_, fun z => ⟨fun z2 => ?_, fun z2 => ?_⟩⟩, (fun z => absurd rfl z)⟩
    · unfold tw at g; rw [if_neg (by omega), if_pos rfl, if_pos z] at g; exact g
    · unfold tw at g; rw [if_neg (by omega), if_pos rfl, if_neg z, if_pos z2] at g; exact g
    · unfold tw at g; rw [if_neg (by omega), if_pos rfl, if_neg z, if_neg z2] at g; exact g
  · repeat refine ⟨fun z => absurd z (by decide), fun _ => ?_⟩
    refine ⟨fun _ => ⟨fun z => ?_, fun z => ?_⟩, (fun z => absurd rfl z)⟩
    · have g' : f (if b ≤ a then 0 else 1) I L := g
      rw [if_pos z] at g'; exact g'
    · have g' : f (if b ≤ a then 0 else 1) I L := g
      rw [if_neg z] at g'; exact g'
  · repeat refine ⟨fun z => absurd z (by decide), fun _ => ?_⟩
    refine ⟨fun _ => ⟨fun z => ?_, fun z => ?_⟩, (fun z => absurd rfl z)⟩
    · have g' : f (if a = b then 1 else 0) I L := g
      rw [if_neg z] at g'; exact g'
    · have g' : f (if a = b then 1 else 0) I L := g
      rw [if_pos z] at g'; exact g'
  · repeat refine ⟨fun z => absurd z (by decide), fun _ => ?_⟩
    refine ⟨fun _ => ⟨fun z => ?_, fun z => ?_⟩, (fun z => absurd rfl z)⟩
    · have g' : f (if a ≤ b then 0 else 1) I L := g
      rw [if_pos z] at g'; exact g'
    · have g' : f (if a ≤ b then 0 else 1) I L := g
      rw [if_neg z] at g'; exact g'
  · repeat refine ⟨fun z => absurd z (by decide), fun _ => ?_⟩
    exact ⟨fun _ => g, (fun z => absurd rfl z)⟩
  · repeat refine ⟨fun z => absurd z (by decide), fun _ => ?_⟩
    exact ⟨fun _ => g, (fun z => absurd rfl z)⟩
  · repeat refine ⟨fun z => absurd z (by decide), fun _ => ?_⟩
    exact ⟨fun _ => g, (fun z => absurd rfl z)⟩
  · repeat refine ⟨fun z => absurd z (by decide), fun _ => ?_⟩
    have g' : f (if b = 0 then 0 else a / b) I L := g
    refine ⟨fun _ => ⟨fun z => ⟨fun _ => ⟨z, ?_⟩, fun z1 => ?_⟩, fun z => ?_⟩, (fun z => absurd rfl z)⟩
    · rw [if_neg z] at g'; exact g'
    · rw [if_neg z, z1, dv_m1] at g'; exact g'
    · rw [if_pos z] at g'; exact g'
  · have g' : f (if b = 0 then 0 else a - a / b * b) I L := g
    refine ⟨fun _ => ⟨fun z => ?_, fun z => ⟨fun _ => ⟨z, ?_⟩, fun z1 => ?_⟩⟩, (fun z => absurd rfl z)⟩
    · rw [if_pos z] at g'; exact g'
    · rw [if_neg z] at g'; exact g'
    · rw [if_neg z, z1, md_m1] at g'; exact g'
def mPi (I : m_I) (st : List Int32) : Prop := piA (fun i => I 56 0 i) st
def mFr (I I' : m_I) : Prop := ∀ a b c, ¬ a = 56 → I' a b c = I a b c
theorem mFr_tr {I I' I'' : m_I} (h : mFr I I') (h' : mFr I' I'') : mFr I I'' := fun a b c z => (h' a b c z).trans (h a b c z)
theorem mFr_1 {n : Nat} {v : Int32} : mFr I (ui I 56 0 n v) := fun a b c z => ui_k z
theorem mPi_p {st : List Int32} {v : Int32} (h : mPi I st) : mPi (ui I 56 0 st.length v) (v :: st) := ⟨ui_same _ _ _ _ _, pi_imp st (fun i hi => ui_j (by omega)) h⟩
def mEn (env : Nat → Int32) (I : m_I) : Prop := ∀ i, i < 6 → I 55 0 i = env i
def mGo (P : bt_PT) (d b n q : Nat) (f : Int32 → m_I → m_L → Prop) (I : m_I) (L : m_L) : Prop := bt_Go P (d + 1) mi_M_worked (kI f) 12 [some (vr 35 0), some (vi 0), none, some (vi (nI b)), some (vi (nI n)), some (vi (nI q)), none] [] (I, L)
theorem nI_m1 {n : Nat} : nI (n + 1) + (-1) = nI n := by
  rw [← Int32.sub_eq_add_neg]; exact nI_pred n
theorem mk_tok {f : Int32 → m_I → m_L → Prop} {b q t : Nat} {st st' : List Int32} (hq : q < b) (hb : b < 260) (h : mPi I st) (he : mEn env I) (ht : okT t) (hl : st.length < 130) (h1 : I 50 0 q = aC t) (h2 : I 51 0 q = wC t) (hv : ev1 env t st = some st') (g : ∀ I', mPi I' st' → mFr I I' → mGo P d b st'.length (q + 1) f I' L) : mGo P d b st.length q f I L := by
  unfold mGo at *
  refine ru_M_worked_12 ?_
  rw [show (130 : Int32) * 0 = 0 from rfl, Int32.zero_add, show nI q + 1 = nI (q + 1) from nI_s q, ti_tn (n := q) (by omega), h1, h2]
  refine ⟨fun z => absurd ((nle (by omega) (by omega)).mp z) (by omega), fun _ => ⟨ti_in (by omega) (by omega), ?_⟩⟩
  unfold ev1 at hv
  have vq : vp_in (nI q) 260 := ti_in (by omega) (by omega)
  have vn : vp_in (nI st.length) 130 := ti_in (by omega) (by omega)
  by_cases c1 : t < 10000
  · rw [if_pos c1] at hv; cases hv
    have ea : aC t = 1 := by unfold aC; rw [if_pos c1]
    have ew : wC t = nI t := by unfold wC; rw [if_pos c1]
    rw [ea, ew, show nI st.length + 1 = nI (st.length + 1) from nI_s _, ti_tn (n := st.length) (by omega)]
    exact ⟨fun _ => ⟨(fun z => absurd rfl z), fun _ => ⟨vq, vn, g _ (mPi_p h) mFr_1⟩⟩, (fun z => absurd rfl z)⟩
  rw [if_neg c1] at hv
  by_cases c2 : t < 10006
  · rw [if_pos c2] at hv; cases hv
    have ea : aC t = 2 := by unfold aC; rw [if_neg c1, if_pos c2]
    have ew : wC t = nI (t - 10000) := by unfold wC; rw [if_neg c1, if_pos c2]
    rw [ea, ew, show nI st.length + 1 = nI (st.length + 1) from nI_s _, ti_tn (n := st.length) (by omega), ti_tn (n := t - 10000) (by omega), he _ (by omega)]
    exact ⟨(fun z => absurd z (by decide)), fun _ => ⟨(fun z => absurd rfl z), fun _ => ⟨fun _ => ⟨vq, ti_in (by omega) (by omega), vn, g _ (mPi_p h) mFr_1⟩, (fun z => absurd z (by decide))⟩⟩⟩
  rw [if_neg c2] at hv
  by_cases c3 : t = 10006
  · rw [if_pos c3] at hv
    have ea : aC t = 3 := by rw [c3]; rfl
    rw [ea]
    match st, hv, h, hl, vn with
    | a :: r, hv, h, hl, vn =>
      cases hv
      have hl : r.length + 1 < 130 := hl
      have e0 : I 56 0 r.length = a := h.1
      have vr' : vp_in (nI r.length) 130 := ti_in (by omega) (by omega)
      rw [show nI (a :: r).length - 1 = nI r.length from nI_pred _, ti_tn (n := r.length) (by omega), e0]
      refine ⟨(fun z => absurd z (by decide)), fun _ => ⟨fun _ => ⟨fun z => absurd rfl z, fun _ => ⟨vr', fun z => ⟨vr', ?_⟩, fun z => ⟨vr', ?_⟩⟩⟩, (fun z => absurd z (by decide))⟩⟩
      · rw [if_neg z] at g
        exact g _ (mPi_p h.2) mFr_1
      · rw [if_pos z] at g
        exact g _ (mPi_p h.2) mFr_1
  rw [if_neg c3] at hv
  by_cases c4 : t = 10007
  · rw [if_pos c4] at hv
    have ea : aC t = 4 := by rw [c4]; rfl
    rw [ea]
    match st, hv, h, hl, vn with
    | a :: r, hv, h, hl, vn =>
      cases hv
      have hl : r.length + 1 < 130 := hl
      have e0 : I 56 0 r.length = a := h.1
      have vr' : vp_in (nI r.length) 130 := ti_in (by omega) (by omega)
      rw [show nI (a :: r).length - 1 = nI r.length from nI_pred _, ti_tn (n := r.length) (by omega), e0]
      exact ⟨(fun z => absurd z (by decide)), fun _ => ⟨fun _ => ⟨fun _ => ⟨fun z => absurd rfl z, fun _ => ⟨vr', vr', g _ (mPi_p h.2) mFr_1⟩⟩, (fun z => absurd z (by decide))⟩, (fun z => absurd z (by decide))⟩⟩
  rw [if_neg c4] at hv
  have ht := ht.resolve_left (by omega)
  have ea : aC t = nI (t - 10100) := by unfold aC; rw [if_neg c1, if_neg c2, if_neg c3, if_neg c4]
  rw [ea]
  generalize hse : t - 10100 = s at *
  have hs := lvO_lt ht.2
  have hlv := lvO_e s
  have ns : ∀ c : Nat, c < 5 → ¬ nI s = nI c := fun c hc z => absurd ((neq (by omega) (by omega)).mp z) (by omega)
  match st, hv, h, hl, vn with
  | y :: a :: r, hv, h, hl, vn =>
    cases hv
    have hl : r.length + 1 + 1 < 130 := hl
    have e0 : I 56 0 (r.length + 1) = y := h.1
    have e1 : I 56 0 r.length = a := h.2.1
    have v0 : vp_in (nI r.length) 130 := ti_in (by omega) (by omega)
    have v1 : vp_in (nI (r.length + 1)) 130 := ti_in (by omega) (by omega)
    rw [show nI (y :: a :: r).length + (-1) = nI (r.length + 1) from nI_m1, nI_pred, ti_tn (n := r.length + 1) (by omega), ti_tn (n := r.length) (by omega), e0, e1]
    exact ⟨fun z => absurd z (ns 1 (by omega)), fun _ => ⟨fun _ => ⟨fun _ => ⟨fun _ => ⟨v0, v1, sm_twoOf ht.2 ⟨v0, g _ (mPi_p h.2.2) mFr_1⟩⟩, fun z => absurd z (ns 4 (by omega))⟩, fun z => absurd z (ns 3 (by omega))⟩, fun z => absurd z (ns 2 (by omega))⟩⟩
/-- the reference's tokens from q on -/
def mAt (I : m_I) (q : Nat) (k : List Nat) : Prop := atP (fun i t => I 50 0 i = aC t ∧ I 51 0 i = wC t) q k
theorem mAt_F {I I' : m_I} {q : Nat} {k : List Nat} (h : mAt I q k) (g : mFr I I') : mAt I' q k := at_imp k q (fun i a e => ⟨(g 50 0 i (by omega)).trans e.1, (g 51 0 i (by omega)).trans e.2⟩) h
theorem mk_toks {f : Int32 → m_I → m_L → Prop} {b : Nat} (hb : b < 130) : ∀ (k : List Nat) (st st' : List Int32) (q : Nat) (I : m_I), (∀ t, t ∈ k → okT t) → mPi I st → mEn env I → st.length ≤ q → q + k.length = b → mAt I q k → evS env k st = some st' → (∀ I', mPi I' st' → mFr I I' → f (I' 56 0 0) I' L) → mGo P d b st.length q f I L
  | [], st, st', q, I, hk, h, he, hl, hq, hc, hv, g => by
    cases hv
    have hq : q + 0 = b := hq
    unfold mGo
    refine ru_M_worked_12 ⟨fun _ => ⟨ti_in (n := 0) (by omega) (by omega), g I h (fun _ _ _ _ => rfl)⟩, fun z => absurd ?_ z⟩
    rw [show (130 : Int32) * 0 = 0 from rfl, Int32.zero_add]
    exact (nle (by omega) (by omega)).mpr (by omega)
  | t :: ts, st, st', q, I, hk, h, he, hl, hq, hc, hv, g => by
    have hv' : (match ev1 env t st with | some s => evS env ts s | none => none) = some st' := hv
    have hq : q + (ts.length + 1) = b := hq
    cases h1 : ev1 env t st with
    | none => rw [h1] at hv'; cases hv'
    | some s =>
      rw [h1] at hv'
      have hsl := ev1_len h1
      exact mk_tok (by omega) (by omega) h he (hk t List.mem_cons_self) (by omega) hc.1.1 hc.1.2 h1 (fun I' a1 a2 => mk_toks hb ts s st' (q + 1) I' (fun u hu => hk u (List.mem_cons_of_mem _ hu)) a1 (fun i hi => (a2 55 0 i (by omega)).trans (he i hi)) (by omega) (by omega) (mAt_F hc.2 a2) hv' (fun I2 b1 b2 => g I2 b1 (mFr_tr a2 b2)))
theorem sm_worked {f : Int32 → m_I → m_L → Prop} {q b : Nat} {k : List Nat} (hk : wfT k) (hb : b < 130) (hq : q + k.length = b) (he : mEn env I) (hc : mAt I q k) (g : ∀ I', mFr I I' → f (vlE env k) I' L) : bt_WP P (d + 2) mi_M_worked [vr 35 0, vi 0, vi (nI q), vi (nI b)] (I, L) (kI f) := by
  refine ru_M_worked ?_
  rw [show (130 : Int32) * 0 = 0 from rfl, Int32.zero_add]
  refine mk_toks (env := env) hb k [] [vlE env k] q I hk.1 trivial he (Nat.zero_le _) hq hc (vl_e hk []) (fun I' a1 a2 => ?_)
  have e : I' 56 0 0 = vlE env k := a1.1
  rw [e]; exact g I' a2
def gGo (P : bt_PT) (d s j : Nat) (f : Int32 → m_I → m_L → Prop) (I : m_I) (L : m_L) : Prop := bt_Go P (d + 2) mi_M_gives (kI f) 7 [some (vr 35 0), some (vi 0), some (vi (nI s)), some (vi (nI j))] [] (I, L)
theorem mkS_F {I I' : m_I} (g : mFr I I') : ∀ (ls : List Ln) (s j : Nat), mkS (fun i => I 53 0 i) (fun i => I 54 0 i) s j ls → mkS (fun i => I' 53 0 i) (fun i => I' 54 0 i) s j ls
  | [], s, j, _ => trivial
  | l :: r, s, j, h => ⟨(g 53 0 j (by omega)).trans h.1, (g 54 0 j (by omega)).trans h.2.1, mkS_F g r _ _ h.2.2⟩
theorem gv_lines {f : Int32 → m_I → m_L → Prop} {n : Nat} (hn : n ≤ 61) : ∀ (ls : List Ln) (s j : Nat) (I : m_I), (∀ l, l ∈ ls → wfL l) → mEn env I → I 52 0 0 = nI n → j + ls.length = n → s + (tkA ls).length < 130 → mkS (fun i => I 53 0 i) (fun i => I 54 0 i) s j ls → mAt I s (tkA ls) → (∀ I', mFr I I' → f (gvE env ls) I' L) → gGo P d s j f I L
  | [], s, j, I, hw, he, hi, hj, hs, hm, hc, g => by
    have hj : j + 0 = n := hj
    unfold gGo
    refine ru_M_gives_7 ⟨ti_in (n := 0) (by omega) (by omega), fun _ => g I (fun _ _ _ _ => rfl), fun z => absurd ?_ z⟩
    rw [show (61 : Int32) * 0 = 0 from rfl, Int32.zero_add, show tn 0 = 0 from rfl, hi]
    exact (nle (by omega) (by omega)).mpr (by omega)
  | (none, e) :: r, s, j, I, hw, he, hi, hj, hs, hm, hc, g => by
    have hwl := (hw _ List.mem_cons_self).2
    have hj : j + (r.length + 1) = n := hj
    obtain ⟨m1, m2, m3⟩ := hm
    have hlt : (lnT (none, e)).length = e.length := rfl
    have m1 : I 53 0 j = nI (s + ((lnT (none, e)).length - e.length)) := m1
    have m2 : I 54 0 j = nI (s + (lnT (none, e)).length) := m2
    rw [hlt, Nat.sub_self, Nat.add_zero] at m1
    rw [hlt] at m2
    have hc : mAt I s (e ++ tkA r) := hc
    have hs : s + (e ++ tkA r).length < 130 := hs
    rw [List.length_append] at hs
    have vj : vp_in (nI j) 122 := ti_in (by omega) (by omega)
    unfold gGo
    refine ru_M_gives_7 ?_
    rw [show (61 : Int32) * 0 = 0 from rfl, Int32.zero_add, show tn 0 = 0 from rfl, hi, ti_tn (n := j) (by omega), m1, m2]
    refine ⟨ti_in (n := 0) (by omega) (by omega), fun z => absurd ((nle (by omega) (by omega)).mp z) (by omega), fun _ => ⟨vj, fun _ => ⟨vj, vj, sm_worked hwl (by omega) rfl he ((at_app _ _ _).mp hc).1 g⟩, (fun z => absurd rfl z)⟩⟩
  | (some t, e) :: r, s, j, I, hw, he, hi, hj, hs, hm, hc, g => by
    have hwe := (hw _ List.mem_cons_self).2
    have hwt := (hw _ List.mem_cons_self).1 t rfl
    have htp := wf_pos hwt
    have hj : j + (r.length + 1) = n := hj
    obtain ⟨m1, m2, m3⟩ := hm
    have hlt : (lnT (some t, e)).length = t.length + e.length := List.length_append
    have m1 : I 53 0 j = nI (s + ((lnT (some t, e)).length - e.length)) := m1
    have m2 : I 54 0 j = nI (s + (lnT (some t, e)).length) := m2
    rw [hlt, Nat.add_sub_cancel] at m1
    rw [hlt] at m2 m3
    have hc : mAt I s ((t ++ e) ++ tkA r) := hc
    have hs : s + ((t ++ e) ++ tkA r).length < 130 := hs
    rw [List.length_append, List.length_append] at hs
    have hc1 := (at_app _ _ _).mp hc
    have hc2 := (at_app _ _ _).mp hc1.1
    have hc3 := hc1.2
    rw [List.length_append] at hc3
    have vj : vp_in (nI j) 122 := ti_in (by omega) (by omega)
    have hg : gvE env ((some t, e) :: r) = if vlE env t = 0 then gvE env r else vlE env e := rfl
    rw [hg] at g
    unfold gGo at *
    refine ru_M_gives_7 ?_
    rw [show (61 : Int32) * 0 = 0 from rfl, Int32.zero_add, show tn 0 = 0 from rfl, hi, ti_tn (n := j) (by omega), m1, nI_s]
    refine ⟨ti_in (n := 0) (by omega) (by omega), fun z => absurd ((nle (by omega) (by omega)).mp z) (by omega), fun _ => ⟨vj, fun z => absurd ((neq (by omega) (by omega)).mp z) (by omega), fun _ => ⟨vj, sm_worked hwt (by omega) rfl he hc2.1 (fun I' a1 => ⟨fun z => ⟨vj, ?_⟩, fun z => ⟨vj, vj, ?_⟩⟩)⟩⟩⟩
    · rw [if_pos z] at g
      rw [a1 54 0 j (by omega), m2]
      exact gv_lines hn r (s + (t.length + e.length)) (j + 1) I' (fun l hl => hw l (List.mem_cons_of_mem _ hl)) (fun i hi => (a1 55 0 i (by omega)).trans (he i hi)) ((a1 52 0 0 (by omega)).trans hi) (by omega) (by omega) (mkS_F a1 r _ _ m3) (mAt_F hc3 a1) (fun I2 b1 => g I2 (mFr_tr a1 b1))
    · rw [if_neg z] at g
      rw [a1 54 0 j (by omega), m2, a1 53 0 j (by omega), m1]
      exact sm_worked hwe (by omega) (Nat.add_assoc _ _ _) (fun i hi => (a1 55 0 i (by omega)).trans (he i hi)) (mAt_F hc2.2 a1) (fun I2 b1 => g I2 (mFr_tr a1 b1))
end WOM
