/-! act: the class -/
/-- a number noted: its row, its counter -/
noncomputable def ntX (kr kc jc : Nat) (I : m_I) (n : Nat) : m_I := @ite m_I (24 ≤ I kc 0 jc) (Classical.propDecidable _) (ui I kc 0 jc (I kc 0 jc + 1)) (ui (ui I kr 0 (tn (I kc 0 jc)) (nI n)) kc 0 jc (I kc 0 jc + 1))
theorem ntX_fr {kr kc jc : Nat} {I : m_I} {n a b c : Nat} (h : ¬ (a = kr ∨ (a = kc ∧ b = 0 ∧ c = jc))) : ntX kr kc jc I n a b c = I a b c := by
  have hne : ∀ (J : m_I) (v : Int32), ui J kc 0 jc v a b c = J a b c := fun J v => by
    by_cases q : a = kc
    · by_cases q2 : b = 0
      · exact ui_j (fun e => h (Or.inr ⟨q, q2, e⟩))
      · exact ui_i q2
    · exact ui_k q
  unfold ntX
  by_cases q : 24 ≤ I kc 0 jc
  · rw [if_pos q, hne]
  · rw [if_neg q, hne, ui_k (fun e => h (Or.inl e))]
theorem ntX_c {kr kc jc : Nat} {I : m_I} {n r : Nat} (h : I kc 0 jc = nI r) : ntX kr kc jc I n kc 0 jc = nI (r + 1) := by
  unfold ntX
  by_cases q : 24 ≤ I kc 0 jc
  · rw [if_pos q, ui_same, h, nI_s]
  · rw [if_neg q, ui_same, h, nI_s]
noncomputable def ntC (I : m_I) (n : Nat) : m_I := ntX 31 29 3 I n
noncomputable def ntM (I : m_I) (n : Nat) : m_I := ntX 65 35 47 I n
/-- the pure answers and traces -/
def rgV (K : Nat) (b x : Int32) : Int32 × List Nat := match K with
  | 1 => ((x + b) + 3, [20, 1])
  | 4 => ((x + b) + 3, [20, 1])
  | 6 => ((x + b) * 2, [70, 1])
  | 7 => ((x + b) * 2 - 1, [81, 70, 1])
  | _ => (x + b, [1])
def plB (K : Nat) (b x : Int32) : Int32 × List Nat := ((rgV K b x).1 * 2, 10 :: (rgV K b x).2)
def guB (K : Nat) (b x : Int32) : Int32 × List Nat := (-(plB K b x).1, 30 :: (plB K b x).2)
def heV (K : Nat) (b x : Int32) : Int32 × List Nat := match K with
  | 5 => ((x ^^^ b) * 3 - (rgV 5 b 2).1, [60, 40, 11] ++ (rgV 5 b 2).2)
  | 3 => ((x ^^^ b) * 3, [40, 11])
  | _ => (x ^^^ b, [11])
def brV (K : Nat) (b x : Int32) : Int32 × List Nat := match K with
  | 2 => guB 2 b x
  | 3 => ((guB 3 b (x + 1)).1, 41 :: (guB 3 b (x + 1)).2)
  | 5 => ((guB 5 b (x + 1)).1, 41 :: (guB 5 b (x + 1)).2)
  | 7 => ((plB 7 b x).1 + (heV 7 b 2).1, 80 :: ((plB 7 b x).2 ++ (heV 7 b 2).2))
  | k => plB k b x
def plW (K : Nat) (b x : Int32) : Int32 × List Nat := ((brV K b x).1 - (heV K b 1).1, 2 :: ((brV K b x).2 ++ (heV K b 1).2))
def wrV (K : Nat) (b x : Int32) : Int32 × List Nat := match K with
  | 4 => ((plW 4 b x).1 ^^^ 5, 50 :: (plW 4 b x).2)
  | 5 => ((plW 5 b x).1 + 1, 61 :: (plW 5 b x).2)
  | k => plW k b x
def acV (K a : Nat) (b x : Int32) : Int32 × List Nat := match a with
  | 0 => rgV K b x
  | 1 => brV K b x
  | 2 => heV K b x
  | _ => wrV K b x
noncomputable def ntS (nt : m_I → Nat → m_I) (I : m_I) : List Nat → m_I
  | [] => I
  | n :: l => ntS nt (nt I n) l
theorem ntS_app {nt : m_I → Nat → m_I} : ∀ (l l' : List Nat) (I : m_I), ntS nt I (l ++ l') = ntS nt (ntS nt I l) l'
  | [], _, _ => rfl
  | n :: l, l', I => ntS_app l l' (nt I n)
/-- the number of a kind's own, or of one above it, and whose -/
def acO : Nat → Nat := fun i => ([1, 10, 11, 2, 20, 0, 0, 0, 0, 30, 0, 0, 0, 41, 40, 0, 0, 0, 0, 50, 0, 0, 60, 61, 70, 0, 0, 0, 81, 80, 0, 0] : List Nat).getD i 0
def acA : Nat → Nat := fun k => ([0, 0, 0, 2, 1, 3, 0, 6] : List Nat).getD k 0
theorem acO_e : ∀ i, i < 32 → bt_SV 2 i = nI (acO i) ∧ acO i < 100 := by decide +kernel
theorem acA_e : ∀ k, k < 8 → 0 < k → bt_SV 1 k = nI (acA k) ∧ acA k < 8 := by decide +kernel
theorem acO_0 : ∀ a, a < 4 → acO a ≠ 0 := by decide +kernel
def acF : Nat → Nat → Nat → Nat × Nat
  | 0, k, a => (acO (k * 4 + a), k)
  | u + 1, k, a => if acO (k * 4 + a) = 0 then acF u (acA k) a else (acO (k * 4 + a), k)
section ACT
variable {P : bt_PT} {d : Nat} {f : Int32 → m_I → m_L → Prop} {I : m_I} {L : m_L} {bi bn K r dp : Nat} {x : Int32}
theorem sp_rfL {n o a : Nat} (ha : a < 4) (hdp : dp < 40) (hn : 0 < n) (g : bt_WP P (d + 1) mi_Bo_runBody [vr 29 0, vi (nI n), vi (nI o), vi x, vi (nI (dp + 1))] (I, L) (kI f)) : ∀ (u k j : Nat), k < 8 → j + u < 8 → acF u k a = (n, o) → bt_Go P (d + 1) mi_Bo_runFrom (kI f) 6 [some (vr 29 0), none, some (vi (nI a)), some (vi x), some (vi (nI dp)), some (vi (nI k)), some (vi (nI j)), none] [] (I, L)
  | u, k, j, hk, hj, hf => by
    have hi : k * 4 + a < 32 := by omega
    have ei : (nI k * 4) + nI a = nI (k * 4 + a) := by rw [show (4 : Int32) = nI 4 from rfl, pk_mul, nI_add]
    obtain ⟨eo, lo⟩ := acO_e (k * 4 + a) hi
    have hhit : ¬ acO (k * 4 + a) = 0 → (acO (k * 4 + a), k) = (n, o) → bt_Go P (d + 1) mi_Bo_runFrom (kI f) 6 [some (vr 29 0), none, some (vi (nI a)), some (vi x), some (vi (nI dp)), some (vi (nI k)), some (vi (nI j)), none] [] (I, L) := fun q hf => by
      refine ru_Bo_runFrom_6 ⟨fun z => absurd ((nle (a := 8) (by omega) (by omega)).mp z) (by omega), fun _ => sp_isKind_in hk ⟨(fun z => absurd z (by decide)), fun _ => ?_⟩⟩
      rw [ei, ti_tn (by omega), eo, nI_s, nI_s]
      refine ⟨ti_in hi (by omega), fun z => absurd ((neq (b := 0) (by omega) (by omega)).mp z) q, fun _ => ⟨fun z => absurd ((nle (a := 40) (by omega) (by omega)).mp z) (by omega), fun _ => ?_⟩⟩
      injection hf with h1 h2
      rw [h1, h2]
      exact g
    cases u with
    | zero =>
      have hf' : (acO (k * 4 + a), k) = (n, o) := hf
      exact hhit (fun q => by rw [q] at hf'; injection hf' with h1 h2; omega) hf'
    | succ u =>
      unfold acF at hf
      by_cases q : acO (k * 4 + a) = 0
      · rw [if_pos q] at hf
        have hk0 : 0 < k := by
          refine Nat.pos_of_ne_zero (fun z => ?_)
          rw [z, Nat.zero_mul, Nat.zero_add] at q
          exact acO_0 a ha q
        obtain ⟨ea, la⟩ := acA_e k hk hk0
        refine ru_Bo_runFrom_6 ⟨fun z => absurd ((nle (a := 8) (by omega) (by omega)).mp z) (by omega), fun _ => sp_isKind_in hk ⟨(fun z => absurd z (by decide)), fun _ => ?_⟩⟩
        rw [ei, ti_tn (n := k * 4 + a) (by omega), eo, q, ti_tn (n := k) (by omega), ea, nI_s]
        exact ⟨ti_in hi (by omega), fun _ => ⟨ti_in hk (by omega), sp_rfL ha hdp hn g u (acA k) (j + 1) la (by omega) hf⟩, fun z => absurd rfl z⟩
      · rw [if_neg q] at hf
        exact hhit q hf
theorem sp_rf {n o a k : Nat} (hk : k < 8) (ha : a < 4) (hdp : dp < 40) (hf : acF 4 k a = (n, o)) (hn : 0 < n) (g : bt_WP P (d + 1) mi_Bo_runBody [vr 29 0, vi (nI n), vi (nI o), vi x, vi (nI (dp + 1))] (I, L) (kI f)) : bt_WP P (d + 2) mi_Bo_runFrom [vr 29 0, vi (nI k), vi (nI a), vi x, vi (nI dp)] (I, L) (kI f) :=
  ru_Bo_runFrom (sp_rfL ha hdp hn g 4 k 0 hk (by omega) hf)
theorem sp_ra {n o a k : Nat} (hk : k < 8) (hk0 : 0 < k) (ha : a < 4) (hdp : dp < 40) (hf : acF 4 (acA k) a = (n, o)) (hn : 0 < n) (g : bt_WP P (d + 1) mi_Bo_runBody [vr 29 0, vi (nI n), vi (nI o), vi x, vi (nI (dp + 1))] (I, L) (kI f)) : bt_WP P (d + 3) mi_Bo_runAbove [vr 29 0, vi (nI k), vi (nI a), vi x, vi (nI dp)] (I, L) (kI f) := by
  obtain ⟨ea, la⟩ := acA_e k hk hk0
  refine ru_Bo_runAbove (sp_isKind_in hk ⟨(fun z => absurd z (by decide)), fun _ => ⟨ti_in hk (by omega), ?_⟩⟩)
  rw [ti_tn (by omega), ea]
  refine bt_WP_imp (sp_rf la ha hdp hf hn g) (fun r σ y => ?_)
  match r, y with
  | some (.inl v), y => exact y
/-- one who acts -/
def acC (I : m_I) (bi bn K r : Nat) : Prop := I 29 0 4 = nI bi ∧ bi < bn ∧ bn ≤ 50 ∧ I 29 0 2 = nI bn ∧ I 30 0 bi = nI K ∧ K < 8 ∧ I 29 0 3 = nI r
theorem acC_n (h : acC I bi bn K r) (n : Nat) : acC (ntC I n) bi bn K (r + 1) := ⟨(ntX_fr (by omega)).trans h.1, h.2.1, h.2.2.1, (ntX_fr (by omega)).trans h.2.2.2.1, (ntX_fr (by omega)).trans h.2.2.2.2.1, h.2.2.2.2.2.1, ntX_c h.2.2.2.2.2.2⟩
theorem acC_s : ∀ (l : List Nat) (I : m_I) (r : Nat), acC I bi bn K r → acC (ntS ntC I l) bi bn K (r + l.length)
  | [], I, r, h => h
  | n :: l, I, r, h => by
    have := acC_s l (ntC I n) (r + 1) (acC_n h n)
    rw [show r + (n :: l).length = r + 1 + l.length by rw [List.length_cons]; omega]
    exact this
theorem sp_nt {f : m_I → m_L → Prop} {n : Nat} (h : acC I bi bn K r) (hr : r < 1000) (g : f (ntC I n) L) : bt_WP P (d + 1) mi_Bo_note [vr 29 0, vi (nI n)] (I, L) (kV f) := by
  have e := h.2.2.2.2.2.2
  unfold ntC ntX at g
  refine ru_Bo_note ⟨fun z => ?_, fun z => ?_⟩
  · rw [if_pos z] at g; exact g
  · rw [if_neg z] at g
    refine ⟨?_, ?_⟩
    · rw [e]
      refine ti_in ?_ (by omega)
      rw [e] at z
      have : ¬ 24 ≤ r := fun y => z ((nle (a := 24) (by omega) (by omega)).mpr y)
      omega
    · rw [ui_k (by decide)]; exact g
theorem sp_ro {n o a : Nat} (h : acC I bi bn K r) (ha : a < 4) (hdp : dp < 40) (hf : acF 4 K a = (n, o)) (hn : 0 < n) (g : bt_WP P (d + 1) mi_Bo_runBody [vr 29 0, vi (nI n), vi (nI o), vi x, vi (nI (dp + 1))] (I, L) (kI f)) : bt_WP P (d + 3) mi_Bo_runOwn [vr 29 0, vi (nI a), vi x, vi (nI dp)] (I, L) (kI f) := by
  obtain ⟨h1, h2, h3, h4, h5, h6, h7⟩ := h
  refine ru_Bo_runOwn ?_
  rw [h1]
  refine ru_Bo_kindOf ⟨fun z => absurd z (n_neg (by omega)), fun _ => ⟨fun z => ?_, fun _ => ⟨ti_in (by omega) (by omega), ?_⟩⟩⟩
  · rw [h4, nle (by omega) (by omega)] at z; omega
  · rw [ti_tn (by omega), h5]
    refine bt_WP_imp (sp_rf h6 ha hdp hf hn g) (fun r σ y => ?_)
    match r, y with
    | some (.inl v), y => exact y
-- the bodies
theorem sp_b1 {o : Int32} (h : acC I bi bn K r) (hr : r < 1000) (g : f (x + nI bi) (ntS ntC I [1]) L) : bt_WP P (d + 2) mi_Bo_runBody [vr 29 0, vi (nI 1), vi o, vi x, vi (nI dp)] (I, L) (kI f) := by
  refine ru_Bo_runBody (sp_nt h hr ?_)
  rw [(acC_n h 1).1]
  exact ⟨fun _ => g, (fun z => absurd rfl z)⟩
theorem sp_b11 {o : Int32} (h : acC I bi bn K r) (hr : r < 1000) (g : f (x ^^^ nI bi) (ntS ntC I [11]) L) : bt_WP P (d + 2) mi_Bo_runBody [vr 29 0, vi (nI 11), vi o, vi x, vi (nI dp)] (I, L) (kI f) := by
  refine ru_Bo_runBody (sp_nt h hr ?_)
  rw [(acC_n h 11).1]
  exact ⟨(fun z => absurd z (by decide)), fun _ => ⟨(fun z => absurd z (by decide)), fun _ => ⟨(fun z => absurd z (by decide)), fun _ => ⟨fun _ => g, (fun z => absurd rfl z)⟩⟩⟩⟩
theorem sp_b20 (h : acC I bi bn K r) (hr : r < 990) (hdp : dp < 40) (g : f ((x + nI bi) + 3) (ntS ntC I [20, 1]) L) : bt_WP P (d + 5) mi_Bo_runBody [vr 29 0, vi (nI 20), vi (nI 1), vi x, vi (nI dp)] (I, L) (kI f) :=
  ru_Bo_runBody (sp_nt h (by omega) ⟨(fun z => absurd z (by decide)), fun _ => ⟨(fun z => absurd z (by decide)), fun _ => ⟨(fun z => absurd z (by decide)), fun _ => ⟨(fun z => absurd z (by decide)), fun _ => ⟨fun _ => sp_ra (k := 1) (a := 0) (n := 1) (o := 0) (by omega) (by omega) (by omega) hdp rfl (by omega) (sp_b1 (acC_n h 20) (by omega) g), (fun z => absurd rfl z)⟩⟩⟩⟩⟩)
theorem sp_b70 (h : acC I bi bn K r) (hr : r < 990) (hdp : dp < 40) (g : f ((x + nI bi) * 2) (ntS ntC I [70, 1]) L) : bt_WP P (d + 5) mi_Bo_runBody [vr 29 0, vi (nI 70), vi (nI 6), vi x, vi (nI dp)] (I, L) (kI f) :=
  ru_Bo_runBody (sp_nt h (by omega) ⟨(fun z => absurd z (by decide)), fun _ => ⟨(fun z => absurd z (by decide)), fun _ => ⟨(fun z => absurd z (by decide)), fun _ => ⟨(fun z => absurd z (by decide)), fun _ => ⟨(fun z => absurd z (by decide)), fun _ => ⟨(fun z => absurd z (by decide)), fun _ => ⟨(fun z => absurd z (by decide)), fun _ => ⟨(fun z => absurd z (by decide)), fun _ => ⟨(fun z => absurd z (by decide)), fun _ => ⟨(fun z => absurd z (by decide)), fun _ => ⟨(fun z => absurd z (by decide)), fun _ => ⟨fun _ => sp_ra (k := 6) (a := 0) (n := 1) (o := 0) (by omega) (by omega) (by omega) hdp rfl (by omega) (sp_b1 (acC_n h 70) (by omega) g), (fun z => absurd rfl z)⟩⟩⟩⟩⟩⟩⟩⟩⟩⟩⟩⟩)
theorem sp_b81 (h : acC I bi bn K r) (hr : r < 980) (hdp : dp < 39) (g : f ((x + nI bi) * 2 - 1) (ntS ntC I [81, 70, 1]) L) : bt_WP P (d + 8) mi_Bo_runBody [vr 29 0, vi (nI 81), vi (nI 7), vi x, vi (nI dp)] (I, L) (kI f) :=
  ru_Bo_runBody (sp_nt h (by omega) ⟨(fun z => absurd z (by decide)), fun _ => ⟨(fun z => absurd z (by decide)), fun _ => ⟨(fun z => absurd z (by decide)), fun _ => ⟨(fun z => absurd z (by decide)), fun _ => ⟨(fun z => absurd z (by decide)), fun _ => ⟨(fun z => absurd z (by decide)), fun _ => ⟨(fun z => absurd z (by decide)), fun _ => ⟨(fun z => absurd z (by decide)), fun _ => ⟨(fun z => absurd z (by decide)), fun _ => ⟨(fun z => absurd z (by decide)), fun _ => ⟨(fun z => absurd z (by decide)), fun _ => ⟨(fun z => absurd z (by decide)), fun _ => ⟨(fun z => absurd z (by decide)), fun _ => ⟨fun _ => sp_ra (k := 7) (a := 0) (n := 70) (o := 6) (by omega) (by omega) (by omega) (by omega) rfl (by omega) (sp_b70 (acC_n h 81) (by omega) (by omega) g), (fun z => absurd rfl z)⟩⟩⟩⟩⟩⟩⟩⟩⟩⟩⟩⟩⟩⟩)
theorem sp_ring (h : acC I bi bn K r) (hr : r < 980) (hdp : dp < 38) (g : f (rgV K (nI bi) x).1 (ntS ntC I (rgV K (nI bi) x).2) L) : bt_WP P (d + 10) mi_Bo_runOwn [vr 29 0, vi 0, vi x, vi (nI dp)] (I, L) (kI f) := by
  have hK := h.2.2.2.2.2.1
  rcases k_8 hK with rfl | rfl | rfl | rfl | rfl | rfl | rfl | rfl
  · exact sp_ro (a := 0) (n := 1) (o := 0) h (by omega) (by omega) rfl (by omega) (sp_b1 h (by omega) g)
  · exact sp_ro (a := 0) (n := 20) (o := 1) h (by omega) (by omega) rfl (by omega) (sp_b20 h (by omega) (by omega) g)
  · exact sp_ro (a := 0) (n := 1) (o := 0) h (by omega) (by omega) rfl (by omega) (sp_b1 h (by omega) g)
  · exact sp_ro (a := 0) (n := 1) (o := 0) h (by omega) (by omega) rfl (by omega) (sp_b1 h (by omega) g)
  · exact sp_ro (a := 0) (n := 20) (o := 1) h (by omega) (by omega) rfl (by omega) (sp_b20 h (by omega) (by omega) g)
  · exact sp_ro (a := 0) (n := 1) (o := 0) h (by omega) (by omega) rfl (by omega) (sp_b1 h (by omega) g)
  · exact sp_ro (a := 0) (n := 70) (o := 6) h (by omega) (by omega) rfl (by omega) (sp_b70 h (by omega) (by omega) g)
  · exact sp_ro (a := 0) (n := 81) (o := 7) h (by omega) (by omega) rfl (by omega) (sp_b81 h (by omega) (by omega) g)
theorem rg_len (K : Nat) (b x : Int32) : (rgV K b x).2.length ≤ 3 := by
  unfold rgV; split <;> (simp only [List.length_cons, List.length_nil]; omega)
theorem sp_b10 {o : Int32} (h : acC I bi bn K r) (hr : r < 970) (hdp : dp < 37) (g : f (plB K (nI bi) x).1 (ntS ntC I (plB K (nI bi) x).2) L) : bt_WP P (d + 11) mi_Bo_runBody [vr 29 0, vi (nI 10), vi o, vi x, vi (nI dp)] (I, L) (kI f) :=
  ru_Bo_runBody (sp_nt h (by omega) ⟨(fun z => absurd z (by decide)), fun _ => ⟨(fun z => absurd z (by decide)), fun _ => ⟨fun _ => sp_ring (acC_n h 10) (by omega) (by omega) g, (fun z => absurd rfl z)⟩⟩⟩)
theorem sp_b30 (h : acC I bi bn K r) (hr : r < 960) (hdp : dp < 36) (g : f (guB K (nI bi) x).1 (ntS ntC I (guB K (nI bi) x).2) L) : bt_WP P (d + 14) mi_Bo_runBody [vr 29 0, vi (nI 30), vi (nI 2), vi x, vi (nI dp)] (I, L) (kI f) :=
  ru_Bo_runBody (sp_nt h (by omega) ⟨(fun z => absurd z (by decide)), fun _ => ⟨(fun z => absurd z (by decide)), fun _ => ⟨(fun z => absurd z (by decide)), fun _ => ⟨(fun z => absurd z (by decide)), fun _ => ⟨(fun z => absurd z (by decide)), fun _ => ⟨fun _ => sp_ra (k := 2) (a := 1) (n := 10) (o := 0) (by omega) (by omega) (by omega) (by omega) rfl (by omega) (sp_b10 (acC_n h 30) (by omega) (by omega) g), (fun z => absurd rfl z)⟩⟩⟩⟩⟩⟩)
theorem sp_b40 (h : acC I bi bn K r) (hr : r < 990) (hdp : dp < 40) (g : f ((x ^^^ nI bi) * 3) (ntS ntC I [40, 11]) L) : bt_WP P (d + 5) mi_Bo_runBody [vr 29 0, vi (nI 40), vi (nI 3), vi x, vi (nI dp)] (I, L) (kI f) :=
  ru_Bo_runBody (sp_nt h (by omega) ⟨(fun z => absurd z (by decide)), fun _ => ⟨(fun z => absurd z (by decide)), fun _ => ⟨(fun z => absurd z (by decide)), fun _ => ⟨(fun z => absurd z (by decide)), fun _ => ⟨(fun z => absurd z (by decide)), fun _ => ⟨(fun z => absurd z (by decide)), fun _ => ⟨fun _ => sp_ra (k := 3) (a := 2) (n := 11) (o := 0) (by omega) (by omega) (by omega) hdp rfl (by omega) (sp_b11 (acC_n h 40) (by omega) g), (fun z => absurd rfl z)⟩⟩⟩⟩⟩⟩⟩)
theorem sp_b41 (h : acC I bi bn K r) (hr : r < 950) (hdp : dp < 35) (g : f (guB K (nI bi) (x + 1)).1 (ntS ntC I (41 :: (guB K (nI bi) (x + 1)).2)) L) : bt_WP P (d + 17) mi_Bo_runBody [vr 29 0, vi (nI 41), vi (nI 3), vi x, vi (nI dp)] (I, L) (kI f) :=
  ru_Bo_runBody (sp_nt h (by omega) ⟨(fun z => absurd z (by decide)), fun _ => ⟨(fun z => absurd z (by decide)), fun _ => ⟨(fun z => absurd z (by decide)), fun _ => ⟨(fun z => absurd z (by decide)), fun _ => ⟨(fun z => absurd z (by decide)), fun _ => ⟨(fun z => absurd z (by decide)), fun _ => ⟨(fun z => absurd z (by decide)), fun _ => ⟨fun _ => sp_ra (k := 3) (a := 1) (n := 30) (o := 2) (by omega) (by omega) (by omega) (by omega) rfl (by omega) (sp_b30 (acC_n h 41) (by omega) (by omega) g), (fun z => absurd rfl z)⟩⟩⟩⟩⟩⟩⟩⟩)
theorem sp_b60 (h : acC I bi bn 5 r) (hr : r < 960) (hdp : dp < 36) (g : f (heV 5 (nI bi) x).1 (ntS ntC I (heV 5 (nI bi) x).2) L) : bt_WP P (d + 11) mi_Bo_runBody [vr 29 0, vi (nI 60), vi (nI 5), vi x, vi (nI dp)] (I, L) (kI f) :=
  ru_Bo_runBody (sp_nt h (by omega) ⟨(fun z => absurd z (by decide)), fun _ => ⟨(fun z => absurd z (by decide)), fun _ => ⟨(fun z => absurd z (by decide)), fun _ => ⟨(fun z => absurd z (by decide)), fun _ => ⟨(fun z => absurd z (by decide)), fun _ => ⟨(fun z => absurd z (by decide)), fun _ => ⟨(fun z => absurd z (by decide)), fun _ => ⟨(fun z => absurd z (by decide)), fun _ => ⟨(fun z => absurd z (by decide)), fun _ => ⟨fun _ => sp_ra (k := 5) (a := 2) (n := 40) (o := 3) (by omega) (by omega) (by omega) (by omega) rfl (by omega) (sp_b40 (acC_n h 60) (by omega) (by omega) (sp_ring (acC_n (acC_n (acC_n h 60) 40) 11) (by omega) (by omega) g)), (fun z => absurd rfl z)⟩⟩⟩⟩⟩⟩⟩⟩⟩⟩)
theorem sp_hear (h : acC I bi bn K r) (hr : r < 960) (hdp : dp < 35) (g : f (heV K (nI bi) x).1 (ntS ntC I (heV K (nI bi) x).2) L) : bt_WP P (d + 13) mi_Bo_runOwn [vr 29 0, vi 2, vi x, vi (nI dp)] (I, L) (kI f) := by
  have hK := h.2.2.2.2.2.1
  rcases k_8 hK with rfl | rfl | rfl | rfl | rfl | rfl | rfl | rfl
  · exact sp_ro (a := 2) (n := 11) (o := 0) h (by omega) (by omega) rfl (by omega) (sp_b11 h (by omega) g)
  · exact sp_ro (a := 2) (n := 11) (o := 0) h (by omega) (by omega) rfl (by omega) (sp_b11 h (by omega) g)
  · exact sp_ro (a := 2) (n := 11) (o := 0) h (by omega) (by omega) rfl (by omega) (sp_b11 h (by omega) g)
  · exact sp_ro (a := 2) (n := 40) (o := 3) h (by omega) (by omega) rfl (by omega) (sp_b40 h (by omega) (by omega) g)
  · exact sp_ro (a := 2) (n := 11) (o := 0) h (by omega) (by omega) rfl (by omega) (sp_b11 h (by omega) g)
  · exact sp_ro (a := 2) (n := 60) (o := 5) h (by omega) (by omega) rfl (by omega) (sp_b60 h (by omega) (by omega) g)
  · exact sp_ro (a := 2) (n := 11) (o := 0) h (by omega) (by omega) rfl (by omega) (sp_b11 h (by omega) g)
  · exact sp_ro (a := 2) (n := 11) (o := 0) h (by omega) (by omega) rfl (by omega) (sp_b11 h (by omega) g)
theorem sp_b80 (h : acC I bi bn 7 r) (hr : r < 940) (hdp : dp < 34) (g : f (brV 7 (nI bi) x).1 (ntS ntC I (brV 7 (nI bi) x).2) L) : bt_WP P (d + 14) mi_Bo_runBody [vr 29 0, vi (nI 80), vi (nI 7), vi x, vi (nI dp)] (I, L) (kI f) := by
  have hl := rg_len 7 (nI bi) x
  refine ru_Bo_runBody (sp_nt h (by omega) ⟨(fun z => absurd z (by decide)), fun _ => ⟨(fun z => absurd z (by decide)), fun _ => ⟨(fun z => absurd z (by decide)), fun _ => ⟨(fun z => absurd z (by decide)), fun _ => ⟨(fun z => absurd z (by decide)), fun _ => ⟨(fun z => absurd z (by decide)), fun _ => ⟨(fun z => absurd z (by decide)), fun _ => ⟨(fun z => absurd z (by decide)), fun _ => ⟨(fun z => absurd z (by decide)), fun _ => ⟨(fun z => absurd z (by decide)), fun _ => ⟨(fun z => absurd z (by decide)), fun _ => ⟨(fun z => absurd z (by decide)), fun _ => ⟨fun _ => sp_ra (k := 7) (a := 1) (n := 10) (o := 0) (by omega) (by omega) (by omega) (by omega) rfl (by omega) (sp_b10 (acC_n h 80) (by omega) (by omega) ?_), (fun z => absurd rfl z)⟩⟩⟩⟩⟩⟩⟩⟩⟩⟩⟩⟩⟩)
  refine sp_hear (acC_s (plB 7 (nI bi) x).2 _ _ (acC_n h 80)) (by show r + 1 + ((rgV 7 (nI bi) x).2.length + 1) < 960; omega) (by omega) ?_
  rw [← ntS_app]
  have g : f ((plB 7 (nI bi) x).1 + (heV 7 (nI bi) 2).1) (ntS ntC (ntC I 80) ((plB 7 (nI bi) x).2 ++ (heV 7 (nI bi) 2).2)) L := g
  exact g
theorem sp_brush (h : acC I bi bn K r) (hr : r < 940) (hdp : dp < 33) (g : f (brV K (nI bi) x).1 (ntS ntC I (brV K (nI bi) x).2) L) : bt_WP P (d + 19) mi_Bo_runOwn [vr 29 0, vi 1, vi x, vi (nI dp)] (I, L) (kI f) := by
  have hK := h.2.2.2.2.2.1
  rcases k_8 hK with rfl | rfl | rfl | rfl | rfl | rfl | rfl | rfl
  · exact sp_ro (a := 1) (n := 10) (o := 0) h (by omega) (by omega) rfl (by omega) (sp_b10 h (by omega) (by omega) g)
  · exact sp_ro (a := 1) (n := 10) (o := 0) h (by omega) (by omega) rfl (by omega) (sp_b10 h (by omega) (by omega) g)
  · exact sp_ro (a := 1) (n := 30) (o := 2) h (by omega) (by omega) rfl (by omega) (sp_b30 h (by omega) (by omega) g)
  · exact sp_ro (a := 1) (n := 41) (o := 3) h (by omega) (by omega) rfl (by omega) (sp_b41 h (by omega) (by omega) g)
  · exact sp_ro (a := 1) (n := 10) (o := 0) h (by omega) (by omega) rfl (by omega) (sp_b10 h (by omega) (by omega) g)
  · exact sp_ro (a := 1) (n := 41) (o := 3) h (by omega) (by omega) rfl (by omega) (sp_b41 h (by omega) (by omega) g)
  · exact sp_ro (a := 1) (n := 10) (o := 0) h (by omega) (by omega) rfl (by omega) (sp_b10 h (by omega) (by omega) g)
  · exact sp_ro (a := 1) (n := 80) (o := 7) h (by omega) (by omega) rfl (by omega) (sp_b80 h (by omega) (by omega) g)
theorem he_len (K : Nat) (b x : Int32) : (heV K b x).2.length ≤ 6 := by
  have := rg_len 5 b 2
  unfold heV; split <;> (simp only [List.length_append, List.length_cons, List.length_nil]; omega)
theorem br_len (K : Nat) (b x : Int32) : (brV K b x).2.length ≤ 12 := by
  have h0 : ∀ K x, (plB K b x).2.length ≤ 4 := fun K x => by
    have := rg_len K b x
    show (rgV K b x).2.length + 1 ≤ 4; omega
  have h1 : ∀ K x, (guB K b x).2.length ≤ 5 := fun K x => by
    have := h0 K x
    show (plB K b x).2.length + 1 ≤ 5; omega
  have a1 := h1 2 x
  have a2 := h1 3 (x + 1)
  have a3 := h1 5 (x + 1)
  have a4 := h0 7 x
  have a5 := he_len 7 b 2
  unfold brV; split
  · omega
  · simp only [List.length_cons]; omega
  · simp only [List.length_cons]; omega
  · simp only [List.length_cons, List.length_append]; omega
  · have := h0 K x; omega
theorem sp_b2 {o : Int32} (h : acC I bi bn K r) (hr : r < 920) (hdp : dp < 32) (g : f (plW K (nI bi) x).1 (ntS ntC I (plW K (nI bi) x).2) L) : bt_WP P (d + 20) mi_Bo_runBody [vr 29 0, vi (nI 2), vi o, vi x, vi (nI dp)] (I, L) (kI f) := by
  have hl := br_len K (nI bi) x
  refine ru_Bo_runBody (sp_nt h (by omega) ⟨(fun z => absurd z (by decide)), fun _ => ⟨fun _ => sp_brush (acC_n h 2) (by omega) (by omega) (sp_hear (acC_s (brV K (nI bi) x).2 _ _ (acC_n h 2)) (by omega) (by omega) ?_), (fun z => absurd rfl z)⟩⟩)
  rw [← ntS_app]
  have g : f ((brV K (nI bi) x).1 - (heV K (nI bi) 1).1) (ntS ntC (ntC I 2) ((brV K (nI bi) x).2 ++ (heV K (nI bi) 1).2)) L := g
  exact g
theorem sp_b50 (h : acC I bi bn K r) (hr : r < 910) (hdp : dp < 31) (g : f ((plW K (nI bi) x).1 ^^^ 5) (ntS ntC I (50 :: (plW K (nI bi) x).2)) L) : bt_WP P (d + 23) mi_Bo_runBody [vr 29 0, vi (nI 50), vi (nI 4), vi x, vi (nI dp)] (I, L) (kI f) :=
  ru_Bo_runBody (sp_nt h (by omega) ⟨(fun z => absurd z (by decide)), fun _ => ⟨(fun z => absurd z (by decide)), fun _ => ⟨(fun z => absurd z (by decide)), fun _ => ⟨(fun z => absurd z (by decide)), fun _ => ⟨(fun z => absurd z (by decide)), fun _ => ⟨(fun z => absurd z (by decide)), fun _ => ⟨(fun z => absurd z (by decide)), fun _ => ⟨(fun z => absurd z (by decide)), fun _ => ⟨fun _ => sp_ra (k := 4) (a := 3) (n := 2) (o := 0) (by omega) (by omega) (by omega) (by omega) rfl (by omega) (sp_b2 (acC_n h 50) (by omega) (by omega) g), (fun z => absurd rfl z)⟩⟩⟩⟩⟩⟩⟩⟩⟩)
theorem sp_b61 (h : acC I bi bn K r) (hr : r < 910) (hdp : dp < 31) (g : f ((plW K (nI bi) x).1 + 1) (ntS ntC I (61 :: (plW K (nI bi) x).2)) L) : bt_WP P (d + 23) mi_Bo_runBody [vr 29 0, vi (nI 61), vi (nI 5), vi x, vi (nI dp)] (I, L) (kI f) :=
  ru_Bo_runBody (sp_nt h (by omega) ⟨(fun z => absurd z (by decide)), fun _ => ⟨(fun z => absurd z (by decide)), fun _ => ⟨(fun z => absurd z (by decide)), fun _ => ⟨(fun z => absurd z (by decide)), fun _ => ⟨(fun z => absurd z (by decide)), fun _ => ⟨(fun z => absurd z (by decide)), fun _ => ⟨(fun z => absurd z (by decide)), fun _ => ⟨(fun z => absurd z (by decide)), fun _ => ⟨(fun z => absurd z (by decide)), fun _ => ⟨(fun z => absurd z (by decide)), fun _ => ⟨fun _ => sp_ra (k := 5) (a := 3) (n := 2) (o := 0) (by omega) (by omega) (by omega) (by omega) rfl (by omega) (sp_b2 (acC_n h 61) (by omega) (by omega) g), (fun z => absurd rfl z)⟩⟩⟩⟩⟩⟩⟩⟩⟩⟩⟩)
theorem sp_write (h : acC I bi bn K r) (hr : r < 910) (hdp : dp < 30) (g : f (wrV K (nI bi) x).1 (ntS ntC I (wrV K (nI bi) x).2) L) : bt_WP P (d + 25) mi_Bo_runOwn [vr 29 0, vi 3, vi x, vi (nI dp)] (I, L) (kI f) := by
  have hK := h.2.2.2.2.2.1
  rcases k_8 hK with rfl | rfl | rfl | rfl | rfl | rfl | rfl | rfl
  · exact sp_ro (a := 3) (n := 2) (o := 0) h (by omega) (by omega) rfl (by omega) (sp_b2 h (by omega) (by omega) g)
  · exact sp_ro (a := 3) (n := 2) (o := 0) h (by omega) (by omega) rfl (by omega) (sp_b2 h (by omega) (by omega) g)
  · exact sp_ro (a := 3) (n := 2) (o := 0) h (by omega) (by omega) rfl (by omega) (sp_b2 h (by omega) (by omega) g)
  · exact sp_ro (a := 3) (n := 2) (o := 0) h (by omega) (by omega) rfl (by omega) (sp_b2 h (by omega) (by omega) g)
  · exact sp_ro (a := 3) (n := 50) (o := 4) h (by omega) (by omega) rfl (by omega) (sp_b50 h (by omega) (by omega) g)
  · exact sp_ro (a := 3) (n := 61) (o := 5) h (by omega) (by omega) rfl (by omega) (sp_b61 h (by omega) (by omega) g)
  · exact sp_ro (a := 3) (n := 2) (o := 0) h (by omega) (by omega) rfl (by omega) (sp_b2 h (by omega) (by omega) g)
  · exact sp_ro (a := 3) (n := 2) (o := 0) h (by omega) (by omega) rfl (by omega) (sp_b2 h (by omega) (by omega) g)
end ACT
