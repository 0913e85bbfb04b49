/-! BODIES: body, trace, taken, count; both sides -/
/-- whether a kind is under another -/
def undB (k o : Nat) : Bool := match k with
  | 0 => o == 0
  | 1 => o == 1 || o == 0
  | 2 => o == 2 || o == 0
  | 3 => o == 3 || o == 2 || o == 0
  | 4 => o == 4 || o == 1 || o == 0
  | 5 => o == 5 || o == 3 || o == 2 || o == 0
  | 6 => o == 6 || o == 0
  | _ => o == 7 || o == 6 || o == 0
theorem k_8 {k : Nat} (h : k < 8) : k = 0 ∨ k = 1 ∨ k = 2 ∨ k = 3 ∨ k = 4 ∨ k = 5 ∨ k = 6 ∨ k = 7 := by omega
theorem sp_isKind {P : bt_PT} {d : Nat} {f : Int32 → m_I → m_L → Prop} {I : m_I} {L : m_L} {x : Int32} (h : f (bP (¬ oob x 8)) I L) : bt_WP P (d + 1) mi_Bo_isKind [vr 29 0, vi x] (I, L) (kI f) :=
  ru_Bo_isKind ⟨fun h1 => ⟨z01, bP_ff h (fun z => z (oobL h1))⟩, fun h1 => ⟨fun h2 => ⟨z01, bP_ff h (fun z => z (oobR h2))⟩, fun h2 => ⟨o01, bP_ft h (fun z => z.elim h1 h2)⟩⟩⟩
theorem sp_isKind_in {P : bt_PT} {d : Nat} {f : Int32 → m_I → m_L → Prop} {I : m_I} {L : m_L} {k : Nat} (hk : k < 8) (h : f 1 I L) : bt_WP P (d + 1) mi_Bo_isKind [vr 29 0, vi (nI k)] (I, L) (kI f) :=
  sp_isKind (by rw [bP_t (n_oob hk (by omega))]; exact h)
theorem sp_und_m {P : bt_PT} {d : Nat} {f : Int32 → m_I → m_L → Prop} {I : m_I} {L : m_L} {u : Nat} {o : Int32} (hu : u < 8) (h : f 0 I L) : bt_Go P (d + 1) mi_Bo_isUnder (kI f) 5 [some (vr 29 0), none, some (vi o), some (vi (-1)), some (vi (nI u))] [] (I, L) := by
  refine ru_Bo_isUnder_5 ⟨fun z => absurd ((nle (a := 8) (by omega) (by omega)).mp z) (by omega), fun _ => sp_isKind ?_⟩
  rw [bP_f (fun z => z (oobL i_m1n))]
  exact ⟨fun _ => ⟨z01, h⟩, (fun z => absurd rfl z)⟩
theorem sp_und_s {P : bt_PT} {d : Nat} {f : Int32 → m_I → m_L → Prop} {I : m_I} {L : m_L} {u k : Nat} {o a : Nat} {x : Int32} (hu : u < 8) (hk : k < 8) (ho : o < 8) (hx : bt_SV 1 k = x) (h1 : k = o → f 1 I L) (h0 : ¬ k = o → bt_Go P (d + 1) mi_Bo_isUnder (kI f) 5 [some (vr 29 0), none, some (vi (nI o)), some (vi x), some (vi (nI (u + 1)))] [] (I, L)) : bt_Go P (d + 1) mi_Bo_isUnder (kI f) 5 [some (vr 29 0), none, some (vi (nI o)), some (vi (nI k)), some (vi (nI u))] [] (I, L) := by
  refine ru_Bo_isUnder_5 ⟨fun z => absurd ((nle (a := 8) (by omega) (by omega)).mp z) (by omega), fun _ => sp_isKind_in hk ⟨(fun z => absurd z (by decide)), fun _ => ⟨fun q => ⟨ti_in hk (by omega), ?_⟩, fun q => ⟨o01, h1 ((neq (by omega) (by omega)).mp q)⟩⟩⟩⟩
  rw [ti_tn (by omega), hx, nI_s]
  exact h0 (fun e => q (by rw [e]))
theorem sp_und {P : bt_PT} {d : Nat} {f : Int32 → m_I → m_L → Prop} {I : m_I} {L : m_L} {k o : Nat} (hk : k < 8) (ho : o < 8) (h : f (if undB k o then 1 else 0) I L) : bt_WP P (d + 2) mi_Bo_isUnder [vr 29 0, vi (nI k), vi (nI o)] (I, L) (kI f) := by
  have e0 : ∀ u, u < 7 → (∀ v, (v = 1 ↔ o = 0) → (v = 0 ∨ v = 1) → f v I L) → bt_Go P (d + 1) mi_Bo_isUnder (kI f) 5 [some (vr 29 0), none, some (vi (nI o)), some (vi (nI 0)), some (vi (nI u))] [] (I, L) := fun u hu hh =>
    sp_und_s (a := 0) (by omega) (by omega) ho (x := -1) (by decide) (fun e => hh 1 ⟨fun _ => e.symm, fun _ => rfl⟩ (Or.inr rfl)) (fun e => sp_und_m (by omega) (hh 0 ⟨fun z => absurd z (by decide), fun z => absurd z.symm e⟩ (Or.inl rfl)))
  have fin : ∀ (b : Bool), (undB k o = b) → ∀ v : Int32, (v = 1 ↔ b = true) → (v = 0 ∨ v = 1) → f v I L := fun b hb v h1 h2 => by
    rw [hb] at h
    rcases h2 with rfl | rfl
    · have : b = false := by cases b with
        | false => rfl
        | true => exact absurd (h1.mpr rfl) (by decide)
      rw [this] at h; exact h
    · rw [h1.mp rfl] at h; exact h
  refine ru_Bo_isUnder ?_
  rcases k_8 hk with rfl | rfl | rfl | rfl | rfl | rfl | rfl | rfl <;> rcases k_8 ho with rfl | rfl | rfl | rfl | rfl | rfl | rfl | rfl <;>
    (repeat (first
      | exact h
      | exact sp_und_m (by omega) h
      | refine sp_und_s (u := 0) (a := 0) (by omega) (by omega) (by omega) (x := nI 0) (by decide) (fun e => ?_) (fun e => ?_)
      | refine sp_und_s (u := 0) (a := 0) (by omega) (by omega) (by omega) (x := nI 1) (by decide) (fun e => ?_) (fun e => ?_)
      | refine sp_und_s (u := 0) (a := 0) (by omega) (by omega) (by omega) (x := nI 2) (by decide) (fun e => ?_) (fun e => ?_)
      | refine sp_und_s (u := 0) (a := 0) (by omega) (by omega) (by omega) (x := nI 3) (by decide) (fun e => ?_) (fun e => ?_)
      | refine sp_und_s (u := 0) (a := 0) (by omega) (by omega) (by omega) (x := nI 6) (by decide) (fun e => ?_) (fun e => ?_)
      | refine sp_und_s (u := 0) (a := 0) (by omega) (by omega) (by omega) (x := -1) (by decide) (fun e => ?_) (fun e => ?_)
      | refine sp_und_s (u := 1) (a := 0) (by omega) (by omega) (by omega) (x := nI 0) (by decide) (fun e => ?_) (fun e => ?_)
      | refine sp_und_s (u := 1) (a := 0) (by omega) (by omega) (by omega) (x := nI 2) (by decide) (fun e => ?_) (fun e => ?_)
      | refine sp_und_s (u := 1) (a := 0) (by omega) (by omega) (by omega) (x := -1) (by decide) (fun e => ?_) (fun e => ?_)
      | refine sp_und_s (u := 2) (a := 0) (by omega) (by omega) (by omega) (x := nI 0) (by decide) (fun e => ?_) (fun e => ?_)
      | refine sp_und_s (u := 2) (a := 0) (by omega) (by omega) (by omega) (x := -1) (by decide) (fun e => ?_) (fun e => ?_)
      | refine sp_und_s (u := 3) (a := 0) (by omega) (by omega) (by omega) (x := -1) (by decide) (fun e => ?_) (fun e => ?_)
      | (exfalso; omega)))
theorem sm_und {P : bt_PT} {d : Nat} {f : Int32 → m_I → m_L → Prop} {I : m_I} {L : m_L} {k o : Nat} (hk : k < 8) (ho : o < 8) (h : f (if undB k o then 1 else 0) I L) : bt_WP P (d + 1) mi_M_isUnder [vi (nI k), vi (nI o)] (I, L) (kI f) := by
  refine ru_M_isUnder ?_
  rcases k_8 ho with rfl | rfl | rfl | rfl | rfl | rfl | rfl | rfl <;> rcases k_8 hk with rfl | rfl | rfl | rfl | rfl | rfl | rfl | rfl <;>
    (repeat (first
      | exact ⟨fun _ => ⟨o01, h⟩, fun z => absurd rfl z⟩
      | exact ⟨fun _ => ⟨z01, h⟩, fun z => absurd z (by decide)⟩
      | exact ⟨o01, h⟩
      | exact ⟨z01, h⟩
      | refine ⟨fun z => absurd rfl z, fun _ => ?_⟩
      | refine ⟨fun z => absurd z (by decide), fun _ => ?_⟩
      | refine ⟨fun _ => ?_, fun z => absurd z (by decide)⟩))
