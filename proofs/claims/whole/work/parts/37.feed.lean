/-! feed: joint -/
/-- the tape -/
def gA (I : m_I) (fd : Nat) : Prop := fd ≤ 120 ∧ I 7 0 4 = nI fd ∧ I 35 0 22 = nI fd ∧ ∀ j, j < fd → lt' (I 8 0 j) 256 ∧ I 49 0 j = (I 8 0 j).toInt8.toInt32
theorem gA_Q {I I' : m_I} {fd : Nat} (h : gA I fd) (q : Qg 6 I I') : gA I' fd := ⟨h.1, by rw [q 7 0 4 rfl]; exact h.2.1, by rw [q 35 0 22 rfl]; exact h.2.2.1, fun j hj => by rw [q 8 0 j rfl, q 49 0 j rfl]; exact h.2.2.2 j hj⟩
theorem byte_i (n : Int32) : (n.toInt8.toInt32).toInt8.toInt32 = n.toInt8.toInt32 := by rw [Int8.toInt8_toInt32]
theorem jn_feed {P : bt_PT} {d : Nat} {G : m_I → m_L → Prop} {I : m_I} {L : m_L} {fd : Nat} {n : Int32} (hA : gA I fd) (h0 : G I L) (h : ∀ I', fd < 120 → gA I' (fd + 1) → I' 7 0 7 = I 7 0 7 → (∀ a b c, ¬ (a = 8) → ¬ (a = 49) → ¬ (a = 7 ∧ c = 4) → ¬ (a = 35 ∧ c = 22) → I' a b c = I a b c) → G I' L) :
    bt_WP P (d + 6) mi_B_feed [vr 0 0, vi n] (I, L) (kI fun x I1 L1 => bt_WP P (d + 6) mi_M_feed [vr 35 0, vi n] (I1, L1) (kI fun y I2 L2 => x = y ∧ G I2 L2)) := by
  obtain ⟨a1, a2, a3, a4⟩ := hA
  have hin : ((0 : Int32) ≤ n ∧ n ≤ 255) ↔ ¬ oob n 256 := in_oob (n := 256) (by omega) (by omega)
  rcases ix n 256 (by omega) with q | ⟨n, hn, rfl⟩
  · have hm : bt_WP P (d + 6) mi_M_feed [vr 35 0, vi n] (I, L) (kI fun y I2 L2 => (-1) = y ∧ G I2 L2) := by
      refine ru_M_feed (sm_in ?_)
      rw [bP_f (fun z => hin.mp z q)]; exact ⟨(fun z => absurd rfl z), fun _ => ⟨rfl, h0⟩⟩
    exact ru_B_feed ⟨fun _ => hm, fun h1 => ⟨fun h2 => absurd q (hin.mp ⟨Int32.not_lt.mp h1, h2⟩), fun _ => hm⟩⟩
  · have l120 : nI fd < 120 ↔ fd < 120 := nlt (b := 120) (by omega) (by omega)
    have e120 : nI fd = 120 ↔ fd = 120 := neq (b := 120) (by omega) (by omega)
    have hv : fd < 120 → vp_in (nI fd) 120 := fun z => ti_in z (by omega)
    have et : tn (nI fd) = fd := ti_tn (by omega)
    refine ru_B_feed ⟨fun z => absurd z (n_neg (by omega)), fun _ => ⟨fun _ => ru_La_take ?_, fun z => absurd (hin.mpr (n_oob hn (by omega))).2 z⟩⟩
    simp (disch := decide) only [ui_k, ui_same, a2, et, nI_s]
    refine ⟨fun q => ⟨hv (l120.mp q), ?_⟩, fun q => ?_⟩
    · have hlt := l120.mp q
      refine ru_M_feed (sm_in ?_)
      rw [bP_t (hin.mpr (n_oob hn (by omega)))]
      simp (disch := decide) only [ui_k, ui_same, a3, et, nI_s]
      refine ⟨fun _ => ⟨fun _ => ⟨hv hlt, trivial, ?_⟩, fun z => absurd (e120.mp z) (by omega)⟩, (fun z => absurd z (by decide))⟩
      refine h _ hlt ⟨by omega, ?_, ?_, fun j hj => ?_⟩ ?_ (fun a b c n1 n2 n3 n4 => ?_)
      · simp (disch := decide) only [ui_k, ui_same]
      · rw [ui_same]
      · by_cases e : j = fd
        · subst e
          simp (disch := decide) only [ui_k, ui_same]
          exact ⟨⟨n, hn, rfl⟩, byte_i _⟩
        · simp (disch := first | decide | assumption) only [ui_k, ui_j]
          exact a4 j (by omega)
      · simp (disch := decide) only [ui_k, ui_j]
      · rw [uj_ne (fun z => n4 ⟨z.1, z.2.2⟩), ui_k n2, uj_ne (fun z => n3 ⟨z.1, z.2.2⟩), ui_k n1]
    · refine ru_M_feed (sm_in ?_)
      rw [bP_t (hin.mpr (n_oob hn (by omega))), a3]
      exact ⟨fun _ => ⟨fun z => absurd (l120.mpr (by have h50 : ¬ fd = 120 := (fun w => z (e120.mpr w)); omega)) q, fun _ => ⟨rfl, h0⟩⟩, (fun z => absurd z (by decide))⟩
