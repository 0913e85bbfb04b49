/-! THE LAW'S LOOP -/
theorem nI_lo : ∀ x, x < 6 → nI x - 6 < 0 := by decide +kernel
theorem lw_loop {P : bt_PT} {d : Nat} {f : Int32 → m_I → m_L → Prop} (hn : bt_xn P ≤ 3072) (g : ∀ I L, f 1 I L) : ∀ (n i : Nat) (I : m_I) (L : m_L), bt_xn P - i < n → i ≤ 4000 → wQ P I L → bt_Go P (d + 60) mi_X_law (kI f) 18 [some (vr 103 0), some (vr 0 0), some (vr 35 0), some (vi (nI i))] [] (I, L)
  | 0, i, I, L, h, _, _ => absurd h (Nat.not_lt_zero _)
  | n + 1, i, I, L, h, hi4, hw => by
    refine ru_X_law_18 ⟨fun _ => ru_X_law_1293 ⟨o01, g I L⟩, fun z => ?_⟩
    have hi : i + 6 ≤ bt_xn P := by
      have z : ¬ nI (bt_xn P) - 6 < nI i := z
      by_cases q : bt_xn P < 6
      · exfalso
        apply z
        have h1 := nI_lo _ q
        have h2 : ¬ nI i < 0 := n_neg (by omega)
        rw [ti_lt, i_0] at h1 h2
        rw [ti_lt]; omega
      · have e : nI (bt_xn P) - 6 = nI (bt_xn P - 6) := pk_sub (b := 6) (by omega)
        rw [e, nlt (by omega) (by omega)] at z
        omega
    have hv : ∀ k, k < 6 → vp_in (nI i + nI k) (bt_xn P) := fun k hk => by
      rw [nI_add]; exact ti_in (by omega) (by omega)
    have v1 : vp_in (nI i + 1) (bt_xn P) := hv 1 (by omega)
    have v2 : vp_in (nI i + 2) (bt_xn P) := hv 2 (by omega)
    have v3 : vp_in (nI i + 3) (bt_xn P) := hv 3 (by omega)
    have v4 : vp_in (nI i + 4) (bt_xn P) := hv 4 (by omega)
    have v5 : vp_in (nI i + 5) (bt_xn P) := hv 5 (by omega)
    have IH : ∀ I' L', wQ P I' L' → GX P d f (nI i) I' L' := fun I' L' hw' => by
      have e : nI i + 6 = nI (i + 6) := nI_add i 6
      refine ru_X_law_1287 ?_
      rw [e]
      exact lw_loop hn g n (i + 6) I' L' (by omega) (by omega) hw'
    exact ⟨ti_in (by omega) (by omega), ⟨fun _ => cs_184 hw v1 IH, fun _ => ⟨fun _ => cs_207 hw v1 v2 v3 IH, fun _ => ⟨fun _ => cs_250 hw v1 IH, fun _ => ⟨fun _ => cs_273 hw v1 v2 v3 IH, fun _ => ⟨fun _ => cs_316 hw v1 v2 IH, fun _ => ⟨fun _ => cs_349 hw v1 IH, fun _ => ⟨fun _ => cs_372 hw  IH, fun _ => ⟨fun _ => cs_385 hw v1 v2 v3 IH, fun _ => ⟨fun _ => cs_428 hw v1 v2 IH, fun _ => ⟨fun _ => cs_461 hw v1 v2 IH, fun _ => ⟨fun _ => cs_494 hw v1 v2 v3 IH, fun _ => ⟨fun _ => cs_537 hw v1 v2 v3 IH, fun _ => ⟨fun _ => cs_580 hw v1 v2 IH, fun _ => ⟨fun _ => cs_613 hw v1 v2 IH, fun _ => ⟨fun _ => cs_646 hw v1 v2 IH, fun _ => ⟨fun _ => cs_679 hw v1 IH, fun _ => ⟨fun _ => cs_702 hw v1 v2 v3 IH, fun _ => ⟨fun _ => cs_745 hw v1 v2 IH, fun _ => ⟨fun _ => cs_778 hw v1 v2 IH, fun _ => ⟨fun _ => cs_811 hw v1 v2 IH, fun _ => ⟨fun _ => cs_844 hw  IH, fun _ => ⟨fun _ => cs_857 hw  IH, fun _ => ⟨fun _ => cs_870 hw  IH, fun _ => ⟨fun _ => cs_883 hw  IH, fun _ => ⟨fun _ => cs_896 hw v1 IH, fun _ => ⟨fun _ => cs_919 hw v1 v2 v3 IH, fun _ => ⟨fun _ => cs_962 hw v1 IH, fun _ => ⟨fun _ => cs_985 hw v1 v2 IH, fun _ => ⟨fun _ => cs_1018 hw v1 v2 v3 IH, fun _ => ⟨fun _ => cs_1061 hw v1 v2 v3 v4 IH, fun _ => ⟨fun _ => cs_1134 hw v1 v2 IH, fun _ => ⟨fun _ => cs_1168 hw v1 v2 v3 v4 v5 IH, fun _ => ⟨fun _ => cs_1231 hw v1 v2 IH, fun _ => ⟨fun _ => cs_1264 hw v1 IH, fun _ => IH _ _ hw⟩⟩⟩⟩⟩⟩⟩⟩⟩⟩⟩⟩⟩⟩⟩⟩⟩⟩⟩⟩⟩⟩⟩⟩⟩⟩⟩⟩⟩⟩⟩⟩⟩⟩⟩
