/-! THE ABSTRACT MACHINE IS SOUND, 5: every instruction; many; a contract from its body -/
theorem bt_beqT {a b : Nat} (h : Nat.beq a b = true) : a = b := Nat.eq_of_beq_eq_true h
theorem bt_and {a b : Bool} (h : (a && b) = true) : a = true ∧ b = true := by cases a <;> cases b <;> first | exact ⟨rfl, rfl⟩ | cases h
theorem bt_or {a b : Bool} (h : (a || b) = true) : a = true ∨ b = true := by cases a <;> cases b <;> first | exact Or.inl rfl | exact Or.inr rfl | cases h
theorem bt_le100 {k : Nat} (h : Nat.ble (k + 1) 100 = true) : k < 100 := Nat.le_of_ble_eq_true h
theorem bt_shpP {k t : Nat} (h : (bt_shp k).1 = t) : bt_shp k = (t, (bt_shp k).2) := by rw [← h]
theorem bt_isob_inv {v : av_T} {c : Nat} (h : bt_isob v c = true) : ∃ k i, v = vr k i ∧ k < 100 ∧ bt_shp k = (0, c) := by
  rcases v with x | x | (_ | q)
  · cases h
  · cases h
  · cases h
  · obtain ⟨h1, h2⟩ := bt_and h
    obtain ⟨h3, h4⟩ := bt_and h1
    refine ⟨q.1, q.2, rfl, bt_le100 h2, ?_⟩
    rw [← bt_beqT h3, ← bt_beqT h4]
theorem bt_bfalse {a b : Nat} (h : Nat.beq a b = false) : ¬ a = b := fun e => by
  subst e
  rw [Nat.beq_refl] at h
  cases h
theorem bt_blefalse {a b : Nat} (h : Nat.ble a b = false) : ¬ a ≤ b := fun e => by
  rw [Nat.ble_eq_true_of_le e] at h
  cases h
set_option maxHeartbeats 4000000 in
/-- one instruction -/
theorem bt_sound {P : bt_PT} {d : Nat} {mi : bt_MI} {K : Option av_T → st_T → Prop} {pc : Nat} {L : List (Option av_T)} {S : List av_T} {σ : st_T} {en : bt_E} {Nx : bt_NT} (hd : decode mi.2.1 pc = .ok (en.1, en.2.1)) (hck : bt_ck mi.2.2.1 pc en = true) (hl : bt_link mi.1.cls en)
    (h : bt_st P (bt_WP P d) K mi.2.2.2 en pc L S σ Nx) (hN : ∀ pc' L' S' σ', Nx pc' L' S' σ' → bt_Go P d mi K pc' L' S' σ') : bt_Go P d mi K pc L S σ := by
  obtain ⟨ins, len, ⟨an, bn⟩, ⟨zi, zl⟩, sw, cm⟩ := en
  cases ins with
  | iconst n =>
    simp only [bt_ck, Bool.and_eq_true, decide_eq_true_eq] at hck
    obtain ⟨h1, h2⟩ := hck
    subst h2
    exact bt_s_iconst hd h1 (hN _ _ _ _ h)
  | bipush n =>
    simp only [bt_ck, Bool.and_eq_true, decide_eq_true_eq] at hck
    obtain ⟨h1, h2⟩ := hck
    subst h2
    exact bt_s_bipush hd h1 (hN _ _ _ _ h)
  | sipush n =>
    simp only [bt_ck, Bool.and_eq_true, decide_eq_true_eq] at hck
    obtain ⟨h1, h2⟩ := hck
    subst h2
    exact bt_s_sipush hd h1 (hN _ _ _ _ h)
  | lconst n =>
    simp only [bt_ck, Bool.and_eq_true, decide_eq_true_eq] at hck
    obtain ⟨h1, h2⟩ := hck
    subst h2
    exact bt_s_lconst hd h1 (hN _ _ _ _ h)
  | ldc idx =>
    simp only [bt_ck, Bool.and_eq_true, decide_eq_true_eq] at hck
    subst hck
    exact bt_s_ldc hd hl (hN _ _ _ _ h)
  | ldc_w idx =>
    simp only [bt_ck, Bool.and_eq_true, decide_eq_true_eq] at hck
    subst hck
    exact bt_s_ldcw hd hl (hN _ _ _ _ h)
  | ldc2_w idx =>
    simp only [bt_ck, Bool.and_eq_true, decide_eq_true_eq] at hck
    subst hck
    exact bt_s_ldc2 hd hl (hN _ _ _ _ h)
  | aconst_null =>
    simp only [bt_ck, Bool.and_eq_true, decide_eq_true_eq] at hck
    subst hck
    exact bt_s_null hd (hN _ _ _ _ h)
  | iload i =>
    simp only [bt_ck, Bool.and_eq_true, decide_eq_true_eq] at hck
    dsimp only [bt_st] at h
    subst hck
    obtain ⟨x, h1, h2⟩ := bt_li_inv h
    exact bt_s_iload hd h1 (hN _ _ _ _ h2)
  | iload_n i =>
    simp only [bt_ck, Bool.and_eq_true, decide_eq_true_eq] at hck
    dsimp only [bt_st] at h
    subst hck
    obtain ⟨x, h1, h2⟩ := bt_li_inv h
    exact bt_s_iload_n hd h1 (hN _ _ _ _ h2)
  | lload i =>
    simp only [bt_ck, Bool.and_eq_true, decide_eq_true_eq] at hck
    dsimp only [bt_st] at h
    subst hck
    obtain ⟨x, h1, h2⟩ := bt_ll_inv h
    exact bt_s_lload hd h1 (hN _ _ _ _ h2)
  | lload_n i =>
    simp only [bt_ck, Bool.and_eq_true, decide_eq_true_eq] at hck
    dsimp only [bt_st] at h
    subst hck
    obtain ⟨x, h1, h2⟩ := bt_ll_inv h
    exact bt_s_lload_n hd h1 (hN _ _ _ _ h2)
  | aload i =>
    simp only [bt_ck, Bool.and_eq_true, decide_eq_true_eq] at hck
    dsimp only [bt_st] at h
    subst hck
    obtain ⟨x, h1, h2⟩ := bt_la_inv h
    exact bt_s_aload hd h1 (hN _ _ _ _ h2)
  | aload_n i =>
    simp only [bt_ck, Bool.and_eq_true, decide_eq_true_eq] at hck
    dsimp only [bt_st] at h
    subst hck
    obtain ⟨x, h1, h2⟩ := bt_la_inv h
    exact bt_s_aload_n hd h1 (hN _ _ _ _ h2)
  | istore i =>
    simp only [bt_ck, Bool.and_eq_true, decide_eq_true_eq] at hck
    dsimp only [bt_st] at h
    obtain ⟨h1, h2⟩ := hck
    subst h2
    obtain ⟨x, r, rfl, h3, h4⟩ := bt_si_inv h
    exact bt_s_istore hd h1 h3 (hN _ _ _ _ h4)
  | istore_n i =>
    simp only [bt_ck, Bool.and_eq_true, decide_eq_true_eq] at hck
    dsimp only [bt_st] at h
    obtain ⟨h1, h2⟩ := hck
    subst h2
    obtain ⟨x, r, rfl, h3, h4⟩ := bt_si_inv h
    exact bt_s_istore_n hd h1 h3 (hN _ _ _ _ h4)
  | lstore i =>
    simp only [bt_ck, Bool.and_eq_true, decide_eq_true_eq] at hck
    dsimp only [bt_st] at h
    obtain ⟨h1, h2⟩ := hck
    subst h2
    obtain ⟨x, r, rfl, h3, h4⟩ := bt_sl_inv h
    exact bt_s_lstore hd h1 h3 (hN _ _ _ _ h4)
  | lstore_n i =>
    simp only [bt_ck, Bool.and_eq_true, decide_eq_true_eq] at hck
    dsimp only [bt_st] at h
    obtain ⟨h1, h2⟩ := hck
    subst h2
    obtain ⟨x, r, rfl, h3, h4⟩ := bt_sl_inv h
    exact bt_s_lstore_n hd h1 h3 (hN _ _ _ _ h4)
  | astore i =>
    simp only [bt_ck, Bool.and_eq_true, decide_eq_true_eq] at hck
    dsimp only [bt_st] at h
    obtain ⟨h1, h2⟩ := hck
    subst h2
    obtain ⟨x, r, rfl, h3, h4⟩ := bt_sa_inv h
    exact bt_s_astore hd h1 h3 (hN _ _ _ _ h4)
  | astore_n i =>
    simp only [bt_ck, Bool.and_eq_true, decide_eq_true_eq] at hck
    dsimp only [bt_st] at h
    obtain ⟨h1, h2⟩ := hck
    subst h2
    obtain ⟨x, r, rfl, h3, h4⟩ := bt_sa_inv h
    exact bt_s_astore_n hd h1 h3 (hN _ _ _ _ h4)
  | iinc i n =>
    simp only [bt_ck, Bool.and_eq_true, decide_eq_true_eq] at hck
    dsimp only [bt_st] at h
    obtain ⟨⟨h1, h2⟩, h3⟩ := hck
    subst h3
    obtain ⟨x, h4, h5⟩ := bt_li_inv h
    obtain ⟨h6, h7⟩ := bt_if_inv h5
    exact bt_s_iinc hd h1 h2 h4 (bt_not_inv h6) (hN _ _ _ _ h7)
  | iadd =>
    simp only [bt_ck, Bool.and_eq_true, decide_eq_true_eq] at hck
    dsimp only [bt_st] at h
    subst hck
    obtain ⟨x, y, r, rfl, h1⟩ := bt_u2_inv h
    exact bt_s_iadd hd (hN _ _ _ _ h1)
  | isub =>
    simp only [bt_ck, Bool.and_eq_true, decide_eq_true_eq] at hck
    dsimp only [bt_st] at h
    subst hck
    obtain ⟨x, y, r, rfl, h1⟩ := bt_u2_inv h
    exact bt_s_isub hd (hN _ _ _ _ h1)
  | imul =>
    simp only [bt_ck, Bool.and_eq_true, decide_eq_true_eq] at hck
    dsimp only [bt_st] at h
    subst hck
    obtain ⟨x, y, r, rfl, h1⟩ := bt_u2_inv h
    exact bt_s_imul hd (hN _ _ _ _ h1)
  | iand =>
    simp only [bt_ck, Bool.and_eq_true, decide_eq_true_eq] at hck
    dsimp only [bt_st] at h
    subst hck
    obtain ⟨x, y, r, rfl, h1⟩ := bt_u2_inv h
    exact bt_s_iand hd (hN _ _ _ _ h1)
  | ior =>
    simp only [bt_ck, Bool.and_eq_true, decide_eq_true_eq] at hck
    dsimp only [bt_st] at h
    subst hck
    obtain ⟨x, y, r, rfl, h1⟩ := bt_u2_inv h
    exact bt_s_ior hd (hN _ _ _ _ h1)
  | ixor =>
    simp only [bt_ck, Bool.and_eq_true, decide_eq_true_eq] at hck
    dsimp only [bt_st] at h
    subst hck
    obtain ⟨x, y, r, rfl, h1⟩ := bt_u2_inv h
    exact bt_s_ixor hd (hN _ _ _ _ h1)
  | ishl =>
    simp only [bt_ck, Bool.and_eq_true, decide_eq_true_eq] at hck
    dsimp only [bt_st] at h
    subst hck
    obtain ⟨x, y, r, rfl, h1⟩ := bt_u2_inv h
    exact bt_s_ishl hd (hN _ _ _ _ h1)
  | ishr =>
    simp only [bt_ck, Bool.and_eq_true, decide_eq_true_eq] at hck
    dsimp only [bt_st] at h
    subst hck
    obtain ⟨x, y, r, rfl, h1⟩ := bt_u2_inv h
    exact bt_s_ishr hd (hN _ _ _ _ h1)
  | iushr =>
    simp only [bt_ck, Bool.and_eq_true, decide_eq_true_eq] at hck
    dsimp only [bt_st] at h
    subst hck
    obtain ⟨x, y, r, rfl, h1⟩ := bt_u2_inv h
    exact bt_s_iushr hd (hN _ _ _ _ h1)
  | idiv =>
    simp only [bt_ck, Bool.and_eq_true, decide_eq_true_eq] at hck
    dsimp only [bt_st] at h
    subst hck
    obtain ⟨x, y, r, rfl, h1⟩ := bt_u2_inv h
    exact bt_s_idiv hd h1.1 (hN _ _ _ _ h1.2)
  | irem =>
    simp only [bt_ck, Bool.and_eq_true, decide_eq_true_eq] at hck
    dsimp only [bt_st] at h
    subst hck
    obtain ⟨x, y, r, rfl, h1⟩ := bt_u2_inv h
    exact bt_s_irem hd h1.1 (hN _ _ _ _ h1.2)
  | ladd =>
    simp only [bt_ck, Bool.and_eq_true, decide_eq_true_eq] at hck
    dsimp only [bt_st] at h
    subst hck
    obtain ⟨x, y, r, rfl, h1⟩ := bt_uLL_inv h
    exact bt_s_ladd hd (hN _ _ _ _ h1)
  | land =>
    simp only [bt_ck, Bool.and_eq_true, decide_eq_true_eq] at hck
    dsimp only [bt_st] at h
    subst hck
    obtain ⟨x, y, r, rfl, h1⟩ := bt_uLL_inv h
    exact bt_s_land hd (hN _ _ _ _ h1)
  | lor =>
    simp only [bt_ck, Bool.and_eq_true, decide_eq_true_eq] at hck
    dsimp only [bt_st] at h
    subst hck
    obtain ⟨x, y, r, rfl, h1⟩ := bt_uLL_inv h
    exact bt_s_lor hd (hN _ _ _ _ h1)
  | lcmp =>
    simp only [bt_ck, Bool.and_eq_true, decide_eq_true_eq] at hck
    dsimp only [bt_st] at h
    subst hck
    obtain ⟨x, y, r, rfl, h1⟩ := bt_uLL_inv h
    exact bt_s_lcmp hd (hN _ _ _ _ h1)
  | lshl =>
    simp only [bt_ck, Bool.and_eq_true, decide_eq_true_eq] at hck
    dsimp only [bt_st] at h
    subst hck
    obtain ⟨x, y, r, rfl, h1⟩ := bt_uLI_inv h
    exact bt_s_lshl hd (hN _ _ _ _ h1)
  | ineg =>
    simp only [bt_ck, Bool.and_eq_true, decide_eq_true_eq] at hck
    dsimp only [bt_st] at h
    subst hck
    obtain ⟨x, r, rfl, h1⟩ := bt_u1_inv h
    exact bt_s_ineg hd (hN _ _ _ _ h1)
  | i2l =>
    simp only [bt_ck, Bool.and_eq_true, decide_eq_true_eq] at hck
    dsimp only [bt_st] at h
    subst hck
    obtain ⟨x, r, rfl, h1⟩ := bt_u1_inv h
    exact bt_s_i2l hd (hN _ _ _ _ h1)
  | i2b =>
    simp only [bt_ck, Bool.and_eq_true, decide_eq_true_eq] at hck
    dsimp only [bt_st] at h
    subst hck
    obtain ⟨x, r, rfl, h1⟩ := bt_u1_inv h
    exact bt_s_i2b hd (hN _ _ _ _ h1)
  | i2s =>
    simp only [bt_ck, Bool.and_eq_true, decide_eq_true_eq] at hck
    dsimp only [bt_st] at h
    subst hck
    obtain ⟨x, r, rfl, h1⟩ := bt_u1_inv h
    exact bt_s_i2s hd (hN _ _ _ _ h1)
  | l2i =>
    simp only [bt_ck, Bool.and_eq_true, decide_eq_true_eq] at hck
    dsimp only [bt_st] at h
    subst hck
    obtain ⟨x, r, rfl, h1⟩ := bt_uL_inv h
    exact bt_s_l2i hd (hN _ _ _ _ h1)
  | dup =>
    simp only [bt_ck, Bool.and_eq_true, decide_eq_true_eq] at hck
    dsimp only [bt_st] at h
    subst hck
    cases S with
    | nil => exact h.elim
    | cons v r =>
      obtain ⟨h1, h2⟩ := bt_if_inv h
      exact bt_s_dup hd (bt_beqT h1) (hN _ _ _ _ h2)
  | dup2 =>
    simp only [bt_ck, Bool.and_eq_true, decide_eq_true_eq] at hck
    dsimp only [bt_st] at h
    subst hck
    rcases S with _ | ⟨v, _ | ⟨w, r⟩⟩
    · exact h.elim
    · exact h.elim
    · obtain ⟨h1, h2⟩ := bt_if_inv h
      exact bt_s_dup2 hd (bt_beqT (bt_and h1).1) (bt_beqT (bt_and h1).2) (hN _ _ _ _ h2)
  | pop =>
    simp only [bt_ck, Bool.and_eq_true, decide_eq_true_eq] at hck
    dsimp only [bt_st] at h
    subst hck
    cases S with
    | nil => exact h.elim
    | cons v r =>
      obtain ⟨h1, h2⟩ := bt_if_inv h
      exact bt_s_pop hd (bt_beqT h1) (hN _ _ _ _ h2)
  | goto off =>
    simp only [bt_ck, Bool.and_eq_true, decide_eq_true_eq] at hck
    obtain ⟨h1, h2⟩ := hck
    subst h2
    exact bt_s_goto hd h1 (hN _ _ _ _ h)
  | ifCond cc off =>
    simp only [bt_ck, Bool.and_eq_true, decide_eq_true_eq] at hck
    dsimp only [bt_st] at h
    obtain ⟨h1, h2⟩ := hck
    subst h2
    cases cc
    · obtain ⟨x, r, rfl, h3, h4⟩ := bt_u1_inv h
      exact bt_s_if_eq hd h1 (fun z => hN _ _ _ _ (h3 z)) (fun z => hN _ _ _ _ (h4 z))
    · obtain ⟨x, r, rfl, h3, h4⟩ := bt_u1_inv h
      exact bt_s_if_ne hd h1 (fun z => hN _ _ _ _ (h3 z)) (fun z => hN _ _ _ _ (h4 z))
    · obtain ⟨x, r, rfl, h3, h4⟩ := bt_u1_inv h
      exact bt_s_if_lt hd h1 (fun z => hN _ _ _ _ (h3 z)) (fun z => hN _ _ _ _ (h4 z))
    · obtain ⟨x, r, rfl, h3, h4⟩ := bt_u1_inv h
      exact bt_s_if_ge hd h1 (fun z => hN _ _ _ _ (h3 z)) (fun z => hN _ _ _ _ (h4 z))
    · obtain ⟨x, r, rfl, h3, h4⟩ := bt_u1_inv h
      exact bt_s_if_gt hd h1 (fun z => hN _ _ _ _ (h3 z)) (fun z => hN _ _ _ _ (h4 z))
    · obtain ⟨x, r, rfl, h3, h4⟩ := bt_u1_inv h
      exact bt_s_if_le hd h1 (fun z => hN _ _ _ _ (h3 z)) (fun z => hN _ _ _ _ (h4 z))
  | if_icmp cc off =>
    simp only [bt_ck, Bool.and_eq_true, decide_eq_true_eq] at hck
    dsimp only [bt_st] at h
    obtain ⟨h1, h2⟩ := hck
    subst h2
    cases cc
    · obtain ⟨x, y, r, rfl, h3, h4⟩ := bt_u2_inv h
      exact bt_s_icmp_eq hd h1 (fun z => hN _ _ _ _ (h3 z)) (fun z => hN _ _ _ _ (h4 z))
    · obtain ⟨x, y, r, rfl, h3, h4⟩ := bt_u2_inv h
      exact bt_s_icmp_ne hd h1 (fun z => hN _ _ _ _ (h3 z)) (fun z => hN _ _ _ _ (h4 z))
    · obtain ⟨x, y, r, rfl, h3, h4⟩ := bt_u2_inv h
      exact bt_s_icmp_lt hd h1 (fun z => hN _ _ _ _ (h3 z)) (fun z => hN _ _ _ _ (h4 z))
    · obtain ⟨x, y, r, rfl, h3, h4⟩ := bt_u2_inv h
      exact bt_s_icmp_ge hd h1 (fun z => hN _ _ _ _ (h3 z)) (fun z => hN _ _ _ _ (h4 z))
    · obtain ⟨x, y, r, rfl, h3, h4⟩ := bt_u2_inv h
      exact bt_s_icmp_gt hd h1 (fun z => hN _ _ _ _ (h3 z)) (fun z => hN _ _ _ _ (h4 z))
    · obtain ⟨x, y, r, rfl, h3, h4⟩ := bt_u2_inv h
      exact bt_s_icmp_le hd h1 (fun z => hN _ _ _ _ (h3 z)) (fun z => hN _ _ _ _ (h4 z))
  | ifnull off =>
    simp only [bt_ck, Bool.and_eq_true, decide_eq_true_eq] at hck
    dsimp only [bt_st] at h
    obtain ⟨h1, h2⟩ := hck
    subst h2
    obtain ⟨x, r, rfl, h3, h4⟩ := bt_uA_inv h
    exact bt_s_ifnull hd h1 (fun z => hN _ _ _ _ (h3 z)) (fun z => hN _ _ _ _ (h4 z))
  | ifnonnull off =>
    simp only [bt_ck, Bool.and_eq_true, decide_eq_true_eq] at hck
    dsimp only [bt_st] at h
    obtain ⟨h1, h2⟩ := hck
    subst h2
    obtain ⟨x, r, rfl, h3, h4⟩ := bt_uA_inv h
    exact bt_s_ifnonnull hd h1 (fun z => hN _ _ _ _ (h3 z)) (fun z => hN _ _ _ _ (h4 z))
  | tableswitch dv lo hi offs =>
    dsimp only [bt_st] at h
    obtain ⟨x, r, rfl, h1⟩ := bt_u1_inv h
    exact bt_s_table hd hck (fun t ht => hN _ _ _ _ ht) h1
  | lookupswitch dv ps =>
    dsimp only [bt_st] at h
    obtain ⟨x, r, rfl, h1⟩ := bt_u1_inv h
    exact bt_s_look hd hck (fun t ht => hN _ _ _ _ ht) h1
  | getfield idx =>
    simp only [bt_ck, Bool.and_eq_true, decide_eq_true_eq] at hck
    dsimp only [bt_st] at h
    subst hck
    obtain ⟨k, i, r, rfl, h1⟩ := bt_uO_inv h
    obtain ⟨h2, h3⟩ := bt_tag_inv h1
    obtain ⟨h4, h5⟩ := bt_if_inv h3
    obtain ⟨h6, h7⟩ := bt_and h4
    obtain ⟨h8, h9⟩ := bt_and h6
    have hk := bt_le100 h8
    have hc : (bt_shp k).2 = an := bt_beqT h9
    have hs : bt_shp k = (0, an) := by rw [← hc, ← h2]
    have hj : bn < bt_nf an := by rw [← hc]; exact Nat.le_of_ble_eq_true h7
    rw [hc] at h5
    refine bt_s_getfield hd hl hk hs hj (fun z => ?_) (fun z => ?_)
    · rcases bt_ife_inv h5 with ⟨-, q⟩ | ⟨q1, -⟩
      · exact hN _ _ _ _ q
      · exact absurd z (bt_bfalse q1)
    · rcases bt_ife_inv h5 with ⟨q1, -⟩ | ⟨-, q⟩
      · exact absurd (bt_beqT q1) z
      · exact hN _ _ _ _ q
  | putfield idx =>
    simp only [bt_ck, Bool.and_eq_true, decide_eq_true_eq] at hck
    dsimp only [bt_st] at h
    subst hck
    rcases S with _ | ⟨v, _ | ⟨w, r⟩⟩
    · exact h.elim
    · rcases v with x | x | (_ | x) <;> exact h.elim
    rcases v with x | x | (_ | x)
    rotate_left
    · exact h.elim
    · exact h.elim
    · exact h.elim
    rcases w with y | y | (_ | q)
    · exact h.elim
    · exact h.elim
    · exact h.elim
    obtain ⟨k, i⟩ := q
    obtain ⟨h2, h3⟩ := bt_tag_inv h
    obtain ⟨h4, h5⟩ := bt_if_inv h3
    obtain ⟨h6, h7⟩ := bt_and h4
    obtain ⟨h8, h9⟩ := bt_and h6
    have hk := bt_le100 h8
    have hc : (bt_shp k).2 = an := bt_beqT h9
    have hs : bt_shp k = (0, an) := by rw [← hc, ← h2]
    have hj : bn < bt_nf an := by rw [← hc]; exact Nat.le_of_ble_eq_true h7
    dsimp only at h5
    rw [hc] at h5
    rcases bt_ife_inv h5 with ⟨q1, q2⟩ | ⟨-, q⟩
    · exact bt_s_putfield hd hl hk hs hj (Or.inl (bt_beqT q1)) (hN _ _ _ _ q2)
    · obtain ⟨q1, q2, q3⟩ := bt_if_inv q
      exact bt_s_putfield hd hl hk hs hj (Or.inr ⟨bt_beqT q1, q2⟩) (hN _ _ _ _ q3)
  | getstatic idx =>
    simp only [bt_ck, Bool.and_eq_true, decide_eq_true_eq] at hck
    subst hck
    exact bt_s_getstatic hd hl (hN _ _ _ _ h)
  | arraylength =>
    simp only [bt_ck, Bool.and_eq_true, decide_eq_true_eq] at hck
    dsimp only [bt_st] at h
    subst hck
    obtain ⟨k, i, r, rfl, h1⟩ := bt_uO_inv h
    rcases bt_ife_inv h1 with ⟨q1, q2⟩ | ⟨q1, q2⟩
    · exact bt_s_alen_st hd (Nat.not_lt.mpr (Nat.le_of_ble_eq_true q1)) (hN _ _ _ _ q2)
    · obtain ⟨q3, q4⟩ := bt_if_inv q2
      exact bt_s_alen hd (Nat.not_le.mp (bt_blefalse q1)) (bt_bfalse (bt_not_inv q3)) (hN _ _ _ _ q4)
  | iaload =>
    simp only [bt_ck, Bool.and_eq_true, decide_eq_true_eq] at hck
    dsimp only [bt_st] at h
    subst hck
    obtain ⟨k, i, j, r, rfl, h1⟩ := bt_uAr_inv h
    rcases bt_ife_inv h1 with ⟨q1, q2, q3⟩ | ⟨q1, q2⟩
    · exact bt_s_iald_st hd (Nat.not_lt.mpr (Nat.le_of_ble_eq_true q1)) q2 (hN _ _ _ _ q3)
    · obtain ⟨q3, q4, q5⟩ := bt_tag_inv q2
      exact bt_s_iaload hd (Nat.not_le.mp (bt_blefalse q1)) (bt_shpP q3) q4 (hN _ _ _ _ q5)
  | laload =>
    simp only [bt_ck, Bool.and_eq_true, decide_eq_true_eq] at hck
    dsimp only [bt_st] at h
    subst hck
    obtain ⟨k, i, j, r, rfl, h1⟩ := bt_uAr_inv h
    obtain ⟨q1, q2⟩ := bt_if_inv h1
    obtain ⟨q3, q4, q5⟩ := bt_tag_inv q2
    exact bt_s_laload hd (bt_le100 q1) (bt_shpP q3) q4 (hN _ _ _ _ q5)
  | baload =>
    simp only [bt_ck, Bool.and_eq_true, decide_eq_true_eq] at hck
    dsimp only [bt_st] at h
    subst hck
    obtain ⟨k, i, j, r, rfl, h1⟩ := bt_uAr_inv h
    obtain ⟨q1, q2⟩ := bt_if_inv h1
    obtain ⟨q3, q4, q5⟩ := bt_tag_inv q2
    exact bt_s_baload hd (bt_le100 q1) (bt_shpP q3) q4 (hN _ _ _ _ q5)
  | saload =>
    simp only [bt_ck, Bool.and_eq_true, decide_eq_true_eq] at hck
    dsimp only [bt_st] at h
    subst hck
    obtain ⟨k, i, j, r, rfl, h1⟩ := bt_uAr_inv h
    obtain ⟨q1, q2⟩ := bt_if_inv h1
    obtain ⟨q3, q4, q5⟩ := bt_tag_inv q2
    exact bt_s_saload hd (bt_le100 q1) (bt_shpP q3) q4 (hN _ _ _ _ q5)
  | aaload =>
    simp only [bt_ck, Bool.and_eq_true, decide_eq_true_eq] at hck
    dsimp only [bt_st] at h
    subst hck
    obtain ⟨k, i, j, r, rfl, h1⟩ := bt_uAr_inv h
    obtain ⟨q1, q2, q3⟩ := bt_if_inv h1
    obtain ⟨q4, q5⟩ := bt_and q1
    exact bt_s_aaload hd (bt_le100 q4) ((bt_or q5).imp bt_beqT bt_beqT) q2 (hN _ _ _ _ q3)
  | iastore =>
    simp only [bt_ck, Bool.and_eq_true, decide_eq_true_eq] at hck
    dsimp only [bt_st] at h
    subst hck
    obtain ⟨k, i, j, v, r, rfl, h1⟩ := bt_uAsI_inv h
    obtain ⟨q1, q2⟩ := bt_if_inv h1
    obtain ⟨q3, q4, q5⟩ := bt_tag_inv q2
    exact bt_s_iastore hd (bt_le100 q1) (bt_shpP q3) q4 (hN _ _ _ _ q5)
  | bastore =>
    simp only [bt_ck, Bool.and_eq_true, decide_eq_true_eq] at hck
    dsimp only [bt_st] at h
    subst hck
    obtain ⟨k, i, j, v, r, rfl, h1⟩ := bt_uAsI_inv h
    obtain ⟨q1, q2⟩ := bt_if_inv h1
    obtain ⟨q3, q4, q5⟩ := bt_tag_inv q2
    exact bt_s_bastore hd (bt_le100 q1) (bt_shpP q3) q4 (hN _ _ _ _ q5)
  | sastore =>
    simp only [bt_ck, Bool.and_eq_true, decide_eq_true_eq] at hck
    dsimp only [bt_st] at h
    subst hck
    obtain ⟨k, i, j, v, r, rfl, h1⟩ := bt_uAsI_inv h
    obtain ⟨q1, q2⟩ := bt_if_inv h1
    obtain ⟨q3, q4, q5⟩ := bt_tag_inv q2
    exact bt_s_sastore hd (bt_le100 q1) (bt_shpP q3) q4 (hN _ _ _ _ q5)
  | lastore =>
    simp only [bt_ck, Bool.and_eq_true, decide_eq_true_eq] at hck
    dsimp only [bt_st] at h
    subst hck
    obtain ⟨k, i, j, v, r, rfl, h1⟩ := bt_uAsL_inv h
    obtain ⟨q1, q2⟩ := bt_if_inv h1
    obtain ⟨q3, q4, q5⟩ := bt_tag_inv q2
    exact bt_s_lastore hd (bt_le100 q1) (bt_shpP q3) q4 (hN _ _ _ _ q5)
  | invokevirtual idx =>
    simp only [bt_ck, Bool.and_eq_true, decide_eq_true_eq] at hck
    dsimp only [bt_st] at h
    subst hck
    obtain ⟨h1, h2⟩ := bt_if_inv h
    obtain ⟨top, r, rfl, h3, h4⟩ := bt_args_inv _ _ _ _ h2
    rw [List.append_nil] at h4
    obtain ⟨h5, h6⟩ := bt_if_inv h4
    obtain ⟨h7, h8⟩ := bt_and h5
    have hb : ¬ bn = 100 := fun e => by
      have h0 : bn < 100 := bt_le100 h1
      omega
    rcases bt_or h8 with h9 | h9
    · exact absurd (bt_beqT h9) hb
    have hrev : top = (top.reverse).reverse := (List.reverse_reverse top).symm
    generalize top.reverse = as at hrev h6 h9
    subst hrev
    cases as with
    | nil => cases h9
    | cons v as =>
      obtain ⟨k, i, rfl, h10, h11⟩ := bt_isob_inv h9
      have hlen : (vr k i :: as).length = an := by rw [← List.length_reverse]; exact h3
      exact bt_s_callV hd hl hlen (Nat.le_of_ble_eq_true h7) h10 h11 h6 (fun v σ' hNx _ => hN _ _ _ _ hNx)
  | invokestatic idx =>
    simp only [bt_ck, Bool.and_eq_true, decide_eq_true_eq] at hck
    dsimp only [bt_st] at h
    subst hck
    rcases bt_ife_inv h with ⟨q1, q2⟩ | ⟨q1, q2⟩
    · have hlc := hl.2.1 (bt_beqT q1)
      unfold bt_cpy at q2
      split at q2
      · next n dp qd sp qs r =>
        obtain ⟨kd, id⟩ := qd
        obtain ⟨ks, is⟩ := qs
        obtain ⟨g1, g2⟩ := bt_if_inv q2
        obtain ⟨g3, g4⟩ := bt_and g1
        obtain ⟨g5, g6⟩ := bt_and g3
        rcases bt_ife_inv g2 with ⟨f1, ⟨f2, f3, f4, f5, f6⟩, f7⟩ | ⟨-, f1⟩
        · exact bt_s_cpyi hd hlc (bt_le100 g5) (bt_le100 g6) (bt_shpP (bt_beqT (bt_and f1).1)) (bt_shpP (bt_beqT (bt_and f1).2)) (Nat.le_of_ble_eq_true g4) f2 f3 f4 f5 f6 (hN _ _ _ _ f7)
        · obtain ⟨e1, ⟨f2, f3, f4, f5, f6⟩, f7⟩ := bt_if_inv f1
          exact bt_s_cpyl hd hlc (bt_le100 g5) (bt_le100 g6) (bt_shpP (bt_beqT (bt_and e1).1)) (bt_shpP (bt_beqT (bt_and e1).2)) (Nat.le_of_ble_eq_true g4) f2 f3 f4 f5 f6 (hN _ _ _ _ f7)
      · exact q2.elim
    rcases bt_ife_inv q2 with ⟨q1, q2⟩ | ⟨-, q2⟩
    · obtain ⟨x, y, r, rfl, h1⟩ := bt_u2_inv q2
      obtain ⟨h2, h3⟩ := bt_if_inv h1
      exact bt_s_max hd (hl.2.2.1 (bt_beqT q1)) (Nat.le_of_ble_eq_true h2) (hN _ _ _ _ h3)
    rcases bt_ife_inv q2 with ⟨q1, q2⟩ | ⟨-, q2⟩
    · obtain ⟨x, y, r, rfl, h1⟩ := bt_u2_inv q2
      obtain ⟨h2, h3⟩ := bt_if_inv h1
      exact bt_s_min hd (hl.2.2.2 (bt_beqT q1)) (Nat.le_of_ble_eq_true h2) (hN _ _ _ _ h3)
    · obtain ⟨g1, g2⟩ := bt_if_inv q2
      have hls := hl.1 (bt_beqT g1)
      obtain ⟨top, r, rfl, h3, h4⟩ := bt_args_inv _ _ _ _ g2
      rw [List.append_nil] at h4
      obtain ⟨h5, h6⟩ := bt_if_inv h4
      obtain ⟨h7, h8⟩ := bt_and h5
      have hrev : top = (top.reverse).reverse := (List.reverse_reverse top).symm
      generalize top.reverse = as at hrev h6
      subst hrev
      have hlen : as.length = an := by rw [← List.length_reverse]; exact h3
      exact bt_s_callS hd hls hlen (Nat.le_of_ble_eq_true h7) h6 (fun v σ' hNx _ => hN _ _ _ _ hNx)
  | ireturn =>
    simp only [bt_ck, Bool.and_eq_true, decide_eq_true_eq] at hck
    subst hck
    rcases S with _ | ⟨v, _ | ⟨w, r⟩⟩
    · exact h.elim
    rcases v with x | x | x
    · have hret : ∃ ty, mi.2.2.2 = some ty := by
        cases e : mi.2.2.2 with
        | none => simp only [bt_st, e] at h
        | some ty => exact ⟨ty, rfl⟩
      obtain ⟨ty, hty⟩ := hret
      simp only [bt_st, hty] at h
      cases ty <;> first | exact h.elim | exact bt_s_ret (v := some (vi x)) hd (Or.inl hty) h | exact bt_s_ret (v := some (vi x)) hd (Or.inr ⟨hty, h.1⟩) h.2
    · exact h.elim
    · exact h.elim
    · rcases v with x | x | x <;> exact h.elim
  | lreturn =>
    simp only [bt_ck, Bool.and_eq_true, decide_eq_true_eq] at hck
    subst hck
    simp only [bt_st] at h
    split at h
    · next x hty => exact bt_s_ret (v := some (vl x)) hd (by assumption) h
    · exact h.elim
  | areturn =>
    simp only [bt_ck, Bool.and_eq_true, decide_eq_true_eq] at hck
    subst hck
    simp only [bt_st] at h
    split at h
    · next x n hty => exact bt_s_ret (v := some (.inr (.inr x))) hd ⟨n, by assumption⟩ h
    · exact h.elim
  | return_ =>
    simp only [bt_ck, Bool.and_eq_true, decide_eq_true_eq] at hck
    subst hck
    simp only [bt_st] at h
    split at h
    · next hty => exact bt_s_ret (v := none) hd (by assumption) h
    · exact h.elim
  | _ => exact h.elim
theorem bt_dec_suf {bytes : ByteArray} {maxL : Nat} : ∀ (T : List bt_E) (c t : Nat), bt_dec bytes maxL c T = true → bt_dec bytes maxL t (bt_suf T c t) = true
  | [], c, t, h => rfl
  | en :: r, c, t, h => by
    unfold bt_suf
    cases hb : Nat.beq c t with
    | true =>
      rw [← bt_beqT hb]
      exact h
    | false =>
      have h2 : bt_dec bytes maxL (c + en.2.1) r = true := (bt_and h).2
      exact bt_dec_suf r _ t h2
theorem bt_links_suf {own : String} : ∀ (T : List bt_E) (c t : Nat), bt_links own T → bt_links own (bt_suf T c t)
  | [], c, t, h => trivial
  | en :: r, c, t, h => by
    unfold bt_suf
    cases hb : Nat.beq c t with
    | true => exact h
    | false => exact bt_links_suf r _ t h.2
/-- a code table is a method's own -/
def bt_T (mi : bt_MI) (T : List bt_E) : Prop := bt_dec mi.2.1 mi.2.2.1 0 T = true ∧ bt_links mi.1.cls T
theorem bt_mask_nth : ∀ (m : List Nat) (L : List (Option av_T)) (i : Nat) (v : av_T), bt_nth none (bt_mask m L) i = some v → bt_nth none L i = some v
  | [], L, i, v, h => by cases i <;> cases h
  | _ :: _, [], i, v, h => by cases i <;> cases h
  | 0 :: m, a :: r, i, v, h => by
    cases i with
    | zero => cases h
    | succ i => exact bt_mask_nth m r i v h
  | (_ + 1) :: m, a :: r, i, v, h => by
    cases i with
    | zero => exact h
    | succ i => exact bt_mask_nth m r i v h
theorem bt_pad_nth : ∀ (n : Nat) (L : List (Option av_T)) (i : Nat) (v : av_T), bt_nth none (bt_pad n L) i = some v → bt_nth none L i = some v
  | 0, L, i, v, h => by cases i <;> cases h
  | n + 1, [], i, v, h => by
    cases i with
    | zero => cases h
    | succ i =>
      have h1 := bt_pad_nth n [] i v h
      cases i <;> cases h1
  | n + 1, a :: r, i, v, h => by
    cases i with
    | zero => exact h
    | succ i => exact bt_pad_nth n r i v h
/-- fewer locals are known -/
theorem bt_weak {P : bt_PT} {d : Nat} {mi : bt_MI} {K : Option av_T → st_T → Prop} {pc : Nat} {L L' : List (Option av_T)} {S : List av_T} {σ : st_T} (hL : ∀ i v, bt_nth none L' i = some v → bt_nth none L i = some v) (h : bt_Go P d mi K pc L' S σ) : bt_Go P d mi K pc L S σ := by
  intro p e R s m args below meth c cells slots Q hC H locs ls hD
  exact h p e R s m args below meth c cells slots Q hC H locs ls ⟨⟨hD.1.1, hD.1.2.1, fun i v hi => hD.1.2.2 i v (hL i v hi)⟩, hD.2.1, fun i v hi => hD.2.2.1 i v (hL i v hi), hD.2.2.2⟩
theorem bt_ex_sound {P : bt_PT} {d : Nat} {mi : bt_MI} {K : Option av_T → st_T → Prop} {T : List bt_E} (hT : bt_T mi T) (cuts : List (Nat × List Nat)) : ∀ (f pc : Nat) (rest : List bt_E) (L : List (Option av_T)) (S : List av_T) (σ : st_T), bt_dec mi.2.1 mi.2.2.1 pc rest = true → bt_links mi.1.cls rest → bt_ex P (bt_WP P d) (bt_Go P d mi K) K mi.2.2.2 T cuts f pc rest L S σ → bt_Go P d mi K pc L S σ
  | 0, pc, rest, L, S, σ, _, _, h => h
  | f + 1, pc, [], L, S, σ, _, _, h => h.elim
  | f + 1, pc, en :: rest, L, S, σ, hd, hl, h => by
    obtain ⟨h1, h2⟩ := bt_and hd
    obtain ⟨h3, h4⟩ := bt_and h1
    refine bt_sound (of_decide_eq_true h3) h4 hl.1 h (fun pc' L' S' σ' hN => ?_)
    cases hm : bt_cm cuts pc' with
    | some m =>
      rw [hm] at hN
      exact bt_weak (bt_mask_nth m L') hN
    | none =>
      rw [hm] at hN
      rcases bt_ife_inv hN with ⟨q1, q2⟩ | ⟨-, q2⟩
      · rw [bt_beqT q1] at *
        exact bt_ex_sound hT cuts f _ rest L' S' σ' h2 hl.2 q2
      · exact bt_ex_sound hT cuts f pc' _ L' S' σ' (bt_dec_suf T 0 pc' hT.1) (bt_links_suf T 0 pc' hT.2) q2
/-- a method's rule: from a place on, up to the cut points -/
theorem bt_run {P : bt_PT} {d : Nat} {mi : bt_MI} {K : Option av_T → st_T → Prop} {T : List bt_E} (hT : bt_T mi T) (cuts : List (Nat × List Nat)) (f pc : Nat) {L : List (Option av_T)} {S : List av_T} {σ : st_T} (h : bt_ex P (bt_WP P d) (bt_Go P d mi K) K mi.2.2.2 T cuts f pc (bt_suf T 0 pc) L S σ) : bt_Go P d mi K pc L S σ :=
  bt_ex_sound hT cuts f pc _ L S σ (bt_dec_suf T 0 pc hT.1) (bt_links_suf T 0 pc hT.2) h
-- ---------- a contract
def bt_spr : List av_T → List (Option av_T)
  | [] => []
  | v :: r => match v with
    | .inr (.inl _) => some v :: none :: bt_spr r
    | _ => some v :: bt_spr r
theorem bt_spr_sl (P : bt_PT) (n : Nat) : ∀ (as : List av_T) (i : Nat) (v : av_T), bt_nth none (bt_spr as) i = some v → (lg_sl (as.map (bt_va P)) ++ List.replicate n Slot.unset)[i]? = some (.val (bt_va P v))
  | [], i, v, h => by cases i <;> cases h
  | a :: r, i, v, h => by
    rcases a with x | x | x
    · have e : lg_sl (List.map (bt_va P) (.inl x :: r)) = .val (.int x) :: lg_sl (r.map (bt_va P)) := rfl
      rw [e]
      cases i with
      | zero => cases h; rfl
      | succ i => exact bt_spr_sl P n r i v h
    · have e : lg_sl (List.map (bt_va P) (.inr (.inl x) :: r)) = .val (.long x) :: .second :: lg_sl (r.map (bt_va P)) := rfl
      rw [e]
      match i, h with
      | 0, h => cases h; rfl
      | 1, h => cases h
      | i + 2, h => exact bt_spr_sl P n r i v h
    · have e : lg_sl (List.map (bt_va P) (.inr (.inr x) :: r)) = .val (bt_va P (.inr (.inr x))) :: lg_sl (r.map (bt_va P)) := by
        cases x <;> rfl
      rw [e]
      cases i with
      | zero => cases h; rfl
      | succ i => exact bt_spr_sl P n r i v h
theorem bt_spr_ok : ∀ (as : List av_T), (∀ a ∈ as, bt_okv a) → ∀ i v, bt_nth none (bt_spr as) i = some v → bt_okv v
  | [], _, i, v, h => by cases i <;> cases h
  | a :: r, ho, i, v, h => by
    have hr := fun a ha => ho a (List.mem_cons_of_mem _ ha)
    rcases a with x | x | x
    · cases i with
      | zero => cases h; trivial
      | succ i => exact bt_spr_ok r hr i v h
    · match i, h with
      | 0, h => cases h; trivial
      | 1, h => cases h
      | i + 2, h => exact bt_spr_ok r hr i v h
    · cases i with
      | zero => cases h; exact ho _ List.mem_cons_self
      | succ i => exact bt_spr_ok r hr i v h
def bt_wid : List av_T → Nat
  | [] => 0
  | v :: r => bt_cat v + bt_wid r
theorem bt_wid_sl (P : bt_PT) : ∀ as : List av_T, (lg_sl (as.map (bt_va P))).length = bt_wid as
  | [] => rfl
  | a :: r => by
    rcases a with x | x | x
    · show (Slot.val (.int x) :: lg_sl (r.map (bt_va P))).length = 1 + bt_wid r
      rw [List.length_cons, bt_wid_sl P r]; omega
    · show (Slot.val (.long x) :: Slot.second :: lg_sl (r.map (bt_va P))).length = 2 + bt_wid r
      rw [List.length_cons, List.length_cons, bt_wid_sl P r]; omega
    · have e : lg_sl (List.map (bt_va P) (.inr (.inr x) :: r)) = .val (bt_va P (.inr (.inr x))) :: lg_sl (r.map (bt_va P)) := by
        cases x <;> rfl
      rw [e, List.length_cons, bt_wid_sl P r]
      show _ = 1 + bt_wid r
      omega
set_option maxHeartbeats 2000000 in
theorem bt_met {P : bt_PT} {d : Nat} {mi : bt_MI} {K : Option av_T → st_T → Prop} {as : List av_T} {σ : st_T} (hp : plainName mi.1.cls = true) (hw : Nat.ble (bt_wid as) mi.2.2.1 = true) (h : bt_Go P d mi K 0 (bt_pad mi.2.2.1 (bt_spr as)) [] σ) : bt_WP P (d + 1) mi as σ K := by
  have h := bt_weak (bt_pad_nth _ _) h
  unfold bt_WP
  refine Met.ofW (cc := mi.2.1) (maxL := mi.2.2.1) (ret := mi.2.2.2) hp rfl ?_
  intro p e s m args below meth c s₁ B hml hv
  obtain ⟨rfl, ho, hP, hK, hSF, hokP, hNW⟩ := hv
  have hts := atoms_spec (ws := Cond.code mi.1 mi.2.1 mi.2.2.1 mi.2.2.2 :: bt_gw) B.pre
  have hC : bt_Cx P mi p s m (as.map (bt_va P)).toArray meth c := ⟨B.exec, B.bytes, hml, B.returns, B.notSynchronized, findClass_of_methodNamed B.named, fun w hw => hts w (List.mem_cons_of_mem _ hw), hK, hSF, hokP, hNW⟩
  have hle : (lg_sl (as.map (bt_va P))).length ≤ mi.2.2.1 := by rw [bt_wid_sl]; exact Nat.le_of_ble_eq_true hw
  have hl := lv_entry (as.map (bt_va P)) hle
  rw [lg_entry_eq]
  refine h p e (bt_rm (d + 1)) s m _ below meth c 0 0 _ ⟨hC, Nat.le_refl _, Nat.le_refl _, ⟨Nat.zero_le _, Nat.zero_le _⟩, ?_⟩ s.heap [] _ ⟨⟨hl.1, hl.2.1, fun i v hi => ?_⟩, (fun v hv => by cases hv), bt_spr_ok as ho, hP, va_S.rf⟩
  · intro r σ' H locs pc ls hKr hor hP1 hS hd hty
    have hx := B.exec
    have hb := B.bytes
    have hr := B.returns
    have hlocks := B.notSynchronized
    have hq : ∀ o : Outcome, o = .returned (r.map (bt_va P)) → ∀ t : State, t.heap = H → s.WarmedH t.vm → bt_Qc P K (as.map (bt_va P)).toArray s o t := fun o ho t ht _ => ⟨⟨r, σ', ho, hKr, hor, by rw [ht]; exact hP1⟩, hS.F ht⟩
    have hf : ∀ q ∈ locs, bt_A P q.base := hS.2.2
    rcases r with _ | (x | x | x)
    · exact W.vret hx hb (by rw [hr]; exact hty) (hq _ rfl) hf hd hlocks
    · rcases hty with hty | ⟨hty, h01⟩
      · exact W.iret hx hb (by rw [hr]; exact hty) (hq _ rfl) hf hd hlocks
      · exact W.zret (ty := .boolean) hx hb (by rw [hr]; exact hty) (by rcases h01 with rfl | rfl <;> rfl) (hq _ rfl) hf hd hlocks
    · exact W.lret hx hb (by rw [hr]; exact hty) (hq _ rfl) hf hd hlocks
    · obtain ⟨n, hty⟩ := hty
      cases x with
      | none => exact W.aret hx hb (by rw [hr]; exact hty) (Or.inl ⟨n, rfl⟩) (Or.inl rfl) (hq _ rfl) hf hd hlocks
      | some q => exact W.aret hx hb (by rw [hr]; exact hty) (Or.inl ⟨n, rfl⟩) (Or.inr ⟨_, rfl⟩) (hq _ rfl) hf hd hlocks
  · have := bt_spr_sl P (mi.2.2.1 - (lg_sl (as.map (bt_va P))).length) as i v hi
    simpa using this
theorem bt_WP_imp {P : bt_PT} {d : Nat} {mi : bt_MI} {K K' : Option av_T → st_T → Prop} {as : List av_T} {σ : st_T} (h : bt_WP P d mi as σ K) (hK : ∀ r σ', K r σ' → K' r σ') : bt_WP P d mi as σ K' := by
  intro p e ha hc hk s m args below hf happ hpre hkk
  obtain ⟨k, o, h1, h2, h3, ⟨⟨⟨r, σ', ho, hKr, hor, hPr⟩, hF⟩, hL⟩⟩ := h p e ha hc hk s m args below hf happ hpre hkk
  exact ⟨k, o, h1, h2, h3, ⟨⟨r, σ', ho, hK _ _ hKr, hor, hPr⟩, hF⟩, hL⟩
