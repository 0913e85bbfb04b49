/-! judge, joint; what judge and gone share -/
section WBR
variable {P : bt_PT} {d : Nat} {I0 I : m_I} {L : m_L} {T hu bn : Nat} {nb : Nat → Nat} {X : Nat → sH} {Z : Nat → Nat} {F : lF}
theorem sp_wbr {f : Int32 → m_I → m_L → Prop} (h : cx P I L T hu bn nb X Z F) {a b k : Nat} {w : Int32} (hk : k < 4) (ha : a < 6) (hb : b < 6) (h0 : ¬ w < 0) (e1 : w / 10 = nI a) (e2 : w - w / 10 * 10 = nI b) (g1 : ¬ faI (fun i => i = a ∨ i = b) X (fun _ => True) = 0 → f (faI (fun i => i = a ∨ i = b) X (fun _ => True)) I L) (g2 : faI (fun i => i = a ∨ i = b) X (fun _ => True) = 0 → f (faI (fun i => i = a) X (WK L T nb Z)) I L) : bt_WP P (d + 6) mi_B_walkAndBookRefusal [vr 0 0, vi (nI k), vi w] (I, L) (kI f) := by
  have pa := pow_lt256 (t := a) (T := 8) (by omega) (by omega)
  have pb := pow_lt256 (t := b) (T := 8) (by omega) (by omega)
  have pab := or_lt256 pa pb
  refine ru_B_walkAndBookRefusal (sp_isSort_in hk ⟨(fun z => absurd z (by decide)), fun _ => sp_isPair_in (B := 6) (by omega) ha hb h0 e1 e2 ⟨fun _ => ⟨by decide, by decide, ?_⟩, (fun z => absurd z (by decide))⟩⟩)
  rw [e2, e1, nI_one (t := a) (by omega), nI_one (t := b) (by omega), nI_or]
  refine sp_rowsRefusal h.2.1 (by omega) ?_
  rw [faI_ext (S' := fun i => i = a ∨ i = b) (fun i => by
    rw [tb_2]
    constructor
    · rintro ⟨-, y⟩; exact y
    · rintro (rfl | rfl)
      · exact ⟨ha, Or.inl rfl⟩
      · exact ⟨hb, Or.inr rfl⟩)]
  refine ⟨fun y => ⟨by decide, sp_walksRefusal h.1.1 h.2.1 (by omega) ?_⟩, g1⟩
  rw [faI_ext (S' := fun i => i = a) (fun i => by
    rw [tb_1]
    constructor
    · rintro ⟨-, y⟩; exact y
    · rintro rfl; exact ⟨ha, rfl⟩)]
  exact g2 y
/-- which way judge and gone go -/
theorem wbr_c (X : Nat → sH) (W : Nat → Prop) (a b : Nat) : (¬ faI (fun i => i = a ∨ i = b) X (fun _ => True) = 0 ∧ ¬ 0 ≤ faI (fun i => i = a ∨ i = b) X (fun _ => True)) ∨ (faI (fun i => i = a ∨ i = b) X (fun _ => True) = 0 ∧ X a = some (.inr 0) ∧ X b = some (.inr 0) ∧ ((W a ∧ faI (fun i => i = a) X W = 0) ∨ (¬ W a ∧ faI (fun i => i = a) X W = -5))) := by
  by_cases q : faI (fun i => i = a ∨ i = b) X (fun _ => True) = 0
  · right
    have h := (faI_0 q).1
    have xa := h a (Or.inl rfl)
    refine ⟨q, xa, h b (Or.inr rfl), ?_⟩
    rcases faI_1 (X := X) (W := W) (s := a) with ⟨y, -⟩ | ⟨-, -, y⟩
    · exact absurd xa ((rf_lt _).mp y)
    · exact y
  · exact Or.inl ⟨q, fun z => absurd (faI_lt.mpr q) (Int32.not_lt.mpr z)⟩
theorem jn_judge {G : m_I → m_L → Prop} {k w : Int32} (hx : cx P I L T hu bn nb X Z F) (h : ∀ I', Scr I L I' L → G I' L) :
    bt_WP P (d + 7) mi_B_judge [vr 0 0, vi k, vi w] (I, L) (kI fun x I1 L1 => bt_WP P (d + 7) mi_M_judge [vr 35 0, vi k, vi w] (I1, L1) (kI fun y I2 L2 => x = y ∧ G I2 L2)) := by
  have hr : G I L := h I Scr_rf
  rcases ix k 4 (by omega) with hk | ⟨k, hk, rfl⟩
  · exact ru_B_judge (ru_B_walkAndBookRefusal (sp_isSort_out hk ⟨fun _ => ⟨(fun z => absurd z (by decide)), fun _ => ru_M_judge (sm_isSort_out hk ⟨fun _ => ⟨rfl, hr⟩, (fun z => absurd rfl z)⟩)⟩, (fun z => absurd rfl z)⟩))
  rcases pr_c w 6 with hw | ⟨a, b, ha, hb, h0, e1, e2⟩
  · exact ru_B_judge (ru_B_walkAndBookRefusal (sp_isSort_in hk ⟨(fun z => absurd z (by decide)), fun _ => sp_isPair_out (B := 6) (by omega) hw ⟨(fun z => absurd rfl z), fun _ => ⟨(fun z => absurd z (by decide)), fun _ => ru_M_judge (sm_isSort_in hk ⟨(fun z => absurd z (by decide)), fun _ => sm_areShelves_out hw ⟨(fun z => absurd rfl z), fun _ => ⟨rfl, hr⟩⟩⟩)⟩⟩⟩))
  have hm : ∀ (I1 : m_I) (Q : Int32 → m_I → m_L → Prop), Scr I L I1 L → (¬ 0 ≤ faI (fun i => i = a ∨ i = b) X (fun _ => True) → Q (faI (fun i => i = a ∨ i = b) X (fun _ => True)) I1 L) → (0 ≤ faI (fun i => i = a ∨ i = b) X (fun _ => True) → bt_WP P (d + 6) mi_M_isWalk [vr 35 0, vi (nI a)] (I1, L) (kI fun x12 I10 N11 => (¬ x12 = 0 → (bt_WP P (d + 6) mi_M_findFar [vr 35 0] (I10, N11) (kV fun I13 N14 => bt_Go P (d + 6) mi_M_judge (kI Q) 50 [some (vr 35 0), some (vi (nI k)), some (vi w), some (vi 0)] [] (I13, N14)))) ∧ (x12 = 0 → (Q (-5) I10 N11)))) → bt_WP P (d + 7) mi_M_judge [vr 35 0, vi (nI k), vi w] (I1, L) (kI Q) := fun I1 Q q c1 c2 => by
    have hR := (cx_S hx q).2.1
    refine ru_M_judge (sm_isSort_in hk ⟨(fun z => absurd z (by decide)), fun _ => sm_areShelves_in ha hb h0 e1 e2 ⟨fun _ => sm_rowsFault hR ha hb e1 e2 ⟨fun z => ⟨by decide, ?_⟩, fun z => sm_rowsFault hR ha hb e1 e2 (c1 z)⟩, (fun z => absurd z (by decide))⟩⟩)
    rw [e1]; exact c2 z
  rcases wbr_c X (WK L T nb Z) a b with ⟨v1, v2⟩ | ⟨v1, xa, xb, hc⟩
  · exact ru_B_judge (sp_wbr hx hk ha hb h0 e1 e2 (fun _ => ⟨fun z => absurd z v1, fun _ => hm I _ Scr_rf (fun _ => ⟨rfl, hr⟩) (fun z => absurd z v2)⟩) (fun z => absurd z v1))
  · rw [v1] at hm
    refine ru_B_judge (sp_wbr hx hk ha hb h0 e1 e2 (fun z => absurd v1 z) (fun _ => ?_))
    rcases hc with ⟨wa, hv⟩ | ⟨wa, hv⟩
    · rw [hv]
      refine ⟨fun _ => cx_fill hx hk (fun I1 q1 q2 => ⟨by decide, ?_⟩), (fun z => absurd rfl z)⟩
      have hx1 := cx_S hx (offS_Scr (L := L) q1)
      rw [e1]
      refine sp_sA ha (ru_B_judge_30_b ⟨by decide, ?_⟩)
      rw [e2]
      refine sp_sA hb (ru_B_judge_38_d (sp_fns (bl := 255) hx1 ha hb xa xb (fun m hm => WK_lt wa hm) q2 (by omega) ?_))
      refine hm I1 _ (offS_Scr q1) (fun z => absurd (by decide) z) (fun _ => sm_isWalk hx1.1.2.1 ha (cx_row hx1 ha xa) (bP_br' (fun _ => cx_far hx1 (fun I2 q3 => ?_)) (fun z => absurd wa z)))
      refine sm_judgeL hx1 hk ha hb e1 e2 xa xb (fun m hm => WK_lt wa hm) (min (min 24 (Z a)) (min 24 (Z b))) 0 I2 (by omega) q3 (fun I' q4 => ⟨?_, h _ (Scr_tr (offS_Scr q1) (mR_Scr q4))⟩)
      rw [show SD I1 F T nb hu k = SD I F T nb hu k from by unfold SD; rw [snd_S (offS_Scr (L := L) q1)]]
    · rw [hv]
      exact ⟨(fun z => absurd z (by decide)), fun _ => hm I _ Scr_rf (fun z => absurd (by decide) z) (fun _ => sm_isWalk hx.1.2.1 ha (cx_row hx ha xa) (bP_br' (fun z => absurd z wa) (fun _ => ⟨rfl, hr⟩)))⟩
end WBR
