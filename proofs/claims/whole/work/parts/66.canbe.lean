/-! canBe: joint -/
section CBE
variable {P : bt_PT} {d : Nat} {f : Int32 → m_I → m_L → Prop} {I0 I : m_I} {L0 L : m_L} {T hu bn : Nat} {nb : Nat → Nat} {X : Nat → sH} {Z : Nat → Nat} {F : lF}
theorem jn_canBe {G : m_I → m_L → Prop} {s v : Int32} (hx : cx P I L T hu bn nb X Z F) (h : ∀ I' L', Scr I L I' L' → G I' L') :
    bt_WP P (d + 7) mi_B_canBe [vr 0 0, vi s, vi v] (I, L) (kI fun x I1 L1 => bt_WP P (d + 7) mi_M_canBe [vr 35 0, vi s, vi v] (I1, L1) (kI fun y I2 L2 => x = y ∧ G I2 L2)) := by
  have hr : G I L := h I L Scr_rf
  rcases ix s 6 (by omega) with hs | ⟨s, hs, rfl⟩
  · have hm : bt_WP P (d + 7) mi_M_canBe [vr 35 0, vi s, vi v] (I, L) (kI fun y I2 L2 => (-1) = y ∧ G I2 L2) := ru_M_canBe (sm_isShelf (bP_br (fun _ => ⟨rfl, hr⟩) (fun z => absurd hs z)))
    exact ru_B_canBe (sp_sAo hs (ru_B_canBe_5 (ru_B_bookRefusal_b ⟨by decide, fun _ => ⟨fun _ => hm, (fun z => absurd z (by decide))⟩, (fun z => absurd rfl z)⟩)))
  refine ru_B_canBe (sp_sA hs (ru_B_canBe_5_b ?_))
  have hso : ¬ oob (nI s) 6 := n_oob hs (by omega)
  rcases hd_c v with h0 | ⟨N, hN, rfl, h0, e1, e2⟩
  · have hm : bt_WP P (d + 7) mi_M_canBe [vr 35 0, vi (nI s), vi v] (I, L) (kI fun y I2 L2 => (-1) = y ∧ G I2 L2) := ru_M_canBe (sm_isShelf (bP_br (fun z => absurd hso z) (fun _ => ⟨fun _ => ⟨rfl, hr⟩, fun z => absurd h0 z⟩)))
    exact sp_br_neg h0 ⟨fun _ => hm, (fun z => absurd z (by decide))⟩
  rcases ix (nI (N / 100)) 4 (by omega) with hk | ⟨k, hk, ek⟩
  · have hm : bt_WP P (d + 7) mi_M_canBe [vr 35 0, vi (nI s), vi (nI N)] (I, L) (kI fun y I2 L2 => (-1) = y ∧ G I2 L2) := ru_M_canBe (sm_isShelf (bP_br (fun z => absurd hso z) (fun _ => ⟨fun z => absurd z h0, fun _ => ⟨by decide, by rw [e1]; exact sm_isSort_out hk ⟨(fun z => absurd rfl z), fun _ => ⟨rfl, hr⟩⟩⟩⟩)))
    exact sp_br_sort h0 (by rw [e1]; exact hk) ⟨fun _ => hm, (fun z => absurd z (by decide))⟩
  rw [ek] at e1
  have hM : N % 100 < 100 := Nat.mod_lt _ (by omega)
  generalize hMe : N % 100 = M at *
  have hm : ∀ (I1 : m_I) (Q : Int32 → m_I → m_L → Prop), Scr I L I1 L → (24 ≤ M → Q (-1) I1 L) → (M < 24 → rfI (X s) < 0 → Q (rfI (X s)) I1 L) → (X s = some (.inr 0) → min 24 (Z s) ≤ M → Q (-1) I1 L) → (X s = some (.inr 0) → M < min 24 (Z s) → ∀ I' L', mR I1 I' T (frD T nb hu) → offW L L' → ((¬ nI (poN (onN (ftP L (SD I1 F T nb hu k) s) nb T (min 24 (Z s))) nb T (2 ^ T - 1) M) = 0 → Q (nI (poN (onN (ftP L (SD I1 F T nb hu k) s) nb T (min 24 (Z s))) nb T (2 ^ T - 1) M)) I' L') ∧ (nI (poN (onN (ftP L (SD I1 F T nb hu k) s) nb T (min 24 (Z s))) nb T (2 ^ T - 1) M) = 0 → Q (-2) I' L'))) → bt_WP P (d + 7) mi_M_canBe [vr 35 0, vi (nI s), vi (nI N)] (I1, L) (kI Q) := fun I1 Q q c1 c2 c3 c4 => by
    have hx1 := cx_S hx q
    have hxs := hx1.2.1.2 s hs
    refine ru_M_canBe (sm_isShelf (bP_br (fun z => absurd hso z) (fun _ => ⟨fun z => absurd z h0, fun _ => ⟨by decide, ?_⟩⟩)))
    rw [e2, e1]
    refine sm_isSort_in hk ⟨fun _ => sm_rowFault hs hxs hx1.2.1.1 ⟨fun z => ⟨by decide, ?_⟩, fun z => ⟨by decide, ?_⟩⟩, (fun z => absurd z (by decide))⟩
    · have xs := (rf_le _).mp z
      obtain ⟨ks, -, -, zs, -⟩ := row_e (cx_row hx1 hs xs)
      refine sm_minutesOf hs ks zs ⟨fun w => ⟨by decide, sm_findWalks hx1 hk hs xs (fun I' L' a1 a2 a3 a4 => ?_)⟩, fun w => c3 xs ?_⟩
      · have hlt : M < min 24 (Z s) := (nlt (by omega) (by omega)).mp w
        exact sm_cb79 (d := d + 6) hx1 e2 (by omega) a1 a2 a3 a4 hlt (cb_eq hx1.1 hlt) (c4 xs hlt I' L' a1 a2) T 0 (by omega)
      · have : ¬ M < min 24 (Z s) := fun w2 => w ((nlt (by omega) (by omega)).mpr w2)
        omega
    · by_cases w : M < 24
      · refine sm_isMinute ?_
        rw [bP_t (n_oob w (by omega))]
        exact ⟨(fun z => absurd z (by decide)), fun _ => sm_rowFault hs hxs hx1.2.1.1 (c2 w (Int32.not_le.mp z))⟩
      · refine sm_isMinute ?_
        rw [bP_f (fun w2 => w2 (oobR ((nle (by omega) (by omega)).mpr (by omega))))]
        exact ⟨fun _ => c1 (by omega), (fun z => absurd rfl z)⟩
  have hS := hx.2.1.2 s hs
  have hb := hx.2.1.1
  rw [e2, e1]
  refine sp_br_in hS hb h0 hk (by omega) (by rw [e1]) (by rw [e2]) (fun _ w => ⟨fun _ => hm I _ Scr_rf (fun _ => ⟨rfl, hr⟩) (fun w2 _ => absurd w2 (by omega)) (fun _ _ => ⟨rfl, hr⟩) (fun _ w2 => absurd w2 (by omega)), (fun z => absurd z (by decide))⟩) (fun w w2 => ?_) (fun xs _ w w2 => ⟨fun _ => hm I _ Scr_rf (fun _ => ⟨rfl, hr⟩) (fun _ w3 => absurd xs ((rf_lt _).mp w3)) (fun _ _ => ⟨rfl, hr⟩) (fun _ w3 => absurd w3 (by omega)), (fun z => absurd z (by decide))⟩) (fun xs w => ?_)
  · refine ⟨fun _ => hm I _ Scr_rf (fun w3 => absurd (w rfl) (by omega)) (fun _ _ => ⟨rfl, hr⟩) (fun xs _ => absurd xs ((rf_lt _).mp w2)) (fun xs _ => absurd xs ((rf_lt _).mp w2)), fun w3 => ?_⟩
    rw [w3] at w2; exact absurd w2 (by decide)
  · have hlt := w rfl
    refine ⟨(fun z => absurd rfl z), fun _ => ⟨fun _ => ⟨by decide, cx_fill hx hk (fun I1 q1 q2 => ?_)⟩, (fun z => by cases z)⟩⟩
    have q : Scr I L I1 L := offS_Scr q1
    have hx1 := cx_S hx q
    refine sp_countFitting hx1 hs xs q2 (fun I2 q3 q4 => ⟨by decide, ?_⟩)
    have q5 : Scr I L I2 L := Scr_tr q (off18_S q3)
    have hx2 := cx_S hx q5
    have eS : SD I2 F T nb hu k = SD I F T nb hu k := by unfold SD; rw [snd_S q5]
    have hgo : ∀ x : Int32, ((¬ nI (poN (onN (ftP L (SD I F T nb hu k) s) nb T (min 24 (Z s))) nb T (2 ^ T - 1) M) = 0 → x = nI (poN (onN (ftP L (SD I F T nb hu k) s) nb T (min 24 (Z s))) nb T (2 ^ T - 1) M)) ∧ (nI (poN (onN (ftP L (SD I F T nb hu k) s) nb T (min 24 (Z s))) nb T (2 ^ T - 1) M) = 0 → x = -2)) → bt_WP P (d + 7) mi_M_canBe [vr 35 0, vi (nI s), vi (nI N)] (I2, L) (kI fun y I2 L2 => x = y ∧ G I2 L2) := fun x ex => by
      refine hm I2 _ q5 (fun w3 => absurd hlt (by omega)) (fun _ w3 => absurd xs ((rf_lt _).mp w3)) (fun _ w3 => absurd hlt (by omega)) (fun _ _ I3 L3 a1 a2 => ?_)
      rw [eS]
      exact ⟨fun y => ⟨ex.1 y, h _ _ (Scr_tr q5 (offW_S a1 a2))⟩, fun y => ⟨ex.2 y, h _ _ (Scr_tr q5 (offW_S a1 a2))⟩⟩
    refine sp_possibleAt hx2.1.1 (on := onN (ftP L (SD I F T nb hu k) s) nb T (min 24 (Z s))) (n := min 24 (Z s)) (by omega) hlt (fun m o b1 b2 => ⟨onN_le b1, q4 m o b1 b2⟩) ⟨fun y => hgo _ ⟨fun _ => rfl, fun y2 => absurd y2 y⟩, fun y => hgo _ ⟨fun y2 => absurd y y2, fun _ => rfl⟩⟩
end CBE
