/-! THE ABSTRACT MACHINE IS SOUND, 3: the world's cells -/
theorem bt_valid {k i : Nat} (h : bt_ok (k, i)) (hk : k < 100) : i < bt_cnt k ∧ k < 70 := by
  have h1 : i < bt_cnt k := by
    rcases h with h | h
    · exact h
    · exact absurd h.1 (by show ¬ 100 ≤ k; omega)
  refine ⟨h1, ?_⟩
  rcases Nat.lt_or_ge k 70 with q | q
  · exact q
  · rw [bt_cnt_big k q] at h1; omega
theorem bt_wl_at (P : bt_PT) (σ : st_T) {k i : Nat} (h : i < bt_cnt k ∧ k < 70) : (bt_wl P σ)[bt_bas k + i]? = some (bt_ad P k i, bt_ent P σ (k, i)) := by
  unfold bt_wl
  rw [List.getElem?_map, bt_pos k h.2 i h.1]
  rfl
theorem bt_D_of {P : bt_PT} (h : bt_okP P) (σ : st_T) : va_D (bt_A P) (bt_wl P σ) := by
  have key : ∀ (n : Nat) (q : Nat × va_E), (bt_wl P σ)[n]? = some q → ∃ a, bt_NMS[n]? = some a ∧ q = (bt_ad P a.1 a.2, bt_ent P σ a) := by
    intro n q hq
    unfold bt_wl at hq
    rw [List.getElem?_map] at hq
    cases ha : bt_NMS[n]? with
    | none => rw [ha] at hq; cases hq
    | some a => rw [ha] at hq; cases hq; exact ⟨a, rfl, rfl⟩
  have hn : ∀ (n : Nat) (a : Nat × Nat), bt_NMS[n]? = some a → bt_bas a.1 + a.2 = n := by
    intro n a ha
    have hlt : n < 128 := by
      have := (List.getElem?_eq_some_iff.mp ha).1
      rw [bt_NMS_len] at this; exact this
    have h1 := bt_pos_inv n hlt
    rw [ha] at h1
    exact Nat.eq_of_beq_eq_true h1
  refine ⟨fun i j x y hi hj hxy => ?_, fun n q hq => ?_⟩
  · obtain ⟨a, h1, rfl⟩ := key i x hi
    obtain ⟨b, h2, rfl⟩ := key j y hj
    have e := h.1 a (List.mem_of_getElem? h1) b (List.mem_of_getElem? h2) hxy
    subst e
    rw [← hn i a h1, ← hn j a h2]
  · obtain ⟨a, h1, rfl⟩ := key n q hq
    exact h.2 a (List.mem_of_getElem? h1)
theorem bt_ent_congr (P : bt_PT) {σ σ' : st_T} {q : Nat × Nat} (h1 : σ.1 q.1 q.2 = σ'.1 q.1 q.2) (h2 : σ.2 q.1 q.2 = σ'.2 q.1 q.2) : bt_ent P σ q = bt_ent P σ' q := by
  have h3 : ∀ c, bt_fv P σ.1 c q.1 q.2 = bt_fv P σ'.1 c q.1 q.2 := by
    intro c
    funext j
    unfold bt_fv
    rw [h1]
  unfold bt_ent
  rw [h1, h2]
  split <;> first | rfl | (rw [h3])
theorem bt_wl_set (P : bt_PT) {σ σ' : st_T} {k i : Nat} (h : i < bt_cnt k ∧ k < 70) (h1 : ∀ a b, ¬ (a = k ∧ b = i) → σ.1 a b = σ'.1 a b) (h2 : ∀ a b, ¬ (a = k ∧ b = i) → σ.2 a b = σ'.2 a b) {e : va_E} (he : e = bt_ent P σ' (k, i)) : (bt_wl P σ).set (bt_bas k + i) (bt_ad P k i, e) = bt_wl P σ' := by
  subst he
  have hp := bt_pos k h.2 i h.1
  apply List.ext_getElem?
  intro n
  by_cases hn : n = bt_bas k + i
  · subst hn
    have hl : bt_bas k + i < (bt_wl P σ).length := by
      unfold bt_wl; rw [List.length_map]; exact (List.getElem?_eq_some_iff.mp hp).1
    rw [List.getElem?_set_self hl, bt_wl_at P σ' h]
  · rw [List.getElem?_set_ne (fun z => hn z.symm)]
    unfold bt_wl
    rw [List.getElem?_map, List.getElem?_map]
    cases ha : bt_NMS[n]? with
    | none => rfl
    | some a =>
      have hlt : n < 128 := by
        have := (List.getElem?_eq_some_iff.mp ha).1
        rw [bt_NMS_len] at this; exact this
      have hz := bt_pos_inv n hlt
      rw [ha] at hz
      have hz := Nat.eq_of_beq_eq_true hz
      have hne : ¬ (a.1 = k ∧ a.2 = i) := fun z => hn (by rw [← hz, z.1, z.2])
      show some (bt_ad P a.1 a.2, bt_ent P σ a) = some (bt_ad P a.1 a.2, bt_ent P σ' a)
      rw [bt_ent_congr P (h1 _ _ hne) (h2 _ _ hne)]
theorem ui_ne {I : m_I} {k i j : Nat} {v : Int32} {a b : Nat} (h : ¬ (a = k ∧ b = i)) : I a b = ui I k i j v a b := by
  funext c
  unfold ui
  by_cases h1 : a = k
  · have h2 : ¬ b = i := fun z => h ⟨h1, z⟩
    rw [if_pos h1, if_neg h2]
  · rw [if_neg h1]
theorem ul_ne {I : m_L} {k i j : Nat} {v : Int64} {a b : Nat} (h : ¬ (a = k ∧ b = i)) : I a b = ul I k i j v a b := by
  funext c
  unfold ul
  by_cases h1 : a = k
  · have h2 : ¬ b = i := fun z => h ⟨h1, z⟩
    rw [if_pos h1, if_neg h2]
  · rw [if_neg h1]
theorem uc_ne {I : m_I} {k i : Nat} {f : Nat → Int32} {a b : Nat} (h : ¬ (a = k ∧ b = i)) : I a b = uc I k i f a b := by
  funext c
  unfold uc
  by_cases h1 : a = k
  · have h2 : ¬ b = i := fun z => h ⟨h1, z⟩
    rw [if_pos h1, if_neg h2]
  · rw [if_neg h1]
theorem ud_ne {I : m_L} {k i : Nat} {f : Nat → Int64} {a b : Nat} (h : ¬ (a = k ∧ b = i)) : I a b = ud I k i f a b := by
  funext c
  unfold ud
  by_cases h1 : a = k
  · have h2 : ¬ b = i := fun z => h ⟨h1, z⟩
    rw [if_pos h1, if_neg h2]
  · rw [if_neg h1]
theorem ui_row (I : m_I) (k i j : Nat) (v : Int32) : ui I k i j v k i = upd (I k i) j v := by
  funext c
  simp [ui, upd]
theorem ul_row (I : m_L) (k i j : Nat) (v : Int64) : ul I k i j v k i = vp_updL (I k i) j v := by
  funext c
  simp [ul, vp_updL]
theorem uc_row (I : m_I) (k i : Nat) (f : Nat → Int32) : uc I k i f k i = f := by
  funext c
  simp [uc]
theorem ud_row (I : m_L) (k i : Nat) (f : Nat → Int64) : ud I k i f k i = f := by
  funext c
  simp [ud]
theorem bt_ent0 (P : bt_PT) (σ : st_T) {k i c : Nat} (h : bt_shp k = (0, c)) : bt_ent P σ (k, i) = .inr (c, (List.range (bt_nf c)).map (bt_fv P σ.1 c k i)) := by
  unfold bt_ent; rw [h]; rfl
theorem bt_ent1 (P : bt_PT) (σ : st_T) {k i n : Nat} (h : bt_shp k = (1, n)) : bt_ent P σ (k, i) = .inl (bt_dA P 0, n, .inl (σ.1 k i)) := by
  unfold bt_ent; rw [h]; rfl
theorem bt_ent2 (P : bt_PT) (σ : st_T) {k i n : Nat} (h : bt_shp k = (2, n)) : bt_ent P σ (k, i) = .inl (bt_dA P 1, n, .inr (.inl (σ.2 k i))) := by
  unfold bt_ent; rw [h]; rfl
theorem bt_ent3 (P : bt_PT) (σ : st_T) {k i n : Nat} (h : bt_shp k = (3, n)) : bt_ent P σ (k, i) = .inl (bt_dA P 2, n, .inl (σ.1 k i)) := by
  unfold bt_ent; rw [h]; rfl
theorem bt_ent4 (P : bt_PT) (σ : st_T) {k i n : Nat} (h : bt_shp k = (4, n)) : bt_ent P σ (k, i) = .inl (bt_dA P 3, n, .inl (σ.1 k i)) := by
  unfold bt_ent; rw [h]; rfl
theorem bt_ent5 (P : bt_PT) (σ : st_T) {k i n : Nat} (h : bt_shp k = (5, n)) : bt_ent P σ (k, i) = .inl (bt_dA P 4, n, .inr (.inr (.inr (.inr (fun j => (bt_RF k i j).map (bt_adr P)))))) := by
  unfold bt_ent; rw [h]; rfl
theorem bt_ent6 (P : bt_PT) (σ : st_T) {k i n : Nat} (h : bt_shp k = (6, n)) : bt_ent P σ (k, i) = .inl (bt_dA P 5, n, .inr (.inr (.inr (.inr (fun j => (bt_RF k i j).map (bt_adr P)))))) := by
  unfold bt_ent; rw [h]; rfl
theorem bt_shp_eq {k t : Nat} (h : (bt_shp k).1 = t) : bt_shp k = (t, (bt_shp k).2) := by rw [← h]
theorem bt_adr_lt (P : bt_PT) {k i : Nat} (h : k < 100) : bt_adr P (k, i) = bt_ad P k i := by
  unfold bt_adr; rw [if_neg (by show ¬ 100 ≤ k; omega)]
theorem bt_va_rf (P : bt_PT) (x : Option (Nat × Nat)) : va_rf (x.map (bt_adr P)) = bt_va P (.inr (.inr x)) := by
  cases x <;> rfl
theorem bt_RF_val {k i j : Nat} (h : i < bt_cnt k ∧ k < 70) (hj : j < (if (bt_shp k).1 = 0 then bt_nf (bt_shp k).2 else (bt_shp k).2)) : bt_okv (.inr (.inr (bt_RF k i j))) := by
  have h1 := bt_RF_ok k h.2 i h.1 j hj
  refine bt_oka (fun q hq => ?_)
  rw [hq] at h1
  exact Or.inl (Nat.le_of_ble_eq_true h1)
theorem bt_rset {f : Nat → Value} {n j : Nat} {v : Value} : ((List.range n).map f).set j v = (List.range n).map (fun t => if t = j then v else f t) := by
  apply List.ext_getElem?
  intro t
  rw [List.getElem?_map]
  by_cases ht : t = j
  · subst ht
    by_cases hl : t < n
    · rw [List.getElem?_set_self (by simpa using hl), List.getElem?_range hl]
      simp
    · rw [List.getElem?_eq_none (by simp; omega), List.getElem?_eq_none (by simp; omega)]
      rfl
  · rw [List.getElem?_set_ne (fun z => ht z.symm), List.getElem?_map]
    by_cases hl : t < n
    · rw [List.getElem?_range hl]
      simp [ht]
    · rw [List.getElem?_eq_none (by simp; omega)]
      rfl
theorem bt_fv_put (P : bt_PT) (I : m_I) {c k i j : Nat} {x : Int32} (hj : bt_fk c j ≠ 2) : (fun t => if t = j then Value.int x else bt_fv P I c k i t) = bt_fv P (ui I k i j x) c k i := by
  funext t
  unfold bt_fv
  rw [ui_row]
  by_cases ht : t = j
  · subst ht
    rw [if_pos rfl, if_neg hj]
    simp [upd]
  · rw [if_neg ht]
    simp [upd, ht]
section BTH
variable {P : bt_PT} {d : Nat} {mi : bt_MI} {K : Option av_T → st_T → Prop} {pc : Nat} {L : List (Option av_T)} {r : List av_T} {σ : st_T}
theorem bt_dr1 {v : av_T} (h : ∀ w ∈ v :: r, bt_okv w) : ∀ w ∈ r, bt_okv w := fun w hw => h w (List.mem_cons_of_mem _ hw)
theorem bt_s_getfield {idx c j k i : Nat} (hd : decode mi.2.1 pc = .ok (.getfield idx, 3)) (hl : bt_lkF mi.1.cls idx c j false) (hk : k < 100) (hs : bt_shp k = (0, c)) (hj : j < bt_nf c)
    (k1 : bt_fk c j = 2 → bt_Go P d mi K (pc + 3) L (.inr (.inr (bt_RF k i j)) :: r) σ) (k2 : ¬ bt_fk c j = 2 → bt_Go P d mi K (pc + 3) L (vi (σ.1 k i j) :: r) σ) : bt_Go P d mi K pc L (vr k i :: r) σ := by
  intro p e R s m args below meth c0 cells slots Q hC H locs ls hD
  obtain ⟨hx, hb, hml, hr, hlo, hown, hts, hK, hSF, hokP, hNW⟩ := id hC.1
  obtain ⟨C, T, N, ty, hc, hN, hin, hty, hnm, hT, hlink, -⟩ := hl
  have hv := bt_valid (hD.2.1 _ List.mem_cons_self) hk
  have he := bt_wl_at P σ hv
  rw [bt_ent0 P σ hs] at he
  have hP := hD.2.2.2.1
  show W p (bt_l P) e R s m args below meth c0 H locs cells slots Q (F0 m pc ls (Value.ref (bt_adr P (k, i)) :: r.map (bt_va P)))
  rw [bt_adr_lt P hk]
  have hfs : ((List.range (bt_nf c)).map (bt_fv P σ.1 c k i))[j]? = some (bt_fv P σ.1 c k i j) := by
    rw [List.getElem?_map, List.getElem?_range hj]; rfl
  refine va_get (D := bt_D P) (ci := c) (C := C) (T := T) (N := N) hx hb hts hin hown hK hP _ he hc j (by omega) (hts _ hlink) (by rw [hT]; exact fun _ h => h) hfs hd ?_
  by_cases h2 : bt_fk c j = 2
  · have hz := k1 h2 p e R s m args below meth c0 cells slots Q hC H locs ls (bt_Dy_s hD (bt_ok1 (bt_RF_val hv (by rw [hs]; exact hj)) (bt_dr1 hD.2.1)))
    have e1 : bt_fv P σ.1 c k i j = bt_va P (.inr (.inr (bt_RF k i j))) := by
      unfold bt_fv; rw [if_pos h2, bt_va_rf]
    rw [e1]
    exact hz
  · have hz := k2 h2 p e R s m args below meth c0 cells slots Q hC H locs ls (bt_Dy_s hD (bt_ok1 (bt_oki _) (bt_dr1 hD.2.1)))
    have e1 : bt_fv P σ.1 c k i j = bt_va P (vi (σ.1 k i j)) := by
      unfold bt_fv; rw [if_neg h2]; rfl
    rw [e1]
    exact hz
theorem bt_s_putfield {idx c j k i : Nat} {x : Int32} (hd : decode mi.2.1 pc = .ok (.putfield idx, 3)) (hl : bt_lkF mi.1.cls idx c j true) (hk : k < 100) (hs : bt_shp k = (0, c)) (hj : j < bt_nf c)
    (hz : bt_fk c j = 0 ∨ (bt_fk c j = 1 ∧ (x = 0 ∨ x = 1))) (k1 : bt_Go P d mi K (pc + 3) L r (ui σ.1 k i j x, σ.2)) : bt_Go P d mi K pc L (vi x :: vr k i :: r) σ := by
  intro p e R s m args below meth c0 cells slots Q hC H locs ls hD
  obtain ⟨hx, hb, hml, hr, hlo, hown, hts, hK, hSF, hokP, hNW⟩ := id hC.1
  obtain ⟨C, T, N, ty, hc, hN, hin, hty, hnm, hT, hlink, hput⟩ := hl
  obtain ⟨hfin, hkind⟩ := hput rfl
  have hv := bt_valid (hD.2.1 _ (List.mem_cons_of_mem _ List.mem_cons_self)) hk
  have he := bt_wl_at P σ hv
  rw [bt_ent0 P σ hs] at he
  have hP := hD.2.2.2.1
  show W p (bt_l P) e R s m args below meth c0 H locs cells slots Q (F0 m pc ls (Value.int x :: Value.ref (bt_adr P (k, i)) :: r.map (bt_va P)))
  rw [bt_adr_lt P hk]
  have hnar : narrow (ty j) (.int x) = .int x ∧ fits (ty j) (.int x) = true := by
    rcases hkind with ⟨h1, h2⟩ | ⟨h1, h2⟩
    · rw [h2]; exact ⟨rfl, rfl⟩
    · rw [h2]
      rcases hz with h3 | ⟨-, h3⟩
      · rw [h1] at h3; cases h3
      · rcases h3 with rfl | rfl <;> exact ⟨rfl, rfl⟩
  have hne : bt_fk c j ≠ 2 := by
    rcases hkind with ⟨h1, h2⟩ | ⟨h1, h2⟩ <;> rw [h1] <;> decide
  refine va_put (D := bt_D P) (ci := c) (C := C) (T := T) (N := N) hx hb hts hin ty hty hnm hown hK hP (bt_D_of hokP σ) hD.2.2.2.2 _ he hc j (by omega) (hts _ hlink) (by rw [hT]; exact fun _ h => h) hfin (hty j (by omega)) hnar.1 hnar.2 (by simpa using hj) hd (fun H1 locs1 hP1 _ hS1 => ?_)
  rw [bt_rset, bt_fv_put P σ.1 hne, bt_wl_set P (σ := σ) (σ' := (ui σ.1 k i j x, σ.2)) hv (fun a b h => ui_ne h) (fun _ _ _ => rfl) (bt_ent0 P _ hs).symm] at hP1
  exact k1 p e R s m args below meth c0 cells slots Q hC H1 locs1 ls ⟨hD.1, bt_dr1 (bt_dr1 hD.2.1), hD.2.2.1, hP1, hS1⟩
theorem bt_s_getstatic {idx j : Nat} (hd : decode mi.2.1 pc = .ok (.getstatic idx, 3)) (hl : bt_lkG mi.1.cls idx j) (k1 : bt_Go P d mi K (pc + 3) L (vr (100 + j) 0 :: r) σ) : bt_Go P d mi K pc L r σ := by
  intro p e R s m args below meth c0 cells slots Q hC H locs ls hD
  obtain ⟨hx, hb, hml, hr, hlo, hown, hts, hK, hSF, hokP, hNW⟩ := id hC.1
  obtain ⟨hj, hlink⟩ := hl
  refine va_gets hx hb (hSF.1 j hj) hD.2.2.2.2 hown (hts _ hlink) (fun _ h => h) hd ?_
  have hz := k1 p e R s m args below meth c0 cells slots Q hC H locs ls (bt_Dy_s hD (bt_ok1 (Or.inr ⟨by show 100 ≤ 100 + j; omega, by show 100 + j < 104; omega⟩) hD.2.1))
  have e1 : bt_va P (vr (100 + j) 0) = .ref (bt_stA P j) := by
    show Value.ref (bt_adr P (100 + j, 0)) = _
    unfold bt_adr
    rw [if_pos (by show 100 ≤ 100 + j; omega)]
    rw [show (100 + j, 0).1 - 100 = j from by show 100 + j - 100 = j; omega]
  rw [← e1]
  exact hz
theorem bt_st_ok {k i : Nat} (h : bt_ok (k, i)) (hk : ¬ k < 100) : k - 100 < 4 := by
  rcases h with h | h
  · have h1 : i < bt_cnt k := h
    rw [bt_cnt_big k (by omega)] at h1; omega
  · have := h.2
    have : k < 104 := this
    omega
theorem bt_adr_st (P : bt_PT) {k i : Nat} (hk : ¬ k < 100) : bt_adr P (k, i) = bt_stA P (k - 100) := by
  unfold bt_adr; rw [if_pos (by show 100 ≤ k; omega)]
theorem bt_s_alen_st {k i : Nat} (hd : decode mi.2.1 pc = .ok (.arraylength, 1)) (hk : ¬ k < 100) (k1 : bt_Go P d mi K (pc + 1) L (vi (Int32.ofNat (bt_sn P (k - 100))) :: r) σ) : bt_Go P d mi K pc L (vr k i :: r) σ := by
  intro p e R s m args below meth c0 cells slots Q hC H locs ls hD
  obtain ⟨hx, hb, hml, hr, hlo, hown, hts, hK, hSF, hokP, hNW⟩ := id hC.1
  show W p (bt_l P) e R s m args below meth c0 H locs cells slots Q (F0 m pc ls (Value.ref (bt_adr P (k, i)) :: r.map (bt_va P)))
  rw [bt_adr_st P hk]
  exact va_tlen hx hb (hSF.2 (k - 100) (bt_st_ok (hD.2.1 _ List.mem_cons_self) hk)) hD.2.2.2.2 rfl hd (k1 p e R s m args below meth c0 cells slots Q hC H locs ls (bt_Dy_s hD (bt_ok1 (bt_oki _) (bt_dr1 hD.2.1))))
theorem bt_s_iald_st {k i : Nat} {j : Int32} (hd : decode mi.2.1 pc = .ok (.iaload, 1)) (hk : ¬ k < 100) (hin : vp_in j (bt_sn P (k - 100))) (k1 : bt_Go P d mi K (pc + 1) L (vi (bt_sv P (k - 100) (tn j)) :: r) σ) : bt_Go P d mi K pc L (vi j :: vr k i :: r) σ := by
  intro p e R s m args below meth c0 cells slots Q hC H locs ls hD
  obtain ⟨hx, hb, hml, hr, hlo, hown, hts, hK, hSF, hokP, hNW⟩ := id hC.1
  show W p (bt_l P) e R s m args below meth c0 H locs cells slots Q (F0 m pc ls (Value.int j :: Value.ref (bt_adr P (k, i)) :: r.map (bt_va P)))
  rw [bt_adr_st P hk]
  exact va_ti hx hb (hSF.2 (k - 100) (bt_st_ok (hD.2.1 _ (List.mem_cons_of_mem _ List.mem_cons_self)) hk)) hD.2.2.2.2 hin rfl hd (k1 p e R s m args below meth c0 cells slots Q hC H locs ls (bt_Dy_s hD (bt_ok1 (bt_oki _) (bt_dr1 (bt_dr1 hD.2.1)))))
theorem bt_s_iaload {k i n : Nat} {j : Int32} (hd : decode mi.2.1 pc = .ok (.iaload, 1)) (hk : k < 100) (hs : bt_shp k = (1, n)) (hin : vp_in j n) (k1 : bt_Go P d mi K (pc + 1) L (vi (σ.1 k i (tn j)) :: r) σ) : bt_Go P d mi K pc L (vi j :: vr k i :: r) σ := by
  intro p e R s m args below meth c0 cells slots Q hC H locs ls hD
  obtain ⟨hx, hb, hml, hr, hlo, hown, hts, hK, hSF, hokP, hNW⟩ := id hC.1
  have hv := bt_valid (hD.2.1 _ (List.mem_cons_of_mem _ List.mem_cons_self)) hk
  have he := bt_wl_at P σ hv
  rw [bt_ent1 P σ hs] at he
  show W p (bt_l P) e R s m args below meth c0 H locs cells slots Q (F0 m pc ls (Value.int j :: Value.ref (bt_adr P (k, i)) :: r.map (bt_va P)))
  rw [bt_adr_lt P hk]
  exact va_iald hx hb hK hD.2.2.2.1 _ 0 he rfl hin hd (k1 p e R s m args below meth c0 cells slots Q hC H locs ls (bt_Dy_s hD (bt_ok1 trivial (bt_dr1 (bt_dr1 hD.2.1)))))
theorem bt_s_laload {k i n : Nat} {j : Int32} (hd : decode mi.2.1 pc = .ok (.laload, 1)) (hk : k < 100) (hs : bt_shp k = (2, n)) (hin : vp_in j n) (k1 : bt_Go P d mi K (pc + 1) L (vl (σ.2 k i (tn j)) :: r) σ) : bt_Go P d mi K pc L (vi j :: vr k i :: r) σ := by
  intro p e R s m args below meth c0 cells slots Q hC H locs ls hD
  obtain ⟨hx, hb, hml, hr, hlo, hown, hts, hK, hSF, hokP, hNW⟩ := id hC.1
  have hv := bt_valid (hD.2.1 _ (List.mem_cons_of_mem _ List.mem_cons_self)) hk
  have he := bt_wl_at P σ hv
  rw [bt_ent2 P σ hs] at he
  show W p (bt_l P) e R s m args below meth c0 H locs cells slots Q (F0 m pc ls (Value.int j :: Value.ref (bt_adr P (k, i)) :: r.map (bt_va P)))
  rw [bt_adr_lt P hk]
  exact va_lald hx hb hK hD.2.2.2.1 _ 1 he rfl hin hd (k1 p e R s m args below meth c0 cells slots Q hC H locs ls (bt_Dy_s hD (bt_ok1 trivial (bt_dr1 (bt_dr1 hD.2.1)))))
theorem bt_s_baload {k i n : Nat} {j : Int32} (hd : decode mi.2.1 pc = .ok (.baload, 1)) (hk : k < 100) (hs : bt_shp k = (3, n)) (hin : vp_in j n) (k1 : bt_Go P d mi K (pc + 1) L (vi (σ.1 k i (tn j)) :: r) σ) : bt_Go P d mi K pc L (vi j :: vr k i :: r) σ := by
  intro p e R s m args below meth c0 cells slots Q hC H locs ls hD
  obtain ⟨hx, hb, hml, hr, hlo, hown, hts, hK, hSF, hokP, hNW⟩ := id hC.1
  have hv := bt_valid (hD.2.1 _ (List.mem_cons_of_mem _ List.mem_cons_self)) hk
  have he := bt_wl_at P σ hv
  rw [bt_ent3 P σ hs] at he
  show W p (bt_l P) e R s m args below meth c0 H locs cells slots Q (F0 m pc ls (Value.int j :: Value.ref (bt_adr P (k, i)) :: r.map (bt_va P)))
  rw [bt_adr_lt P hk]
  exact va_bald hx hb hK hD.2.2.2.1 _ 2 he rfl hin hd (k1 p e R s m args below meth c0 cells slots Q hC H locs ls (bt_Dy_s hD (bt_ok1 trivial (bt_dr1 (bt_dr1 hD.2.1)))))
theorem bt_s_saload {k i n : Nat} {j : Int32} (hd : decode mi.2.1 pc = .ok (.saload, 1)) (hk : k < 100) (hs : bt_shp k = (4, n)) (hin : vp_in j n) (k1 : bt_Go P d mi K (pc + 1) L (vi (σ.1 k i (tn j)) :: r) σ) : bt_Go P d mi K pc L (vi j :: vr k i :: r) σ := by
  intro p e R s m args below meth c0 cells slots Q hC H locs ls hD
  obtain ⟨hx, hb, hml, hr, hlo, hown, hts, hK, hSF, hokP, hNW⟩ := id hC.1
  have hv := bt_valid (hD.2.1 _ (List.mem_cons_of_mem _ List.mem_cons_self)) hk
  have he := bt_wl_at P σ hv
  rw [bt_ent4 P σ hs] at he
  show W p (bt_l P) e R s m args below meth c0 H locs cells slots Q (F0 m pc ls (Value.int j :: Value.ref (bt_adr P (k, i)) :: r.map (bt_va P)))
  rw [bt_adr_lt P hk]
  exact va_sald hx hb hK hD.2.2.2.1 _ 3 he rfl hin hd (k1 p e R s m args below meth c0 cells slots Q hC H locs ls (bt_Dy_s hD (bt_ok1 trivial (bt_dr1 (bt_dr1 hD.2.1)))))
theorem bt_s_iastore {k i n : Nat} {j : Int32} {v : Int32} (hd : decode mi.2.1 pc = .ok (.iastore, 1)) (hk : k < 100) (hs : bt_shp k = (1, n)) (hin : vp_in j n) (k1 : bt_Go P d mi K (pc + 1) L r (ui σ.1 k i (tn j) v, σ.2)) : bt_Go P d mi K pc L (vi v :: vi j :: vr k i :: r) σ := by
  intro p e R s m args below meth c0 cells slots Q hC H locs ls hD
  obtain ⟨hx, hb, hml, hr, hlo, hown, hts, hK, hSF, hokP, hNW⟩ := id hC.1
  have hv := bt_valid (hD.2.1 _ (List.mem_cons_of_mem _ (List.mem_cons_of_mem _ List.mem_cons_self))) hk
  have he := bt_wl_at P σ hv
  rw [bt_ent1 P σ hs] at he
  show W p (bt_l P) e R s m args below meth c0 H locs cells slots Q (F0 m pc ls (Value.int v :: Value.int j :: Value.ref (bt_adr P (k, i)) :: r.map (bt_va P)))
  rw [bt_adr_lt P hk]
  refine va_iast hx hb hK hD.2.2.2.1 (bt_D_of hokP σ) hD.2.2.2.2 _ 0 he rfl hin hd (fun H1 locs1 hP1 _ hS1 => ?_)
  rw [bt_wl_set P (σ := σ) (σ' := (ui σ.1 k i (tn j) v, σ.2)) hv (fun a b h => ui_ne h) (fun _ _ _ => rfl) (by rw [bt_ent1 P _ hs]; dsimp only; rw [ui_row])] at hP1
  exact k1 p e R s m args below meth c0 cells slots Q hC H1 locs1 ls ⟨hD.1, bt_dr1 (bt_dr1 (bt_dr1 hD.2.1)), hD.2.2.1, hP1, hS1⟩
theorem bt_s_bastore {k i n : Nat} {j : Int32} {v : Int32} (hd : decode mi.2.1 pc = .ok (.bastore, 1)) (hk : k < 100) (hs : bt_shp k = (3, n)) (hin : vp_in j n) (k1 : bt_Go P d mi K (pc + 1) L r (ui σ.1 k i (tn j) (v.toInt8.toInt32), σ.2)) : bt_Go P d mi K pc L (vi v :: vi j :: vr k i :: r) σ := by
  intro p e R s m args below meth c0 cells slots Q hC H locs ls hD
  obtain ⟨hx, hb, hml, hr, hlo, hown, hts, hK, hSF, hokP, hNW⟩ := id hC.1
  have hv := bt_valid (hD.2.1 _ (List.mem_cons_of_mem _ (List.mem_cons_of_mem _ List.mem_cons_self))) hk
  have he := bt_wl_at P σ hv
  rw [bt_ent3 P σ hs] at he
  show W p (bt_l P) e R s m args below meth c0 H locs cells slots Q (F0 m pc ls (Value.int v :: Value.int j :: Value.ref (bt_adr P (k, i)) :: r.map (bt_va P)))
  rw [bt_adr_lt P hk]
  refine va_bast hx hb hK hD.2.2.2.1 (bt_D_of hokP σ) hD.2.2.2.2 _ 2 he rfl hin hd (fun H1 locs1 hP1 _ hS1 => ?_)
  rw [vp_nar_byte] at hP1
  rw [bt_wl_set P (σ := σ) (σ' := (ui σ.1 k i (tn j) (v.toInt8.toInt32), σ.2)) hv (fun a b h => ui_ne h) (fun _ _ _ => rfl) (by rw [bt_ent3 P _ hs]; dsimp only; rw [ui_row])] at hP1
  exact k1 p e R s m args below meth c0 cells slots Q hC H1 locs1 ls ⟨hD.1, bt_dr1 (bt_dr1 (bt_dr1 hD.2.1)), hD.2.2.1, hP1, hS1⟩
theorem bt_s_sastore {k i n : Nat} {j : Int32} {v : Int32} (hd : decode mi.2.1 pc = .ok (.sastore, 1)) (hk : k < 100) (hs : bt_shp k = (4, n)) (hin : vp_in j n) (k1 : bt_Go P d mi K (pc + 1) L r (ui σ.1 k i (tn j) (v.toInt16.toInt32), σ.2)) : bt_Go P d mi K pc L (vi v :: vi j :: vr k i :: r) σ := by
  intro p e R s m args below meth c0 cells slots Q hC H locs ls hD
  obtain ⟨hx, hb, hml, hr, hlo, hown, hts, hK, hSF, hokP, hNW⟩ := id hC.1
  have hv := bt_valid (hD.2.1 _ (List.mem_cons_of_mem _ (List.mem_cons_of_mem _ List.mem_cons_self))) hk
  have he := bt_wl_at P σ hv
  rw [bt_ent4 P σ hs] at he
  show W p (bt_l P) e R s m args below meth c0 H locs cells slots Q (F0 m pc ls (Value.int v :: Value.int j :: Value.ref (bt_adr P (k, i)) :: r.map (bt_va P)))
  rw [bt_adr_lt P hk]
  refine va_sast hx hb hK hD.2.2.2.1 (bt_D_of hokP σ) hD.2.2.2.2 _ 3 he rfl hin hd (fun H1 locs1 hP1 _ hS1 => ?_)
  rw [vp_nar_short] at hP1
  rw [bt_wl_set P (σ := σ) (σ' := (ui σ.1 k i (tn j) (v.toInt16.toInt32), σ.2)) hv (fun a b h => ui_ne h) (fun _ _ _ => rfl) (by rw [bt_ent4 P _ hs]; dsimp only; rw [ui_row])] at hP1
  exact k1 p e R s m args below meth c0 cells slots Q hC H1 locs1 ls ⟨hD.1, bt_dr1 (bt_dr1 (bt_dr1 hD.2.1)), hD.2.2.1, hP1, hS1⟩
theorem bt_s_lastore {k i n : Nat} {j : Int32} {v : Int64} (hd : decode mi.2.1 pc = .ok (.lastore, 1)) (hk : k < 100) (hs : bt_shp k = (2, n)) (hin : vp_in j n) (k1 : bt_Go P d mi K (pc + 1) L r (σ.1, ul σ.2 k i (tn j) v)) : bt_Go P d mi K pc L (vl v :: vi j :: vr k i :: r) σ := by
  intro p e R s m args below meth c0 cells slots Q hC H locs ls hD
  obtain ⟨hx, hb, hml, hr, hlo, hown, hts, hK, hSF, hokP, hNW⟩ := id hC.1
  have hv := bt_valid (hD.2.1 _ (List.mem_cons_of_mem _ (List.mem_cons_of_mem _ List.mem_cons_self))) hk
  have he := bt_wl_at P σ hv
  rw [bt_ent2 P σ hs] at he
  show W p (bt_l P) e R s m args below meth c0 H locs cells slots Q (F0 m pc ls (Value.long v :: Value.int j :: Value.ref (bt_adr P (k, i)) :: r.map (bt_va P)))
  rw [bt_adr_lt P hk]
  refine va_last hx hb hK hD.2.2.2.1 (bt_D_of hokP σ) hD.2.2.2.2 _ 1 he rfl hin hd (fun H1 locs1 hP1 _ hS1 => ?_)
  rw [bt_wl_set P (σ := σ) (σ' := (σ.1, ul σ.2 k i (tn j) v)) hv (fun _ _ _ => rfl) (fun a b h => ul_ne h) (by rw [bt_ent2 P _ hs]; dsimp only; rw [ul_row])] at hP1
  exact k1 p e R s m args below meth c0 cells slots Q hC H1 locs1 ls ⟨hD.1, bt_dr1 (bt_dr1 (bt_dr1 hD.2.1)), hD.2.2.1, hP1, hS1⟩
theorem bt_s_aaload {k i : Nat} {j : Int32} (hd : decode mi.2.1 pc = .ok (.aaload, 1)) (hk : k < 100) (hs : (bt_shp k).1 = 5 ∨ (bt_shp k).1 = 6) (hin : vp_in j (bt_shp k).2) (k1 : bt_Go P d mi K (pc + 1) L (.inr (.inr (bt_RF k i (tn j))) :: r) σ) : bt_Go P d mi K pc L (vi j :: vr k i :: r) σ := by
  intro p e R s m args below meth c0 cells slots Q hC H locs ls hD
  obtain ⟨hx, hb, hml, hr, hlo, hown, hts, hK, hSF, hokP, hNW⟩ := id hC.1
  have hv := bt_valid (hD.2.1 _ (List.mem_cons_of_mem _ List.mem_cons_self)) hk
  have he := bt_wl_at P σ hv
  have hlt : tn j < (bt_shp k).2 := Nat.not_le.mp fun q => hin (Or.inr q)
  have hz := k1 p e R s m args below meth c0 cells slots Q hC H locs ls (bt_Dy_s hD (bt_ok1 (bt_RF_val hv (by rw [if_neg (by rcases hs with h | h <;> rw [h] <;> decide)]; exact hlt)) (bt_dr1 (bt_dr1 hD.2.1))))
  show W p (bt_l P) e R s m args below meth c0 H locs cells slots Q (F0 m pc ls (Value.int j :: Value.ref (bt_adr P (k, i)) :: r.map (bt_va P)))
  rw [bt_adr_lt P hk]
  have hz : W p (bt_l P) e R s m args below meth c0 H locs cells slots Q (F0 m (pc + 1) ls (va_rf ((bt_RF k i (tn j)).map (bt_adr P)) :: r.map (bt_va P))) := by rw [bt_va_rf]; exact hz
  rcases hs with hs | hs
  · rw [bt_ent5 P σ (bt_shp_eq hs)] at he
    exact W.aald (v := va_rf ((bt_RF k i (tn j)).map (bt_adr P))) (ty := .array .int) hx hb (hD.2.2.2.1 _ _ he) ((hK.2 4 (bt_dA P 4, .array .int) rfl).1 (bt_shp k).2 (fun j => va_rf ((bt_RF k i j).map (bt_adr P)))) rfl (fun q => by cases q) (by show ¬ (j < 0 ∨ (arrV _ _ _).slots.size ≤ _); rw [arrV_size]; exact hin) (by show (arrV _ _ _).slots[_]? = _; rw [arrV_read _ _ hlt]) rfl rfl hd hz
  · rw [bt_ent6 P σ (bt_shp_eq hs)] at he
    exact va_aldq (C := "BellTrees$Shelf") hx hb hK hD.2.2.2.1 _ 5 he rfl hin hd hz
theorem bt_s_alen {k i : Nat} (hd : decode mi.2.1 pc = .ok (.arraylength, 1)) (hk : k < 100) (hs : ¬ (bt_shp k).1 = 0) (k1 : bt_Go P d mi K (pc + 1) L (vi (Int32.ofNat (bt_shp k).2) :: r) σ) : bt_Go P d mi K pc L (vr k i :: r) σ := by
  intro p e R s m args below meth c0 cells slots Q hC H locs ls hD
  obtain ⟨hx, hb, hml, hr, hlo, hown, hts, hK, hSF, hokP, hNW⟩ := id hC.1
  have hv := bt_valid (hD.2.1 _ List.mem_cons_self) hk
  have he := bt_wl_at P σ hv
  have hz := k1 p e R s m args below meth c0 cells slots Q hC H locs ls (bt_Dy_s hD (bt_ok1 (bt_oki _) (bt_dr1 hD.2.1)))
  show W p (bt_l P) e R s m args below meth c0 H locs cells slots Q (F0 m pc ls (Value.ref (bt_adr P (k, i)) :: r.map (bt_va P)))
  rw [bt_adr_lt P hk]
  have hsh : (bt_shp k).1 = 1 ∨ (bt_shp k).1 = 2 ∨ (bt_shp k).1 = 3 ∨ (bt_shp k).1 = 4 ∨ (bt_shp k).1 = 5 ∨ (bt_shp k).1 = 6 := by
    have h : ∀ k, k < 70 → (bt_shp k).1 = 0 ∨ (bt_shp k).1 = 1 ∨ (bt_shp k).1 = 2 ∨ (bt_shp k).1 = 3 ∨ (bt_shp k).1 = 4 ∨ (bt_shp k).1 = 5 ∨ (bt_shp k).1 = 6 := by decide +kernel
    rcases h k hv.2 with q | q
    · exact absurd q hs
    · exact q
  rcases hsh with h | h | h | h | h | h
  · rw [bt_ent1 P σ (bt_shp_eq h)] at he
    exact va_alen hx hb hK hD.2.2.2.1 _ 0 he (ty := .int) rfl rfl hd hz
  · rw [bt_ent2 P σ (bt_shp_eq h)] at he
    exact va_alen hx hb hK hD.2.2.2.1 _ 1 he (ty := .long) rfl rfl hd hz
  · rw [bt_ent3 P σ (bt_shp_eq h)] at he
    exact va_alen hx hb hK hD.2.2.2.1 _ 2 he (ty := .byte) rfl rfl hd hz
  · rw [bt_ent4 P σ (bt_shp_eq h)] at he
    exact va_alen hx hb hK hD.2.2.2.1 _ 3 he (ty := .short) rfl rfl hd hz
  · rw [bt_ent5 P σ (bt_shp_eq h)] at he
    exact va_alen hx hb hK hD.2.2.2.1 _ 4 he (ty := .array .int) rfl rfl hd hz
  · rw [bt_ent6 P σ (bt_shp_eq h)] at he
    exact va_alen hx hb hK hD.2.2.2.1 _ 5 he (ty := .object "BellTrees$Shelf") rfl rfl hd hz
theorem bt_s_cpyi {idx k1 i1 k2 i2 n1 n2 : Nat} {sp dp n : Int32} (hd : decode mi.2.1 pc = .ok (.invokestatic idx, 3)) (hl : bt_lkC mi.1.cls idx) (hk1 : k1 < 100) (hk2 : k2 < 100) (hs1 : bt_shp k1 = (1, n1)) (hs2 : bt_shp k2 = (1, n2)) (hw : bt_words r ≤ 8) (h1 : ¬ sp < 0) (h2 : ¬ dp < 0) (h3 : ¬ n < 0) (h4 : tn sp + tn n ≤ n1) (h5 : tn dp + tn n ≤ n2) (k0 : bt_Go P d mi K (pc + 3) L r (uc σ.1 k2 i2 (va_cpy (σ.1 k1 i1) (σ.1 k2 i2) (tn sp) (tn dp) (tn n)), σ.2)) : bt_Go P d mi K pc L (vi n :: vi dp :: vr k2 i2 :: vi sp :: vr k1 i1 :: r) σ := by
  intro p e R s m args below meth c0 cells slots Q hC H locs ls hD
  obtain ⟨hx, hb, hml, hr, hlo, hown, hts, hK, hSF, hokP, hNW⟩ := id hC.1
  obtain ⟨l1, l2, l3, l4⟩ := hl
  have hv1 := bt_valid (hD.2.1 _ (List.mem_cons_of_mem _ (List.mem_cons_of_mem _ (List.mem_cons_of_mem _ (List.mem_cons_of_mem _ List.mem_cons_self))))) hk1
  have hv2 := bt_valid (hD.2.1 _ (List.mem_cons_of_mem _ (List.mem_cons_of_mem _ List.mem_cons_self))) hk2
  have he1 := bt_wl_at P σ hv1
  have he2 := bt_wl_at P σ hv2
  rw [bt_ent1 P σ hs1] at he1
  rw [bt_ent1 P σ hs2] at he2
  show W p (bt_l P) e R s m args below meth c0 H locs cells slots Q (F0 m pc ls (Value.int n :: Value.int dp :: Value.ref (bt_adr P (k2, i2)) :: Value.int sp :: Value.ref (bt_adr P (k1, i1)) :: r.map (bt_va P)))
  rw [bt_adr_lt P hk1, bt_adr_lt P hk2]
  have hwd : ∀ q : List av_T, ((q.map (bt_va P)).map fun v => v.category).sum = bt_words q := by
    intro q
    induction q with
    | nil => rfl
    | cons a q ih => simp only [List.map_cons, List.sum_cons, bt_words, bt_cat_va, ih]
  refine va_copyi hx hb (hml.trans hD.1.1.symm) hown (hts _ l1) (hts _ l2) (hts _ l3) (hts _ l4) hK hD.2.2.2.1 (bt_D_of hokP σ) hD.2.2.2.2 _ _ 0 0 he1 he2 rfl rfl rfl h1 h2 h3 h4 h5 (fun _ _ => rfl) (Nat.le_trans (Nat.succ_le_succ (Nat.zero_le d)) hC.2.1) ?_ hd (fun H1 locs1 hP1 _ hS1 => ?_)
  · have h6 := hC.2.2.1
    rw [hwd r]
    have h7 : nativeFrameWords "java/lang/System" "arraycopy" 5 ≤ 20 := by decide +kernel
    omega
  · rw [bt_wl_set P (σ := σ) (σ' := (uc σ.1 k2 i2 (va_cpy (σ.1 k1 i1) (σ.1 k2 i2) (tn sp) (tn dp) (tn n)), σ.2)) hv2 (fun a b h => uc_ne h) (fun _ _ _ => rfl) (by rw [bt_ent1 P _ hs2]; dsimp only; rw [uc_row])] at hP1
    exact k0 p e R s m args below meth c0 cells slots Q hC H1 locs1 ls ⟨hD.1, bt_dr1 (bt_dr1 (bt_dr1 (bt_dr1 (bt_dr1 hD.2.1)))), hD.2.2.1, hP1, hS1⟩
theorem bt_s_cpyl {idx k1 i1 k2 i2 n1 n2 : Nat} {sp dp n : Int32} (hd : decode mi.2.1 pc = .ok (.invokestatic idx, 3)) (hl : bt_lkC mi.1.cls idx) (hk1 : k1 < 100) (hk2 : k2 < 100) (hs1 : bt_shp k1 = (2, n1)) (hs2 : bt_shp k2 = (2, n2)) (hw : bt_words r ≤ 8) (h1 : ¬ sp < 0) (h2 : ¬ dp < 0) (h3 : ¬ n < 0) (h4 : tn sp + tn n ≤ n1) (h5 : tn dp + tn n ≤ n2) (k0 : bt_Go P d mi K (pc + 3) L r (σ.1, ud σ.2 k2 i2 (va_cpy (σ.2 k1 i1) (σ.2 k2 i2) (tn sp) (tn dp) (tn n)))) : bt_Go P d mi K pc L (vi n :: vi dp :: vr k2 i2 :: vi sp :: vr k1 i1 :: r) σ := by
  intro p e R s m args below meth c0 cells slots Q hC H locs ls hD
  obtain ⟨hx, hb, hml, hr, hlo, hown, hts, hK, hSF, hokP, hNW⟩ := id hC.1
  obtain ⟨l1, l2, l3, l4⟩ := hl
  have hv1 := bt_valid (hD.2.1 _ (List.mem_cons_of_mem _ (List.mem_cons_of_mem _ (List.mem_cons_of_mem _ (List.mem_cons_of_mem _ List.mem_cons_self))))) hk1
  have hv2 := bt_valid (hD.2.1 _ (List.mem_cons_of_mem _ (List.mem_cons_of_mem _ List.mem_cons_self))) hk2
  have he1 := bt_wl_at P σ hv1
  have he2 := bt_wl_at P σ hv2
  rw [bt_ent2 P σ hs1] at he1
  rw [bt_ent2 P σ hs2] at he2
  show W p (bt_l P) e R s m args below meth c0 H locs cells slots Q (F0 m pc ls (Value.int n :: Value.int dp :: Value.ref (bt_adr P (k2, i2)) :: Value.int sp :: Value.ref (bt_adr P (k1, i1)) :: r.map (bt_va P)))
  rw [bt_adr_lt P hk1, bt_adr_lt P hk2]
  have hwd : ∀ q : List av_T, ((q.map (bt_va P)).map fun v => v.category).sum = bt_words q := by
    intro q
    induction q with
    | nil => rfl
    | cons a q ih => simp only [List.map_cons, List.sum_cons, bt_words, bt_cat_va, ih]
  refine va_copyl hx hb (hml.trans hD.1.1.symm) hown (hts _ l1) (hts _ l2) (hts _ l3) (hts _ l4) hK hD.2.2.2.1 (bt_D_of hokP σ) hD.2.2.2.2 _ _ 1 1 he1 he2 rfl rfl rfl h1 h2 h3 h4 h5 (fun _ _ => rfl) (Nat.le_trans (Nat.succ_le_succ (Nat.zero_le d)) hC.2.1) ?_ hd (fun H1 locs1 hP1 _ hS1 => ?_)
  · have h6 := hC.2.2.1
    rw [hwd r]
    have h7 : nativeFrameWords "java/lang/System" "arraycopy" 5 ≤ 20 := by decide +kernel
    omega
  · rw [bt_wl_set P (σ := σ) (σ' := (σ.1, ud σ.2 k2 i2 (va_cpy (σ.2 k1 i1) (σ.2 k2 i2) (tn sp) (tn dp) (tn n)))) hv2 (fun _ _ _ => rfl) (fun a b h => ud_ne h) (by rw [bt_ent2 P _ hs2]; dsimp only; rw [ud_row])] at hP1
    exact k0 p e R s m args below meth c0 cells slots Q hC H1 locs1 ls ⟨hD.1, bt_dr1 (bt_dr1 (bt_dr1 (bt_dr1 (bt_dr1 hD.2.1)))), hD.2.2.1, hP1, hS1⟩
end BTH
