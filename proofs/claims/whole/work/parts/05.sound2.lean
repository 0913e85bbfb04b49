/-! THE ABSTRACT MACHINE IS SOUND, 2: stack, arithmetic, branches -/
theorem bt_RF_ok : ∀ k, k < 70 → ∀ i, i < bt_cnt k → ∀ j, j < (if (bt_shp k).1 = 0 then bt_nf (bt_shp k).2 else (bt_shp k).2) → (match bt_RF k i j with | none => true | some q => Nat.blt q.2 (bt_cnt q.1)) = true := by decide +kernel
theorem bt_pos_inv : ∀ n, n < 128 → (match bt_NMS[n]? with | none => true | some q => Nat.beq (bt_bas q.1 + q.2) n) = true := by decide +kernel
theorem bt_NMS_len : bt_NMS.length = 128 := by decide +kernel
theorem bt_if_inv {b : Bool} {p : Prop} (h : bt_if b p) : b = true ∧ p := by
  cases b with
  | true => exact ⟨rfl, h⟩
  | false => exact h.elim
theorem bt_ife_inv {b : Bool} {p q : Prop} (h : bt_ife b p q) : (b = true ∧ p) ∨ (b = false ∧ q) := by
  cases b with
  | true => exact Or.inl ⟨rfl, h⟩
  | false => exact Or.inr ⟨rfl, h⟩
theorem bt_u1_inv {S : List av_T} {k : Int32 → List av_T → Prop} (h : bt_u1 S k) : ∃ x r, S = vi x :: r ∧ k x r := by
  unfold bt_u1 at h
  split at h
  · exact ⟨_, _, rfl, h⟩
  · exact h.elim
theorem bt_uL_inv {S : List av_T} {k : Int64 → List av_T → Prop} (h : bt_uL S k) : ∃ x r, S = vl x :: r ∧ k x r := by
  unfold bt_uL at h
  split at h
  · exact ⟨_, _, rfl, h⟩
  · exact h.elim
theorem bt_uA_inv {S : List av_T} {k : Option (Nat × Nat) → List av_T → Prop} (h : bt_uA S k) : ∃ x r, S = .inr (.inr x) :: r ∧ k x r := by
  unfold bt_uA at h
  split at h
  · exact ⟨_, _, rfl, h⟩
  · exact h.elim
theorem bt_u2_inv {S : List av_T} {k : Int32 → Int32 → List av_T → Prop} (h : bt_u2 S k) : ∃ x y r, S = vi y :: vi x :: r ∧ k x y r := by
  unfold bt_u2 at h
  split at h
  · exact ⟨_, _, _, rfl, h⟩
  · exact h.elim
theorem bt_uLL_inv {S : List av_T} {k : Int64 → Int64 → List av_T → Prop} (h : bt_uLL S k) : ∃ x y r, S = vl y :: vl x :: r ∧ k x y r := by
  unfold bt_uLL at h
  split at h
  · exact ⟨_, _, _, rfl, h⟩
  · exact h.elim
theorem bt_uLI_inv {S : List av_T} {k : Int64 → Int32 → List av_T → Prop} (h : bt_uLI S k) : ∃ x y r, S = vi y :: vl x :: r ∧ k x y r := by
  unfold bt_uLI at h
  split at h
  · exact ⟨_, _, _, rfl, h⟩
  · exact h.elim
theorem bt_uO_inv {S : List av_T} {k : Nat → Nat → List av_T → Prop} (h : bt_uO S k) : ∃ a b r, S = vr a b :: r ∧ k a b r := by
  unfold bt_uO at h
  split at h
  · exact ⟨_, _, _, rfl, h⟩
  · exact h.elim
theorem bt_uAr_inv {S : List av_T} {k : Nat → Nat → Int32 → List av_T → Prop} (h : bt_uAr S k) : ∃ a b i r, S = vi i :: vr a b :: r ∧ k a b i r := by
  unfold bt_uAr at h
  split at h
  · exact ⟨_, _, _, _, rfl, h⟩
  · exact h.elim
theorem bt_uAsI_inv {S : List av_T} {k : Nat → Nat → Int32 → Int32 → List av_T → Prop} (h : bt_uAsI S k) : ∃ a b i v r, S = vi v :: vi i :: vr a b :: r ∧ k a b i v r := by
  unfold bt_uAsI at h
  split at h
  · exact ⟨_, _, _, _, _, rfl, h⟩
  · exact h.elim
theorem bt_uAsL_inv {S : List av_T} {k : Nat → Nat → Int32 → Int64 → List av_T → Prop} (h : bt_uAsL S k) : ∃ a b i v r, S = vl v :: vi i :: vr a b :: r ∧ k a b i v r := by
  unfold bt_uAsL at h
  split at h
  · exact ⟨_, _, _, _, _, rfl, h⟩
  · exact h.elim
theorem bt_li_inv {L : List (Option av_T)} {i : Nat} {k : Int32 → Prop} (h : bt_li L i k) : ∃ x, bt_nth none L i = some (vi x) ∧ k x := by
  unfold bt_li at h
  split at h
  · next e => exact ⟨_, e, h⟩
  · exact h.elim
theorem bt_ll_inv {L : List (Option av_T)} {i : Nat} {k : Int64 → Prop} (h : bt_ll L i k) : ∃ x, bt_nth none L i = some (vl x) ∧ k x := by
  unfold bt_ll at h
  split at h
  · next e => exact ⟨_, e, h⟩
  · exact h.elim
theorem bt_la_inv {L : List (Option av_T)} {i : Nat} {k : Option (Nat × Nat) → Prop} (h : bt_la L i k) : ∃ x, bt_nth none L i = some (.inr (.inr x)) ∧ k x := by
  unfold bt_la at h
  split at h
  · next e => exact ⟨_, e, h⟩
  · exact h.elim
theorem bt_not_inv {b : Bool} (h : (!b) = true) : b = false := by cases b <;> first | rfl | cases h
theorem bt_si_inv {L : List (Option av_T)} {i : Nat} {S : List av_T} {k : List (Option av_T) → List av_T → Prop} (h : bt_si L i S k) : ∃ x r, S = vi x :: r ∧ bt_cut L i = false ∧ k (bt_set L i (some (vi x))) r := by
  unfold bt_si at h
  split at h
  · obtain ⟨h1, h2⟩ := bt_if_inv h
    exact ⟨_, _, rfl, bt_not_inv h1, h2⟩
  · exact h.elim
theorem bt_sa_inv {L : List (Option av_T)} {i : Nat} {S : List av_T} {k : List (Option av_T) → List av_T → Prop} (h : bt_sa L i S k) : ∃ x r, S = .inr (.inr x) :: r ∧ bt_cut L i = false ∧ k (bt_set L i (some (.inr (.inr x)))) r := by
  unfold bt_sa at h
  split at h
  · obtain ⟨h1, h2⟩ := bt_if_inv h
    exact ⟨_, _, rfl, bt_not_inv h1, h2⟩
  · exact h.elim
theorem bt_sl_inv {L : List (Option av_T)} {i : Nat} {S : List av_T} {k : List (Option av_T) → List av_T → Prop} (h : bt_sl L i S k) : ∃ x r, S = vl x :: r ∧ bt_cut L i = false ∧ k (bt_set (bt_set L i (some (vl x))) (i + 1) none) r := by
  unfold bt_sl at h
  split at h
  · obtain ⟨h1, h2⟩ := bt_if_inv h
    exact ⟨_, _, rfl, bt_not_inv h1, h2⟩
  · exact h.elim
theorem bt_tag_inv {k t : Nat} {f : Nat → Prop} (h : bt_tag k t f) : (bt_shp k).1 = t ∧ f (bt_shp k).2 := by
  obtain ⟨h1, h2⟩ := bt_if_inv h
  exact ⟨Nat.eq_of_beq_eq_true h1, h2⟩
theorem bt_args_inv : ∀ (n : Nat) (S acc : List av_T) (k : List av_T → List av_T → Prop), bt_args n S acc k → ∃ top r, S = top ++ r ∧ top.length = n ∧ k (top.reverse ++ acc) r
  | 0, S, acc, k, h => ⟨[], S, rfl, rfl, h⟩
  | n + 1, [], acc, k, h => h.elim
  | n + 1, v :: S, acc, k, h => by
    obtain ⟨top, r, h1, h2, h3⟩ := bt_args_inv n S (v :: acc) k h
    refine ⟨v :: top, r, by rw [h1]; rfl, by rw [List.length_cons, h2], ?_⟩
    rw [List.reverse_cons, List.append_assoc]
    exact h3
theorem bt_sw_inv (x : Int32) (Nx : Nat → Prop) (d : Nat) : ∀ (l : List (Int32 × Nat)), bt_sw x Nx d l → (∃ q ∈ l, q.1 = x ∧ (∀ q' ∈ l, q'.1 = x → True) ∧ Nx q.2 ∧ l.find? (fun q => decide (q.1 = x)) = some q) ∨ ((∀ q ∈ l, ¬ q.1 = x) ∧ Nx d)
  | [], h => Or.inr ⟨(fun _ h => by cases h), h⟩
  | q :: r, h => by
    by_cases e : x = q.1
    · exact Or.inl ⟨q, List.mem_cons_self, e.symm, fun _ _ _ => trivial, h.1 e, by rw [List.find?_cons_of_pos (by simp [e])]⟩
    · rcases bt_sw_inv x Nx d r (h.2 e) with ⟨q', h1, h2, -, h3, h4⟩ | ⟨h1, h2⟩
      · exact Or.inl ⟨q', List.mem_cons_of_mem _ h1, h2, fun _ _ _ => trivial, h3, by rw [List.find?_cons_of_neg (by simpa using fun z : q.1 = x => e z.symm)]; exact h4⟩
      · refine Or.inr ⟨fun q' hq => ?_, h2⟩
        rcases List.mem_cons.mp hq with rfl | hq
        · exact fun z => e z.symm
        · exact h1 q' hq
theorem bt_Dy_s {P : bt_PT} {nL : Nat} {s : State} {H : Heap} {locs : List Loc} {ls : Array Slot} {L : List (Option av_T)} {S S' : List av_T} {σ : st_T} (h : bt_Dy P nL s H locs ls L S σ) (hs : ∀ v ∈ S', bt_okv v) : bt_Dy P nL s H locs ls L S' σ := ⟨h.1, hs, h.2.2⟩
theorem bt_ok1 {v : av_T} {r : List av_T} (hv : bt_okv v) (h : ∀ v ∈ r, bt_okv v) : ∀ w ∈ v :: r, bt_okv w := List.forall_mem_cons.mpr ⟨hv, h⟩
theorem bt_oki (x : Int32) : bt_okv (vi x) := trivial
theorem bt_okl (x : Int64) : bt_okv (vl x) := trivial
theorem bt_oka {x : Option (Nat × Nat)} (h : ∀ q, x = some q → bt_ok q) : bt_okv (.inr (.inr x)) := by
  cases x with
  | none => trivial
  | some q => exact h q rfl
section BTS
variable {P : bt_PT} {d : Nat} {mi : bt_MI} {K : Option av_T → st_T → Prop} {pc : Nat} {L : List (Option av_T)} {r : List av_T} {σ : st_T}
theorem bt_s_iconst {n : Int} {v : Int32} (hd : decode mi.2.1 pc = .ok (.iconst n, 1)) (hv : Int32.ofInt n = v) (k : bt_Go P d mi K (pc + 1) L (vi v :: r) σ) : bt_Go P d mi K pc L r σ := by
  intro p e R s m args below meth c cells slots Q hC H locs ls hD
  exact lv_iconst hC.1.1 hC.1.2.1 hd hv (k p e R s m args below meth c cells slots Q hC H locs ls (bt_Dy_s hD (bt_ok1 (bt_oki _) hD.2.1)))
theorem bt_s_bipush {n : Int} {v : Int32} (hd : decode mi.2.1 pc = .ok (.bipush n, 2)) (hv : (Int8.ofInt n).toInt32 = v) (k : bt_Go P d mi K (pc + 2) L (vi v :: r) σ) : bt_Go P d mi K pc L r σ := by
  intro p e R s m args below meth c cells slots Q hC H locs ls hD
  exact lv_bipush hC.1.1 hC.1.2.1 hd hv (k p e R s m args below meth c cells slots Q hC H locs ls (bt_Dy_s hD (bt_ok1 (bt_oki _) hD.2.1)))
theorem bt_s_sipush {n : Int} {v : Int32} (hd : decode mi.2.1 pc = .ok (.sipush n, 3)) (hv : (Int16.ofInt n).toInt32 = v) (k : bt_Go P d mi K (pc + 3) L (vi v :: r) σ) : bt_Go P d mi K pc L r σ := by
  intro p e R s m args below meth c cells slots Q hC H locs ls hD
  exact lv_sipush hC.1.1 hC.1.2.1 hd hv (k p e R s m args below meth c cells slots Q hC H locs ls (bt_Dy_s hD (bt_ok1 (bt_oki _) hD.2.1)))
theorem bt_s_ldc {idx : Nat} {v : Int32} (hd : decode mi.2.1 pc = .ok (.ldc idx, 2)) (hl : Cond.constant mi.1.cls idx v ∈ bt_gw) (k : bt_Go P d mi K (pc + 2) L (vi v :: r) σ) : bt_Go P d mi K pc L r σ := by
  intro p e R s m args below meth c cells slots Q hC H locs ls hD
  obtain ⟨hx, hb, hml, hr, hlo, hown, hts, -⟩ := id hC.1
  exact lv_ldc hx hb hown (hts _ hl) hd (k p e R s m args below meth c cells slots Q hC H locs ls (bt_Dy_s hD (bt_ok1 (bt_oki _) hD.2.1)))
theorem bt_s_ldcw {idx : Nat} {v : Int32} (hd : decode mi.2.1 pc = .ok (.ldc_w idx, 3)) (hl : Cond.constant mi.1.cls idx v ∈ bt_gw) (k : bt_Go P d mi K (pc + 3) L (vi v :: r) σ) : bt_Go P d mi K pc L r σ := by
  intro p e R s m args below meth c cells slots Q hC H locs ls hD
  obtain ⟨hx, hb, hml, hr, hlo, hown, hts, -⟩ := id hC.1
  exact lv_ldcw hx hb hown (hts _ hl) hd (k p e R s m args below meth c cells slots Q hC H locs ls (bt_Dy_s hD (bt_ok1 (bt_oki _) hD.2.1)))
theorem bt_s_ldc2 {idx : Nat} {v : Int64} (hd : decode mi.2.1 pc = .ok (.ldc2_w idx, 3)) (hl : Cond.constantLong mi.1.cls idx v ∈ bt_gw) (k : bt_Go P d mi K (pc + 3) L (vl v :: r) σ) : bt_Go P d mi K pc L r σ := by
  intro p e R s m args below meth c cells slots Q hC H locs ls hD
  obtain ⟨hx, hb, hml, hr, hlo, hown, hts, -⟩ := id hC.1
  exact lv_ldc2 hx hb hown (hts _ hl) hd (k p e R s m args below meth c cells slots Q hC H locs ls (bt_Dy_s hD (bt_ok1 (bt_okl _) hD.2.1)))
theorem bt_s_lconst {n : Fin 2} {v : Int64} (hd : decode mi.2.1 pc = .ok (.lconst n, 1)) (hv : Int64.ofNat (n : Nat) = v) (k : bt_Go P d mi K (pc + 1) L (vl v :: r) σ) : bt_Go P d mi K pc L r σ := by
  intro p e R s m args below meth c cells slots Q hC H locs ls hD
  exact lv_lconst hC.1.1 hC.1.2.1 hd hv (k p e R s m args below meth c cells slots Q hC H locs ls (bt_Dy_s hD (bt_ok1 (bt_okl _) hD.2.1)))
theorem bt_s_null (hd : decode mi.2.1 pc = .ok (.aconst_null, 1)) (k : bt_Go P d mi K (pc + 1) L (vn :: r) σ) : bt_Go P d mi K pc L r σ := by
  intro p e R s m args below meth c cells slots Q hC H locs ls hD
  exact lv_null hC.1.1 hC.1.2.1 hd (k p e R s m args below meth c cells slots Q hC H locs ls (bt_Dy_s hD (bt_ok1 trivial hD.2.1)))
theorem bt_s_iload {i : Nat} {x : Int32} (hd : decode mi.2.1 pc = .ok (.iload i, 2)) (hi : bt_nth none L i = some (vi x)) (k : bt_Go P d mi K (pc + 2) L (vi x :: r) σ) : bt_Go P d mi K pc L r σ := by
  intro p e R s m args below meth c cells slots Q hC H locs ls hD
  exact lv_iload hC.1.1 hC.1.2.1 hd (hD.1.2.2 i _ hi) (k p e R s m args below meth c cells slots Q hC H locs ls (bt_Dy_s hD (bt_ok1 (bt_oki _) hD.2.1)))
theorem bt_s_iload_n {i : Fin 4} {x : Int32} (hd : decode mi.2.1 pc = .ok (.iload_n i, 1)) (hi : bt_nth none L i.1 = some (vi x)) (k : bt_Go P d mi K (pc + 1) L (vi x :: r) σ) : bt_Go P d mi K pc L r σ := by
  intro p e R s m args below meth c cells slots Q hC H locs ls hD
  exact lv_iload_n hC.1.1 hC.1.2.1 hd rfl (hD.1.2.2 i.1 _ hi) (k p e R s m args below meth c cells slots Q hC H locs ls (bt_Dy_s hD (bt_ok1 (bt_oki _) hD.2.1)))
theorem bt_s_lload {i : Nat} {x : Int64} (hd : decode mi.2.1 pc = .ok (.lload i, 2)) (hi : bt_nth none L i = some (vl x)) (k : bt_Go P d mi K (pc + 2) L (vl x :: r) σ) : bt_Go P d mi K pc L r σ := by
  intro p e R s m args below meth c cells slots Q hC H locs ls hD
  exact lv_lload hC.1.1 hC.1.2.1 hd (hD.1.2.2 i _ hi) (k p e R s m args below meth c cells slots Q hC H locs ls (bt_Dy_s hD (bt_ok1 (bt_okl _) hD.2.1)))
theorem bt_s_lload_n {i : Fin 4} {x : Int64} (hd : decode mi.2.1 pc = .ok (.lload_n i, 1)) (hi : bt_nth none L i.1 = some (vl x)) (k : bt_Go P d mi K (pc + 1) L (vl x :: r) σ) : bt_Go P d mi K pc L r σ := by
  intro p e R s m args below meth c cells slots Q hC H locs ls hD
  exact lv_lload_n hC.1.1 hC.1.2.1 hd rfl (hD.1.2.2 i.1 _ hi) (k p e R s m args below meth c cells slots Q hC H locs ls (bt_Dy_s hD (bt_ok1 (bt_okl _) hD.2.1)))
theorem bt_s_aload {i : Nat} {x : Option (Nat × Nat)} (hd : decode mi.2.1 pc = .ok (.aload i, 2)) (hi : bt_nth none L i = some (.inr (.inr x))) (k : bt_Go P d mi K (pc + 2) L (.inr (.inr x) :: r) σ) : bt_Go P d mi K pc L r σ := by
  intro p e R s m args below meth c cells slots Q hC H locs ls hD
  have hk := k p e R s m args below meth c cells slots Q hC H locs ls (bt_Dy_s hD (bt_ok1 (hD.2.2.1 i _ hi) hD.2.1))
  cases x with
  | none => exact lv_aloadN hC.1.1 hC.1.2.1 hd (hD.1.2.2 i _ hi) hk
  | some q => exact lv_aload hC.1.1 hC.1.2.1 hd (hD.1.2.2 i _ hi) hk
theorem bt_s_aload_n {i : Fin 4} {x : Option (Nat × Nat)} (hd : decode mi.2.1 pc = .ok (.aload_n i, 1)) (hi : bt_nth none L i.1 = some (.inr (.inr x))) (k : bt_Go P d mi K (pc + 1) L (.inr (.inr x) :: r) σ) : bt_Go P d mi K pc L r σ := by
  intro p e R s m args below meth c cells slots Q hC H locs ls hD
  have hk := k p e R s m args below meth c cells slots Q hC H locs ls (bt_Dy_s hD (bt_ok1 (hD.2.2.1 i.1 _ hi) hD.2.1))
  cases x with
  | none => exact lv_aload_nN hC.1.1 hC.1.2.1 hd rfl (hD.1.2.2 i.1 _ hi) hk
  | some q => exact lv_aload_n hC.1.1 hC.1.2.1 hd rfl (hD.1.2.2 i.1 _ hi) hk
theorem bt_s_istore {i : Nat} {x : Int32} (hd : decode mi.2.1 pc = .ok (.istore i, 2)) (hn : i < mi.2.2.1) (hc : bt_cut L i = false) (k : bt_Go P d mi K (pc + 2) (bt_set L i (some (vi x))) r σ) : bt_Go P d mi K pc L (vi x :: r) σ := by
  intro p e R s m args below meth c cells slots Q hC H locs ls hD
  refine lv_istore hC.1.1 hC.1.2.1 hd (bt_lk_has hD.1) hn rfl (fun ls' hl' => ?_)
  exact k p e R s m args below meth c cells slots Q hC H locs ls' ⟨bt_lk_store1 hc hl', fun v hv => hD.2.1 v (List.mem_cons_of_mem _ hv), bt_okL_set hD.2.2.1 (bt_oki _), hD.2.2.2⟩
theorem bt_s_istore_n {i : Fin 4} {x : Int32} (hd : decode mi.2.1 pc = .ok (.istore_n i, 1)) (hn : i.1 < mi.2.2.1) (hc : bt_cut L i.1 = false) (k : bt_Go P d mi K (pc + 1) (bt_set L i.1 (some (vi x))) r σ) : bt_Go P d mi K pc L (vi x :: r) σ := by
  intro p e R s m args below meth c cells slots Q hC H locs ls hD
  refine lv_istore_n hC.1.1 hC.1.2.1 hd rfl (bt_lk_has hD.1) hn rfl (fun ls' hl' => ?_)
  exact k p e R s m args below meth c cells slots Q hC H locs ls' ⟨bt_lk_store1 hc hl', fun v hv => hD.2.1 v (List.mem_cons_of_mem _ hv), bt_okL_set hD.2.2.1 (bt_oki _), hD.2.2.2⟩
theorem bt_s_lstore {i : Nat} {x : Int64} (hd : decode mi.2.1 pc = .ok (.lstore i, 2)) (hn : i + 1 < mi.2.2.1) (hc : bt_cut L i = false) (k : bt_Go P d mi K (pc + 2) (bt_set (bt_set L i (some (vl x))) (i + 1) none) r σ) : bt_Go P d mi K pc L (vl x :: r) σ := by
  intro p e R s m args below meth c cells slots Q hC H locs ls hD
  refine lv_lstore hC.1.1 hC.1.2.1 hd (bt_lk_has hD.1) hn rfl (fun ls' hl' => ?_)
  exact k p e R s m args below meth c cells slots Q hC H locs ls' ⟨bt_lk_store2 hc hl', fun v hv => hD.2.1 v (List.mem_cons_of_mem _ hv), bt_okL_none (bt_okL_set hD.2.2.1 (bt_okl _)), hD.2.2.2⟩
theorem bt_s_lstore_n {i : Fin 4} {x : Int64} (hd : decode mi.2.1 pc = .ok (.lstore_n i, 1)) (hn : i.1 + 1 < mi.2.2.1) (hc : bt_cut L i.1 = false) (k : bt_Go P d mi K (pc + 1) (bt_set (bt_set L i.1 (some (vl x))) (i.1 + 1) none) r σ) : bt_Go P d mi K pc L (vl x :: r) σ := by
  intro p e R s m args below meth c cells slots Q hC H locs ls hD
  refine lv_lstore_n hC.1.1 hC.1.2.1 hd rfl (bt_lk_has hD.1) hn rfl (fun ls' hl' => ?_)
  exact k p e R s m args below meth c cells slots Q hC H locs ls' ⟨bt_lk_store2 hc hl', fun v hv => hD.2.1 v (List.mem_cons_of_mem _ hv), bt_okL_none (bt_okL_set hD.2.2.1 (bt_okl _)), hD.2.2.2⟩
theorem bt_s_astore {i : Nat} {x : Option (Nat × Nat)} (hd : decode mi.2.1 pc = .ok (.astore i, 2)) (hn : i < mi.2.2.1) (hc : bt_cut L i = false) (k : bt_Go P d mi K (pc + 2) (bt_set L i (some (.inr (.inr x)))) r σ) : bt_Go P d mi K pc L (.inr (.inr x) :: r) σ := by
  intro p e R s m args below meth c cells slots Q hC H locs ls hD
  have ho := hD.2.1 _ List.mem_cons_self
  have hk : ∀ ls' : Array Slot, lv_has ls' mi.2.2.1 ((i, bt_va P (.inr (.inr x))) :: (bt_enum P 0 L).filter (fun q => !(q.1 == i) && !(q.1 + 1 == i && q.2.category == 2))) → W p (bt_l P) e R s m args below meth c H locs cells slots Q (F0 m (pc + 2) ls' (r.map (bt_va P))) := fun ls' hl' =>
    k p e R s m args below meth c cells slots Q hC H locs ls' ⟨bt_lk_store1 hc hl', fun v hv => hD.2.1 v (List.mem_cons_of_mem _ hv), bt_okL_set hD.2.2.1 ho, hD.2.2.2⟩
  cases x with
  | none => exact lv_astoreN hC.1.1 hC.1.2.1 hd (bt_lk_has hD.1) hn rfl hk
  | some q => exact lv_astore hC.1.1 hC.1.2.1 hd (bt_lk_has hD.1) hn rfl hk
theorem bt_s_astore_n {i : Fin 4} {x : Option (Nat × Nat)} (hd : decode mi.2.1 pc = .ok (.astore_n i, 1)) (hn : i.1 < mi.2.2.1) (hc : bt_cut L i.1 = false) (k : bt_Go P d mi K (pc + 1) (bt_set L i.1 (some (.inr (.inr x)))) r σ) : bt_Go P d mi K pc L (.inr (.inr x) :: r) σ := by
  intro p e R s m args below meth c cells slots Q hC H locs ls hD
  have ho := hD.2.1 _ List.mem_cons_self
  have hk : ∀ ls' : Array Slot, lv_has ls' mi.2.2.1 ((i.1, bt_va P (.inr (.inr x))) :: (bt_enum P 0 L).filter (fun q => !(q.1 == i.1) && !(q.1 + 1 == i.1 && q.2.category == 2))) → W p (bt_l P) e R s m args below meth c H locs cells slots Q (F0 m (pc + 1) ls' (r.map (bt_va P))) := fun ls' hl' =>
    k p e R s m args below meth c cells slots Q hC H locs ls' ⟨bt_lk_store1 hc hl', fun v hv => hD.2.1 v (List.mem_cons_of_mem _ hv), bt_okL_set hD.2.2.1 ho, hD.2.2.2⟩
  cases x with
  | none => exact lv_astore_nN hC.1.1 hC.1.2.1 hd rfl (bt_lk_has hD.1) hn rfl hk
  | some q => exact lv_astore_n hC.1.1 hC.1.2.1 hd rfl (bt_lk_has hD.1) hn rfl hk
theorem bt_s_iinc {i : Nat} {n : Int} {x v : Int32} (hd : decode mi.2.1 pc = .ok (.iinc i n, 3)) (hn : i < mi.2.2.1) (hv : Int32.ofInt n = v) (hi : bt_nth none L i = some (vi x)) (hc : bt_cut L i = false) (k : bt_Go P d mi K (pc + 3) (bt_set L i (some (vi (x + v)))) r σ) : bt_Go P d mi K pc L r σ := by
  intro p e R s m args below meth c cells slots Q hC H locs ls hD
  obtain ⟨j, hj⟩ := List.getElem?_of_mem (bt_mem_enum P L 0 i _ hi)
  rw [Nat.zero_add] at hj
  refine lv_iinc (k := j) hC.1.1 hC.1.2.1 hd (bt_lk_has hD.1) hj (v := x + v) (by rw [hv]) hn rfl (fun ls' hl' => ?_)
  exact k p e R s m args below meth c cells slots Q hC H locs ls' ⟨bt_lk_store1 hc hl', hD.2.1, bt_okL_set hD.2.2.1 (bt_oki _), hD.2.2.2⟩
theorem bt_s_iadd {x y : Int32} (hd : decode mi.2.1 pc = .ok (.iadd, 1)) (k : bt_Go P d mi K (pc + 1) L (vi (x + y) :: r) σ) : bt_Go P d mi K pc L (vi y :: vi x :: r) σ := by
  intro p e R s m args below meth c cells slots Q hC H locs ls hD
  exact lv_iadd hC.1.1 hC.1.2.1 hd (k p e R s m args below meth c cells slots Q hC H locs ls (bt_Dy_s hD (bt_ok1 trivial (fun v hv => hD.2.1 v (List.mem_cons_of_mem _ (List.mem_cons_of_mem _ hv))))))
theorem bt_s_isub {x y : Int32} (hd : decode mi.2.1 pc = .ok (.isub, 1)) (k : bt_Go P d mi K (pc + 1) L (vi (x - y) :: r) σ) : bt_Go P d mi K pc L (vi y :: vi x :: r) σ := by
  intro p e R s m args below meth c cells slots Q hC H locs ls hD
  exact lv_isub hC.1.1 hC.1.2.1 hd (k p e R s m args below meth c cells slots Q hC H locs ls (bt_Dy_s hD (bt_ok1 trivial (fun v hv => hD.2.1 v (List.mem_cons_of_mem _ (List.mem_cons_of_mem _ hv))))))
theorem bt_s_imul {x y : Int32} (hd : decode mi.2.1 pc = .ok (.imul, 1)) (k : bt_Go P d mi K (pc + 1) L (vi (x * y) :: r) σ) : bt_Go P d mi K pc L (vi y :: vi x :: r) σ := by
  intro p e R s m args below meth c cells slots Q hC H locs ls hD
  exact lv_imul hC.1.1 hC.1.2.1 hd (k p e R s m args below meth c cells slots Q hC H locs ls (bt_Dy_s hD (bt_ok1 trivial (fun v hv => hD.2.1 v (List.mem_cons_of_mem _ (List.mem_cons_of_mem _ hv))))))
theorem bt_s_iand {x y : Int32} (hd : decode mi.2.1 pc = .ok (.iand, 1)) (k : bt_Go P d mi K (pc + 1) L (vi (x &&& y) :: r) σ) : bt_Go P d mi K pc L (vi y :: vi x :: r) σ := by
  intro p e R s m args below meth c cells slots Q hC H locs ls hD
  exact lv_iand hC.1.1 hC.1.2.1 hd (k p e R s m args below meth c cells slots Q hC H locs ls (bt_Dy_s hD (bt_ok1 trivial (fun v hv => hD.2.1 v (List.mem_cons_of_mem _ (List.mem_cons_of_mem _ hv))))))
theorem bt_s_ior {x y : Int32} (hd : decode mi.2.1 pc = .ok (.ior, 1)) (k : bt_Go P d mi K (pc + 1) L (vi (x ||| y) :: r) σ) : bt_Go P d mi K pc L (vi y :: vi x :: r) σ := by
  intro p e R s m args below meth c cells slots Q hC H locs ls hD
  exact lv_ior hC.1.1 hC.1.2.1 hd (k p e R s m args below meth c cells slots Q hC H locs ls (bt_Dy_s hD (bt_ok1 trivial (fun v hv => hD.2.1 v (List.mem_cons_of_mem _ (List.mem_cons_of_mem _ hv))))))
theorem bt_s_ixor {x y : Int32} (hd : decode mi.2.1 pc = .ok (.ixor, 1)) (k : bt_Go P d mi K (pc + 1) L (vi (x ^^^ y) :: r) σ) : bt_Go P d mi K pc L (vi y :: vi x :: r) σ := by
  intro p e R s m args below meth c cells slots Q hC H locs ls hD
  exact lv_ixor hC.1.1 hC.1.2.1 hd (k p e R s m args below meth c cells slots Q hC H locs ls (bt_Dy_s hD (bt_ok1 trivial (fun v hv => hD.2.1 v (List.mem_cons_of_mem _ (List.mem_cons_of_mem _ hv))))))
theorem bt_s_ishl {x y : Int32} (hd : decode mi.2.1 pc = .ok (.ishl, 1)) (k : bt_Go P d mi K (pc + 1) L (vi (x <<< (y &&& 31)) :: r) σ) : bt_Go P d mi K pc L (vi y :: vi x :: r) σ := by
  intro p e R s m args below meth c cells slots Q hC H locs ls hD
  exact lv_ishl hC.1.1 hC.1.2.1 hd (k p e R s m args below meth c cells slots Q hC H locs ls (bt_Dy_s hD (bt_ok1 trivial (fun v hv => hD.2.1 v (List.mem_cons_of_mem _ (List.mem_cons_of_mem _ hv))))))
theorem bt_s_ishr {x y : Int32} (hd : decode mi.2.1 pc = .ok (.ishr, 1)) (k : bt_Go P d mi K (pc + 1) L (vi (x >>> (y &&& 31)) :: r) σ) : bt_Go P d mi K pc L (vi y :: vi x :: r) σ := by
  intro p e R s m args below meth c cells slots Q hC H locs ls hD
  exact lv_ishr hC.1.1 hC.1.2.1 hd (k p e R s m args below meth c cells slots Q hC H locs ls (bt_Dy_s hD (bt_ok1 trivial (fun v hv => hD.2.1 v (List.mem_cons_of_mem _ (List.mem_cons_of_mem _ hv))))))
theorem bt_s_idiv {x y : Int32} (hd : decode mi.2.1 pc = .ok (.idiv, 1)) (hy : ¬ y = 0) (k : bt_Go P d mi K (pc + 1) L (vi (x / y) :: r) σ) : bt_Go P d mi K pc L (vi y :: vi x :: r) σ := by
  intro p e R s m args below meth c cells slots Q hC H locs ls hD
  exact lv_idiv hC.1.1 hC.1.2.1 hd hy (k p e R s m args below meth c cells slots Q hC H locs ls (bt_Dy_s hD (bt_ok1 trivial (fun v hv => hD.2.1 v (List.mem_cons_of_mem _ (List.mem_cons_of_mem _ hv))))))
theorem bt_s_irem {x y : Int32} (hd : decode mi.2.1 pc = .ok (.irem, 1)) (hy : ¬ y = 0) (k : bt_Go P d mi K (pc + 1) L (vi (x - x / y * y) :: r) σ) : bt_Go P d mi K pc L (vi y :: vi x :: r) σ := by
  intro p e R s m args below meth c cells slots Q hC H locs ls hD
  exact lv_irem hC.1.1 hC.1.2.1 hd hy (k p e R s m args below meth c cells slots Q hC H locs ls (bt_Dy_s hD (bt_ok1 trivial (fun v hv => hD.2.1 v (List.mem_cons_of_mem _ (List.mem_cons_of_mem _ hv))))))
theorem bt_s_iushr {x y : Int32} (hd : decode mi.2.1 pc = .ok (.iushr, 1)) (k : bt_Go P d mi K (pc + 1) L (vi ((x.toUInt32 >>> (y.toUInt32 &&& Int32.toUInt32 31)).toInt32) :: r) σ) : bt_Go P d mi K pc L (vi y :: vi x :: r) σ := by
  intro p e R s m args below meth c cells slots Q hC H locs ls hD
  exact lv_iushr hC.1.1 hC.1.2.1 hd rfl (k p e R s m args below meth c cells slots Q hC H locs ls (bt_Dy_s hD (bt_ok1 trivial (fun v hv => hD.2.1 v (List.mem_cons_of_mem _ (List.mem_cons_of_mem _ hv))))))
theorem bt_s_ladd {x y : Int64} (hd : decode mi.2.1 pc = .ok (.ladd, 1)) (k : bt_Go P d mi K (pc + 1) L (vl (x + y) :: r) σ) : bt_Go P d mi K pc L (vl y :: vl x :: r) σ := by
  intro p e R s m args below meth c cells slots Q hC H locs ls hD
  exact lv_ladd hC.1.1 hC.1.2.1 hd (k p e R s m args below meth c cells slots Q hC H locs ls (bt_Dy_s hD (bt_ok1 trivial (fun v hv => hD.2.1 v (List.mem_cons_of_mem _ (List.mem_cons_of_mem _ hv))))))
theorem bt_s_land {x y : Int64} (hd : decode mi.2.1 pc = .ok (.land, 1)) (k : bt_Go P d mi K (pc + 1) L (vl (x &&& y) :: r) σ) : bt_Go P d mi K pc L (vl y :: vl x :: r) σ := by
  intro p e R s m args below meth c cells slots Q hC H locs ls hD
  exact lv_land hC.1.1 hC.1.2.1 hd (k p e R s m args below meth c cells slots Q hC H locs ls (bt_Dy_s hD (bt_ok1 trivial (fun v hv => hD.2.1 v (List.mem_cons_of_mem _ (List.mem_cons_of_mem _ hv))))))
theorem bt_s_lor {x y : Int64} (hd : decode mi.2.1 pc = .ok (.lor, 1)) (k : bt_Go P d mi K (pc + 1) L (vl (x ||| y) :: r) σ) : bt_Go P d mi K pc L (vl y :: vl x :: r) σ := by
  intro p e R s m args below meth c cells slots Q hC H locs ls hD
  exact lv_lor hC.1.1 hC.1.2.1 hd (k p e R s m args below meth c cells slots Q hC H locs ls (bt_Dy_s hD (bt_ok1 trivial (fun v hv => hD.2.1 v (List.mem_cons_of_mem _ (List.mem_cons_of_mem _ hv))))))
theorem bt_s_lcmp {x y : Int64} (hd : decode mi.2.1 pc = .ok (.lcmp, 1)) (k : bt_Go P d mi K (pc + 1) L (vi (lg_cmp x y) :: r) σ) : bt_Go P d mi K pc L (vl y :: vl x :: r) σ := by
  intro p e R s m args below meth c cells slots Q hC H locs ls hD
  exact W.lcmp hC.1.1 hC.1.2.1 hd (k p e R s m args below meth c cells slots Q hC H locs ls (bt_Dy_s hD (bt_ok1 trivial (fun v hv => hD.2.1 v (List.mem_cons_of_mem _ (List.mem_cons_of_mem _ hv))))))
theorem bt_s_lshl {x : Int64} {y : Int32} (hd : decode mi.2.1 pc = .ok (.lshl, 1)) (k : bt_Go P d mi K (pc + 1) L (vl (x <<< (y.toInt64 &&& 63)) :: r) σ) : bt_Go P d mi K pc L (vi y :: vl x :: r) σ := by
  intro p e R s m args below meth c cells slots Q hC H locs ls hD
  exact lv_lshl hC.1.1 hC.1.2.1 hd rfl (k p e R s m args below meth c cells slots Q hC H locs ls (bt_Dy_s hD (bt_ok1 trivial (fun v hv => hD.2.1 v (List.mem_cons_of_mem _ (List.mem_cons_of_mem _ hv))))))
theorem bt_s_ineg {x : Int32} (hd : decode mi.2.1 pc = .ok (.ineg, 1)) (k : bt_Go P d mi K (pc + 1) L (vi (-x) :: r) σ) : bt_Go P d mi K pc L (vi x :: r) σ := by
  intro p e R s m args below meth c cells slots Q hC H locs ls hD
  exact lv_ineg hC.1.1 hC.1.2.1 hd (k p e R s m args below meth c cells slots Q hC H locs ls (bt_Dy_s hD (bt_ok1 trivial (fun v hv => hD.2.1 v (List.mem_cons_of_mem _ hv)))))
theorem bt_s_i2l {x : Int32} (hd : decode mi.2.1 pc = .ok (.i2l, 1)) (k : bt_Go P d mi K (pc + 1) L (vl (x.toInt64) :: r) σ) : bt_Go P d mi K pc L (vi x :: r) σ := by
  intro p e R s m args below meth c cells slots Q hC H locs ls hD
  exact lv_i2l hC.1.1 hC.1.2.1 hd rfl (k p e R s m args below meth c cells slots Q hC H locs ls (bt_Dy_s hD (bt_ok1 trivial (fun v hv => hD.2.1 v (List.mem_cons_of_mem _ hv)))))
theorem bt_s_l2i {x : Int64} (hd : decode mi.2.1 pc = .ok (.l2i, 1)) (k : bt_Go P d mi K (pc + 1) L (vi (x.toInt32) :: r) σ) : bt_Go P d mi K pc L (vl x :: r) σ := by
  intro p e R s m args below meth c cells slots Q hC H locs ls hD
  exact lv_l2i hC.1.1 hC.1.2.1 hd rfl (k p e R s m args below meth c cells slots Q hC H locs ls (bt_Dy_s hD (bt_ok1 trivial (fun v hv => hD.2.1 v (List.mem_cons_of_mem _ hv)))))
theorem bt_s_i2b {x : Int32} (hd : decode mi.2.1 pc = .ok (.i2b, 1)) (k : bt_Go P d mi K (pc + 1) L (vi (x.toInt8.toInt32) :: r) σ) : bt_Go P d mi K pc L (vi x :: r) σ := by
  intro p e R s m args below meth c cells slots Q hC H locs ls hD
  exact lv_i2b hC.1.1 hC.1.2.1 hd rfl (k p e R s m args below meth c cells slots Q hC H locs ls (bt_Dy_s hD (bt_ok1 trivial (fun v hv => hD.2.1 v (List.mem_cons_of_mem _ hv)))))
theorem bt_s_i2s {x : Int32} (hd : decode mi.2.1 pc = .ok (.i2s, 1)) (k : bt_Go P d mi K (pc + 1) L (vi (x.toInt16.toInt32) :: r) σ) : bt_Go P d mi K pc L (vi x :: r) σ := by
  intro p e R s m args below meth c cells slots Q hC H locs ls hD
  exact lv_i2s hC.1.1 hC.1.2.1 hd rfl (k p e R s m args below meth c cells slots Q hC H locs ls (bt_Dy_s hD (bt_ok1 trivial (fun v hv => hD.2.1 v (List.mem_cons_of_mem _ hv)))))
theorem bt_s_dup {v : av_T} (hd : decode mi.2.1 pc = .ok (.dup, 1)) (hv : bt_cat v = 1) (k : bt_Go P d mi K (pc + 1) L (v :: v :: r) σ) : bt_Go P d mi K pc L (v :: r) σ := by
  intro p e R s m args below meth c cells slots Q hC H locs ls hD
  exact lv_dup hC.1.1 hC.1.2.1 hd (by rw [bt_cat_va, hv]) (k p e R s m args below meth c cells slots Q hC H locs ls (bt_Dy_s hD (bt_ok1 (hD.2.1 _ List.mem_cons_self) hD.2.1)))
theorem bt_s_dup2 {v w : av_T} (hd : decode mi.2.1 pc = .ok (.dup2, 1)) (hv : bt_cat v = 1) (hw : bt_cat w = 1) (k : bt_Go P d mi K (pc + 1) L (v :: w :: v :: w :: r) σ) : bt_Go P d mi K pc L (v :: w :: r) σ := by
  intro p e R s m args below meth c cells slots Q hC H locs ls hD
  exact lv_dup2_11 hC.1.1 hC.1.2.1 hd (by rw [bt_cat_va, hv]) (by rw [bt_cat_va, hw]) (k p e R s m args below meth c cells slots Q hC H locs ls (bt_Dy_s hD (bt_ok1 (hD.2.1 _ List.mem_cons_self) (bt_ok1 (hD.2.1 _ (List.mem_cons_of_mem _ List.mem_cons_self)) hD.2.1))))
theorem bt_s_pop {v : av_T} (hd : decode mi.2.1 pc = .ok (.pop, 1)) (hv : bt_cat v = 1) (k : bt_Go P d mi K (pc + 1) L r σ) : bt_Go P d mi K pc L (v :: r) σ := by
  intro p e R s m args below meth c cells slots Q hC H locs ls hD
  exact lv_pop hC.1.1 hC.1.2.1 hd (by rw [bt_cat_va, hv]) (k p e R s m args below meth c cells slots Q hC H locs ls (bt_Dy_s hD (fun v hv => hD.2.1 v (List.mem_cons_of_mem _ hv))))
theorem bt_s_goto {off : Int} {t : Nat} (hd : decode mi.2.1 pc = .ok (.goto off, 3)) (ht : (pc : Int) + off = (t : Int)) (k : bt_Go P d mi K t L r σ) : bt_Go P d mi K pc L r σ := by
  intro p e R s m args below meth c cells slots Q hC H locs ls hD
  exact lv_goto hC.1.1 hC.1.2.1 hd ht (k p e R s m args below meth c cells slots Q hC H locs ls hD)
theorem bt_s_if_eq {x : Int32} {off : Int} {t : Nat} (hd : decode mi.2.1 pc = .ok (.ifCond .eq off, 3)) (ht : (pc : Int) + off = (t : Int)) (k1 : x = 0 → bt_Go P d mi K t L r σ) (k2 : ¬ x = 0 → bt_Go P d mi K (pc + 3) L r σ) : bt_Go P d mi K pc L (vi x :: r) σ := by
  intro p e R s m args below meth c cells slots Q hC H locs ls hD
  have hD2 := bt_Dy_s hD (fun v hv => hD.2.1 v (List.mem_cons_of_mem _ hv))
  exact lv_if_eq hC.1.1 hC.1.2.1 hd ht (fun h => k1 h p e R s m args below meth c cells slots Q hC H locs ls hD2) (fun h => k2 h p e R s m args below meth c cells slots Q hC H locs ls hD2)
theorem bt_s_icmp_eq {x y : Int32} {off : Int} {t : Nat} (hd : decode mi.2.1 pc = .ok (.if_icmp .eq off, 3)) (ht : (pc : Int) + off = (t : Int)) (k1 : x = y → bt_Go P d mi K t L r σ) (k2 : ¬ x = y → bt_Go P d mi K (pc + 3) L r σ) : bt_Go P d mi K pc L (vi y :: vi x :: r) σ := by
  intro p e R s m args below meth c cells slots Q hC H locs ls hD
  have hD2 := bt_Dy_s hD (fun v hv => hD.2.1 v (List.mem_cons_of_mem _ (List.mem_cons_of_mem _ hv)))
  exact lv_icmp_eq hC.1.1 hC.1.2.1 hd ht (fun h => k1 h p e R s m args below meth c cells slots Q hC H locs ls hD2) (fun h => k2 h p e R s m args below meth c cells slots Q hC H locs ls hD2)
theorem bt_s_if_ne {x : Int32} {off : Int} {t : Nat} (hd : decode mi.2.1 pc = .ok (.ifCond .ne off, 3)) (ht : (pc : Int) + off = (t : Int)) (k1 : ¬ x = 0 → bt_Go P d mi K t L r σ) (k2 : x = 0 → bt_Go P d mi K (pc + 3) L r σ) : bt_Go P d mi K pc L (vi x :: r) σ := by
  intro p e R s m args below meth c cells slots Q hC H locs ls hD
  have hD2 := bt_Dy_s hD (fun v hv => hD.2.1 v (List.mem_cons_of_mem _ hv))
  exact lv_if_ne hC.1.1 hC.1.2.1 hd ht (fun h => k1 h p e R s m args below meth c cells slots Q hC H locs ls hD2) (fun h => k2 h p e R s m args below meth c cells slots Q hC H locs ls hD2)
theorem bt_s_icmp_ne {x y : Int32} {off : Int} {t : Nat} (hd : decode mi.2.1 pc = .ok (.if_icmp .ne off, 3)) (ht : (pc : Int) + off = (t : Int)) (k1 : ¬ x = y → bt_Go P d mi K t L r σ) (k2 : x = y → bt_Go P d mi K (pc + 3) L r σ) : bt_Go P d mi K pc L (vi y :: vi x :: r) σ := by
  intro p e R s m args below meth c cells slots Q hC H locs ls hD
  have hD2 := bt_Dy_s hD (fun v hv => hD.2.1 v (List.mem_cons_of_mem _ (List.mem_cons_of_mem _ hv)))
  exact lv_icmp_ne hC.1.1 hC.1.2.1 hd ht (fun h => k1 h p e R s m args below meth c cells slots Q hC H locs ls hD2) (fun h => k2 h p e R s m args below meth c cells slots Q hC H locs ls hD2)
theorem bt_s_if_lt {x : Int32} {off : Int} {t : Nat} (hd : decode mi.2.1 pc = .ok (.ifCond .lt off, 3)) (ht : (pc : Int) + off = (t : Int)) (k1 : x < 0 → bt_Go P d mi K t L r σ) (k2 : ¬ x < 0 → bt_Go P d mi K (pc + 3) L r σ) : bt_Go P d mi K pc L (vi x :: r) σ := by
  intro p e R s m args below meth c cells slots Q hC H locs ls hD
  have hD2 := bt_Dy_s hD (fun v hv => hD.2.1 v (List.mem_cons_of_mem _ hv))
  exact lv_if_lt hC.1.1 hC.1.2.1 hd ht (fun h => k1 h p e R s m args below meth c cells slots Q hC H locs ls hD2) (fun h => k2 h p e R s m args below meth c cells slots Q hC H locs ls hD2)
theorem bt_s_icmp_lt {x y : Int32} {off : Int} {t : Nat} (hd : decode mi.2.1 pc = .ok (.if_icmp .lt off, 3)) (ht : (pc : Int) + off = (t : Int)) (k1 : x < y → bt_Go P d mi K t L r σ) (k2 : ¬ x < y → bt_Go P d mi K (pc + 3) L r σ) : bt_Go P d mi K pc L (vi y :: vi x :: r) σ := by
  intro p e R s m args below meth c cells slots Q hC H locs ls hD
  have hD2 := bt_Dy_s hD (fun v hv => hD.2.1 v (List.mem_cons_of_mem _ (List.mem_cons_of_mem _ hv)))
  exact lv_icmp_lt hC.1.1 hC.1.2.1 hd ht (fun h => k1 h p e R s m args below meth c cells slots Q hC H locs ls hD2) (fun h => k2 h p e R s m args below meth c cells slots Q hC H locs ls hD2)
theorem bt_s_if_ge {x : Int32} {off : Int} {t : Nat} (hd : decode mi.2.1 pc = .ok (.ifCond .ge off, 3)) (ht : (pc : Int) + off = (t : Int)) (k1 : 0 ≤ x → bt_Go P d mi K t L r σ) (k2 : ¬ 0 ≤ x → bt_Go P d mi K (pc + 3) L r σ) : bt_Go P d mi K pc L (vi x :: r) σ := by
  intro p e R s m args below meth c cells slots Q hC H locs ls hD
  have hD2 := bt_Dy_s hD (fun v hv => hD.2.1 v (List.mem_cons_of_mem _ hv))
  exact lv_if_ge hC.1.1 hC.1.2.1 hd ht (fun h => k1 h p e R s m args below meth c cells slots Q hC H locs ls hD2) (fun h => k2 h p e R s m args below meth c cells slots Q hC H locs ls hD2)
theorem bt_s_icmp_ge {x y : Int32} {off : Int} {t : Nat} (hd : decode mi.2.1 pc = .ok (.if_icmp .ge off, 3)) (ht : (pc : Int) + off = (t : Int)) (k1 : y ≤ x → bt_Go P d mi K t L r σ) (k2 : ¬ y ≤ x → bt_Go P d mi K (pc + 3) L r σ) : bt_Go P d mi K pc L (vi y :: vi x :: r) σ := by
  intro p e R s m args below meth c cells slots Q hC H locs ls hD
  have hD2 := bt_Dy_s hD (fun v hv => hD.2.1 v (List.mem_cons_of_mem _ (List.mem_cons_of_mem _ hv)))
  exact lv_icmp_ge hC.1.1 hC.1.2.1 hd ht (fun h => k1 h p e R s m args below meth c cells slots Q hC H locs ls hD2) (fun h => k2 h p e R s m args below meth c cells slots Q hC H locs ls hD2)
theorem bt_s_if_gt {x : Int32} {off : Int} {t : Nat} (hd : decode mi.2.1 pc = .ok (.ifCond .gt off, 3)) (ht : (pc : Int) + off = (t : Int)) (k1 : 0 < x → bt_Go P d mi K t L r σ) (k2 : ¬ 0 < x → bt_Go P d mi K (pc + 3) L r σ) : bt_Go P d mi K pc L (vi x :: r) σ := by
  intro p e R s m args below meth c cells slots Q hC H locs ls hD
  have hD2 := bt_Dy_s hD (fun v hv => hD.2.1 v (List.mem_cons_of_mem _ hv))
  exact lv_if_gt hC.1.1 hC.1.2.1 hd ht (fun h => k1 h p e R s m args below meth c cells slots Q hC H locs ls hD2) (fun h => k2 h p e R s m args below meth c cells slots Q hC H locs ls hD2)
theorem bt_s_icmp_gt {x y : Int32} {off : Int} {t : Nat} (hd : decode mi.2.1 pc = .ok (.if_icmp .gt off, 3)) (ht : (pc : Int) + off = (t : Int)) (k1 : y < x → bt_Go P d mi K t L r σ) (k2 : ¬ y < x → bt_Go P d mi K (pc + 3) L r σ) : bt_Go P d mi K pc L (vi y :: vi x :: r) σ := by
  intro p e R s m args below meth c cells slots Q hC H locs ls hD
  have hD2 := bt_Dy_s hD (fun v hv => hD.2.1 v (List.mem_cons_of_mem _ (List.mem_cons_of_mem _ hv)))
  exact lv_icmp_gt hC.1.1 hC.1.2.1 hd ht (fun h => k1 h p e R s m args below meth c cells slots Q hC H locs ls hD2) (fun h => k2 h p e R s m args below meth c cells slots Q hC H locs ls hD2)
theorem bt_s_if_le {x : Int32} {off : Int} {t : Nat} (hd : decode mi.2.1 pc = .ok (.ifCond .le off, 3)) (ht : (pc : Int) + off = (t : Int)) (k1 : x ≤ 0 → bt_Go P d mi K t L r σ) (k2 : ¬ x ≤ 0 → bt_Go P d mi K (pc + 3) L r σ) : bt_Go P d mi K pc L (vi x :: r) σ := by
  intro p e R s m args below meth c cells slots Q hC H locs ls hD
  have hD2 := bt_Dy_s hD (fun v hv => hD.2.1 v (List.mem_cons_of_mem _ hv))
  exact lv_if_le hC.1.1 hC.1.2.1 hd ht (fun h => k1 h p e R s m args below meth c cells slots Q hC H locs ls hD2) (fun h => k2 h p e R s m args below meth c cells slots Q hC H locs ls hD2)
theorem bt_s_icmp_le {x y : Int32} {off : Int} {t : Nat} (hd : decode mi.2.1 pc = .ok (.if_icmp .le off, 3)) (ht : (pc : Int) + off = (t : Int)) (k1 : x ≤ y → bt_Go P d mi K t L r σ) (k2 : ¬ x ≤ y → bt_Go P d mi K (pc + 3) L r σ) : bt_Go P d mi K pc L (vi y :: vi x :: r) σ := by
  intro p e R s m args below meth c cells slots Q hC H locs ls hD
  have hD2 := bt_Dy_s hD (fun v hv => hD.2.1 v (List.mem_cons_of_mem _ (List.mem_cons_of_mem _ hv)))
  exact lv_icmp_le hC.1.1 hC.1.2.1 hd ht (fun h => k1 h p e R s m args below meth c cells slots Q hC H locs ls hD2) (fun h => k2 h p e R s m args below meth c cells slots Q hC H locs ls hD2)
theorem bt_s_ifnull {x : Option (Nat × Nat)} {off : Int} {t : Nat} (hd : decode mi.2.1 pc = .ok (.ifnull off, 3)) (ht : (pc : Int) + off = (t : Int)) (k1 : x = none → bt_Go P d mi K t L r σ) (k2 : ¬ x = none → bt_Go P d mi K (pc + 3) L r σ) : bt_Go P d mi K pc L (.inr (.inr x) :: r) σ := by
  intro p e R s m args below meth c cells slots Q hC H locs ls hD
  have hD2 := bt_Dy_s hD (fun v hv => hD.2.1 v (List.mem_cons_of_mem _ hv))
  cases x with
  | none => exact lv_ifnullN hC.1.1 hC.1.2.1 hd ht (k1 rfl p e R s m args below meth c cells slots Q hC H locs ls hD2)
  | some q => exact lv_ifnull hC.1.1 hC.1.2.1 hd (k2 (fun z => by cases z) p e R s m args below meth c cells slots Q hC H locs ls hD2)
theorem bt_s_ifnonnull {x : Option (Nat × Nat)} {off : Int} {t : Nat} (hd : decode mi.2.1 pc = .ok (.ifnonnull off, 3)) (ht : (pc : Int) + off = (t : Int)) (k1 : ¬ x = none → bt_Go P d mi K t L r σ) (k2 : x = none → bt_Go P d mi K (pc + 3) L r σ) : bt_Go P d mi K pc L (.inr (.inr x) :: r) σ := by
  intro p e R s m args below meth c cells slots Q hC H locs ls hD
  have hD2 := bt_Dy_s hD (fun v hv => hD.2.1 v (List.mem_cons_of_mem _ hv))
  cases x with
  | none => exact lv_ifnonnullN hC.1.1 hC.1.2.1 hd (k2 rfl p e R s m args below meth c cells slots Q hC H locs ls hD2)
  | some q => exact lv_ifnonnull hC.1.1 hC.1.2.1 hd ht (k1 (fun z => by cases z) p e R s m args below meth c cells slots Q hC H locs ls hD2)
end BTS
