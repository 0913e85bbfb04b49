/-! drawn: joint -/
def uN (z : Int32) : Nat := z.toBitVec.toNat / 2 ^ 8
theorem uN_lt (z : Int32) : uN z < 16777216 := by
  have := z.toBitVec.isLt
  unfold uN; omega
theorem uN_e (z : Int32) : (z.toUInt32 >>> ((8 : Int32).toUInt32 &&& Int32.toUInt32 31)).toInt32 = nI (uN z) := by
  apply Int32.toBitVec_inj.mp
  apply BitVec.eq_of_toNat_eq
  have := uN_lt z
  rw [pk_ushr z 8 8 (by decide), pk_tn (by omega)]; rfl
/-- the l-th neighbour -/
def fN (b : Nat) : Nat → Nat → Nat → Option Nat
  | 0, _, _ => none
  | k + 1, t, l => if b.testBit t = true then (if l = 1 then some t else fN b k (t + 1) (l - 1)) else fN b k (t + 1) l
theorem fN_s : ∀ T, T ≤ 8 → ∀ b, b < 2 ^ T → ∀ l, l < 9 → 0 < l → l ≤ bcN b → (fN b T 0 l).isSome = true := by decide +kernel
theorem fN_lt {b : Nat} : ∀ (k t l r : Nat), fN b k t l = some r → r < t + k
  | 0, t, l, r, h => by cases h
  | k + 1, t, l, r, h => by
    unfold fN at h
    by_cases q : b.testBit t = true
    · rw [if_pos q] at h
      by_cases q1 : l = 1
      · rw [if_pos q1] at h; cases h; omega
      · rw [if_neg q1] at h; have := fN_lt k (t + 1) (l - 1) r h; omega
    · rw [if_neg q] at h; have := fN_lt k (t + 1) l r h; omega
def sF (T : Nat) (nb : Nat → Nat) (t q : Nat) : Nat := if q % (bcN (nb t) + 1) = 0 then t else (fN (nb t) T 0 (q % (bcN (nb t) + 1))).getD t
theorem sF_lt {T : Nat} {nb : Nat → Nat} {t q : Nat} (ht : t < T) : sF T nb t q < T := by
  unfold sF
  by_cases h : q % (bcN (nb t) + 1) = 0
  · rw [if_pos h]; exact ht
  · rw [if_neg h]
    rcases hc : fN (nb t) T 0 (q % (bcN (nb t) + 1)) with _ | r
    · exact ht
    · have := fN_lt T 0 _ r hc
      show r < T; omega
section DRW
variable {P : bt_PT} {d : Nat} {f : Int32 → m_I → m_L → Prop} {I0 I : m_I} {L : m_L} {T hu bn : Nat} {nb : Nat → Nat} {X : Nat → sH} {Z : Nat → Nat} {F : lF}
theorem sp_sd0 (hF : iF I T nb) {t : Nat} (ht : t < T) (g : f (nI t) I L) : ∀ (k u : Nat) (x : Int32), u + k = T → (∃ m : Nat, m ≤ 100 ∧ m + k ≤ 100 ∧ x.toInt = -(m : Int)) → bt_Go P d mi_Fo_stepDrawn (kI f) 27 [some (vr 1 0), some (vi (nI t)), none, some (vi x), some (vi (nI u))] [] (I, L)
  | 0, u, x, e, _ => by
    have hT8 := hF.2.1
    have e : u = T := by omega
    subst e
    exact ru_Fo_stepDrawn_27 ⟨fun _ => g, fun z => absurd (by rw [hF.1]; exact Int32.le_refl _) z⟩
  | k + 1, u, x, e, hx => by
    have hT8 := hF.2.1
    obtain ⟨m, hm, hmk, ex⟩ := hx
    have hbt : nb t < 256 := iF_lt hF t
    refine ru_Fo_stepDrawn_27 ⟨fun z => by rw [hF.1, nle (by omega) (by omega)] at z; omega, fun _ => ⟨ti_in (by omega) (by omega), ?_⟩⟩
    rw [ti_tn (by omega), (hF.2.2.1 t (by omega)).1, nI_bit (by omega) (by omega), nI_s]
    have e1 : (x + (-1)).toInt = -((m + 1 : Nat) : Int) := by
      rw [i_add (by rw [i_m1]; omega) (by rw [i_m1]; omega), i_m1]; omega
    refine bP_br (fun _ => sp_sd0 hF ht g k (u + 1) x (by omega) ⟨m, by omega, by omega, ex⟩) (fun _ => ⟨fun _ => sp_sd0 hF ht g k (u + 1) _ (by omega) ⟨m + 1, by omega, by omega, e1⟩, fun z => ?_⟩)
    rw [z, i_0] at e1; omega
theorem sp_sd1 (hF : iF I T nb) {t : Nat} (ht : t < T) : ∀ (k u l : Nat), u + k = T → 0 < l → l < 100 → f (nI ((fN (nb t) k u l).getD t)) I L → bt_Go P d mi_Fo_stepDrawn (kI f) 27 [some (vr 1 0), some (vi (nI t)), none, some (vi (nI l)), some (vi (nI u))] [] (I, L)
  | 0, u, l, e, _, _, g => by
    have hT8 := hF.2.1
    have e : u = T := by omega
    subst e
    exact ru_Fo_stepDrawn_27 ⟨fun _ => g, fun z => absurd (by rw [hF.1]; exact Int32.le_refl _) z⟩
  | k + 1, u, l, e, hl, hl1, g => by
    have hT8 := hF.2.1
    have hbt : nb t < 256 := iF_lt hF t
    unfold fN at g
    obtain ⟨l, rfl⟩ : ∃ l', l = l' + 1 := ⟨l - 1, by omega⟩
    refine ru_Fo_stepDrawn_27 ⟨fun z => by rw [hF.1, nle (by omega) (by omega)] at z; omega, fun _ => ⟨ti_in (by omega) (by omega), ?_⟩⟩
    rw [ti_tn (by omega), (hF.2.2.1 t (by omega)).1, nI_bit (by omega) (by omega), nI_s, pk_m1]
    refine bP_br (fun q => ?_) (fun q => ⟨fun z => ?_, fun z => ?_⟩)
    · rw [if_neg q] at g
      exact sp_sd1 hF ht k (u + 1) (l + 1) (by omega) (by omega) (by omega) g
    · have : ¬ l = 0 := fun y => z (by rw [y]; rfl)
      rw [if_pos q, if_neg (by omega)] at g
      exact sp_sd1 hF ht k (u + 1) l (by omega) (by omega) (by omega) g
    · have : l = 0 := (neq (b := 0) (by omega) (by omega)).mp z
      subst this
      rw [if_pos q, if_pos rfl] at g
      exact g
theorem sp_stepDrawn (hF : iF I T nb) {t q : Nat} (ht : t < T) (hq : q < 16777216) (g : f (nI (sF T nb t q)) I L) : bt_WP P (d + 2) mi_Fo_stepDrawn [vr 1 0, vi (nI t), vi (nI q)] (I, L) (kI f) := by
  have hT8 := hF.2.1
  have hbt : nb t < 256 := iF_lt hF t
  have h8 := bcN_le (nb t)
  refine ru_Fo_stepDrawn (sp_has_in hF.1 hT8 ht ⟨fun _ => ⟨ti_in (by omega) (by omega), ?_⟩, (fun z => absurd z (by decide))⟩)
  rw [ti_tn (by omega), (hF.2.2.1 t (by omega)).1]
  refine sp_bitCount hbt ?_
  rw [nI_s, pk_rem (by omega) (by omega) (by omega)]
  have hlt : q % (bcN (nb t) + 1) < bcN (nb t) + 1 := Nat.mod_lt _ (by omega)
  unfold sF at g
  refine ⟨fun z => by have := (neq (b := 0) (by omega) (by omega)).mp z; omega, ?_⟩
  by_cases h : q % (bcN (nb t) + 1) = 0
  · rw [if_pos h] at g
    rw [h]
    exact sp_sd0 hF ht g T 0 _ (by omega) ⟨0, by omega, by omega, rfl⟩
  · rw [if_neg h] at g
    exact sp_sd1 hF ht T 0 _ (by omega) (by omega) (by omega) g
theorem sm_nei (hF : jF I T nb) {t r : Nat} (ht : t < T) (g : f (nI r) I L) : ∀ (k u l : Nat), u + k = T → 0 < l → l < 100 → fN (nb t) k u l = some r → bt_Go P (d + 1) mi_M_neighbour (kI f) 5 [some (vr 35 0), some (vi (nI t)), none, some (vi (nI u)), some (vi (nI l))] [] (I, L)
  | 0, u, l, e, _, _, h => by cases h
  | k + 1, u, l, e, hl, hl1, h => by
    have hT8 := hF.2.1
    unfold fN at h
    obtain ⟨l, rfl⟩ : ∃ l', l = l' + 1 := ⟨l - 1, by omega⟩
    refine ru_M_neighbour_5 ?_
    rw [nI_s, pk_m1]
    refine ⟨fun z => sm_areBeside hF ht (by omega) (bP_br (fun q => ?_) (fun q => ?_)), fun z => sm_areBeside hF ht (by omega) (bP_br' (fun q => ?_) (fun q => sm_areBeside hF ht (by omega) (bP_br (fun q' => ?_) (fun q' => absurd q' q))))⟩
    · rw [if_neg q] at h
      exact sm_nei hF ht g k (u + 1) (l + 1) (by omega) (by omega) (by omega) h
    · have := (nlt (a := 1) (by omega) (by omega)).mp z
      rw [if_pos q, if_neg (by omega)] at h
      exact sm_nei hF ht g k (u + 1) l (by omega) (by omega) (by omega) h
    · have : ¬ 1 < l + 1 := fun y => z ((nlt (a := 1) (by omega) (by omega)).mpr y)
      rw [if_pos q, if_pos (by omega)] at h
      cases h; exact g
    · rw [if_neg q] at h
      exact sm_nei hF ht g k (u + 1) (l + 1) (by omega) (by omega) (by omega) h
theorem sm_neighbour (hF : jF I T nb) {t l r : Nat} (ht : t < T) (hl : 0 < l) (hl1 : l < 100) (h : fN (nb t) T 0 l = some r) (g : f (nI r) I L) : bt_WP P (d + 2) mi_M_neighbour [vr 35 0, vi (nI t), vi (nI l)] (I, L) (kI f) :=
  ru_M_neighbour (sm_nei hF ht g T 0 l (by omega) hl hl1 h)
theorem sm_draw {z : Int32} {n : Nat} (hz : I 35 0 38 = z) (hn : 0 < n) (hn1 : n < 1000) (g : f (nI (uN (nxD z) % n)) (ui I 35 0 38 (nxD z)) L) : bt_WP P (d + 1) mi_M_draw [vr 35 0, vi (nI n)] (I, L) (kI f) := by
  have := uN_lt (nxD z)
  refine ru_M_draw ?_
  rw [hz, show (z * 1103515245) + 12345 = nxD z from rfl, ui_same, uN_e, pk_rem (by omega) (by omega) (by omega)]
  exact ⟨fun y => by have := (neq (b := 0) (by omega) (by omega)).mp y; omega, g⟩
noncomputable def aI (base : Int32) (c : Nat → Prop) : Nat → Int32
  | 0 => base
  | m + 1 => @ite Int32 (c m) (Classical.propDecidable _) (aI base c m + 1) (aI base c m)
theorem aI_t {base : Int32} {c : Nat → Prop} {m : Nat} (h : c m) : aI base c (m + 1) = aI base c m + 1 := by
  show @ite Int32 _ (Classical.propDecidable _) _ _ = _
  rw [if_pos h]
theorem aI_f {base : Int32} {c : Nat → Prop} {m : Nat} (h : ¬ c m) : aI base c (m + 1) = aI base c m := by
  show @ite Int32 _ (Classical.propDecidable _) _ _ = _
  rw [if_neg h]
/-- the walkers: z by draws, trees by walker and minute, and the three sums by walkers -/
def dwR (T : Nat) (nb : Nat → Nat) (S : Nat → Nat → Int32) (what : Int32) (zs : Nat → Int32) (tr : Nat → Nat → Nat) (tog wo aw : Nat → Int32) : Prop :=
  (∀ i, zs (i + 1) = nxD (zs i)) ∧ (∀ w, tr w 0 = uN (zs (24 * w + 1)) % T) ∧ (∀ w m, tr w (m + 1) = sF T nb (tr w m) (uN (zs (24 * w + m + 2)))) ∧
  (∀ w, tog (w + 1) = tog w + nI (cK (fun m => ¬ S (tr w m) m = -1) 24)) ∧ (∀ w, (¬ cK (fun m => ¬ S (tr w m) m = -1) 24 = 0 → wo (w + 1) = wo w) ∧ (cK (fun m => ¬ S (tr w m) m = -1) 24 = 0 → wo (w + 1) = wo w + 1)) ∧
  (∀ w, aw (w + 1) = aI (aw w) (fun m => ¬ S (tr w m) m = -1 ∧ nI (tr w m) = what) 24) ∧ tog 0 = 0 ∧ wo 0 = 0 ∧ aw 0 = 0
theorem dw_T {S : Nat → Nat → Int32} {what : Int32} {zs : Nat → Int32} {tr : Nat → Nat → Nat} {tog wo aw : Nat → Int32} (h : dwR T nb S what zs tr tog wo aw) (hT : 0 < T) (w : Nat) : ∀ m, tr w m < T
  | 0 => by rw [h.2.1]; exact Nat.mod_lt _ hT
  | m + 1 => by rw [h.2.2.1]; exact sF_lt (dw_T h hT w m)
def dwV (what tg wo at' : Int32) : Int32 := if what = -1 then tg else if what = -2 then wo else at'
theorem sp_dw30 (h : cx P I L T hu bn nb X Z F) {S : Nat → Nat → Int32} {what : Int32} {zs : Nat → Int32} {tr : Nat → Nat → Nat} {tog wo aw : Nat → Int32} {n w : Nat} (hd : dwR T nb S what zs tr tog wo aw) (hT0 : 0 < T) (hfl : flS I 0 S)
    (g : bt_Go P (d + 2) mi_B_drawWalkers (kI f) 15 [some (vr 0 0), none, some (vi (nI n)), some (vi what), some (vi (zs (24 * (w + 1)))), some (vi (tog (w + 1))), some (vi (wo (w + 1))), some (vi (aw (w + 1))), some (vi (nI (w + 1))), none, none, none] [] (I, L)) : ∀ (k m : Nat) (tv : Int32), m + k = 24 → (∀ m', m = m' + 1 → tv = nI (tr w m')) → bt_Go P (d + 2) mi_B_drawWalkers (kI f) 30 [some (vr 0 0), none, some (vi (nI n)), some (vi what), some (vi (zs (24 * w + m))), some (vi (tog w)), some (vi (wo w)), some (vi (aI (aw w) (fun m => ¬ S (tr w m) m = -1 ∧ nI (tr w m) = what) m)), some (vi (nI w)), some (vi (nI (cK (fun m => ¬ S (tr w m) m = -1) m))), some (vi tv), some (vi (nI m))] [] (I, L)
  | 0, m, tv, e, htv => by
    have e : m = 24 := by omega
    subst e
    have hc := cK_le (c := fun m => ¬ S (tr w m) m = -1) 24
    obtain ⟨h1, h2, h3, h4, h5, h6, -⟩ := hd
    rw [h4, h6, show 24 * (w + 1) = 24 * w + 24 by omega] at g
    refine ru_B_drawWalkers_30 ⟨fun _ => ?_, fun q => absurd (show (24 : Int32) ≤ nI 24 by decide) q⟩
    rw [nI_s, Int32.add_zero]
    refine ⟨fun q => ?_, fun q => ?_⟩
    · rw [(h5 w).1 (fun z => q (by rw [z]; rfl))] at g; exact g
    · rw [(h5 w).2 ((neq (b := 0) (by omega) (by omega)).mp q)] at g; exact g
  | k + 1, m, tv, e, htv => by
    obtain ⟨hT, hT8⟩ := cx_T h
    have htr := dw_T hd hT0 w
    have hgo : ∀ v : Int32, v = nI (tr w m) → ((S (tr w m) m = -1 → bt_Go P (d + 2) mi_B_drawWalkers (kI f) 30 [some (vr 0 0), none, some (vi (nI n)), some (vi what), some (vi (zs (24 * w + m + 1))), some (vi (tog w)), some (vi (wo w)), some (vi (aI (aw w) (fun m => ¬ S (tr w m) m = -1 ∧ nI (tr w m) = what) m)), some (vi (nI w)), some (vi (nI (cK (fun m => ¬ S (tr w m) m = -1) m))), some (vi v), some (vi (nI (m + 1)))] [] (I, L)) ∧
        (¬ S (tr w m) m = -1 → ((¬ v = what → bt_Go P (d + 2) mi_B_drawWalkers (kI f) 30 [some (vr 0 0), none, some (vi (nI n)), some (vi what), some (vi (zs (24 * w + m + 1))), some (vi (tog w)), some (vi (wo w)), some (vi (aI (aw w) (fun m => ¬ S (tr w m) m = -1 ∧ nI (tr w m) = what) m)), some (vi (nI w)), some (vi (nI (cK (fun m => ¬ S (tr w m) m = -1) m + 1))), some (vi v), some (vi (nI (m + 1)))] [] (I, L)) ∧
        (v = what → bt_Go P (d + 2) mi_B_drawWalkers (kI f) 30 [some (vr 0 0), none, some (vi (nI n)), some (vi what), some (vi (zs (24 * w + m + 1))), some (vi (tog w)), some (vi (wo w)), some (vi (aI (aw w) (fun m => ¬ S (tr w m) m = -1 ∧ nI (tr w m) = what) m + 1)), some (vi (nI w)), some (vi (nI (cK (fun m => ¬ S (tr w m) m = -1) m + 1))), some (vi v), some (vi (nI (m + 1)))] [] (I, L))))) := fun v hv => by
      have ih := sp_dw30 h hd hT0 hfl g k (m + 1) v (by omega) (fun m' em => by rw [show m' = m by omega]; exact hv)
      refine ⟨fun q => ?_, fun q => ⟨fun q2 => ?_, fun q2 => ?_⟩⟩
      · rw [aI_f (fun z => z.1 q), cK_f (c := fun m => ¬ S (tr w m) m = -1) (fun z => z q)] at ih; exact ih
      · rw [aI_f (fun z => q2 (hv.trans z.2)), cK_t (c := fun m => ¬ S (tr w m) m = -1) q] at ih; exact ih
      · rw [aI_t ⟨q, hv.symm.trans q2⟩, cK_t (c := fun m => ¬ S (tr w m) m = -1) q] at ih; exact ih
    refine ru_B_drawWalkers_30 ⟨fun q => absurd ((nle (a := 24) (by omega) (by omega)).mp q) (by omega), fun _ => ru_B_nextDraw ?_⟩
    rw [show (zs (24 * w + m) * 1103515245) + 12345 = zs (24 * w + m + 1) from (hd.1 (24 * w + m)).symm, uN_e, nI_s, Int32.add_zero, nI_s]
    have hq := uN_lt (zs (24 * w + m + 1))
    refine ⟨fun q => ?_, fun q => ?_⟩
    · obtain ⟨m', rfl⟩ : ∃ m', m = m' + 1 := ⟨m - 1, by
        have h50 : ¬ m = 0 := fun y => q (by rw [y]; rfl)
        omega⟩
      rw [htv m' rfl]
      refine sp_stepDrawn h.1.1 (htr m') hq ?_
      rw [show 24 * w + (m' + 1) + 1 = 24 * w + m' + 2 by omega, ← hd.2.2.1 w m']
      refine sp_SoAt hT hT8 (htr (m' + 1)) (by omega) ?_
      rw [hfl _ _ (by have := htr (m' + 1); omega) (by omega)]
      exact hgo _ rfl
    · have em : m = 0 := (neq (b := 0) (by omega) (by omega)).mp q
      subst em
      refine ru_Fo_treeDrawn ?_
      rw [hT]
      refine ⟨fun z => by rw [show (0 : Int32) = nI 0 from rfl, nle (by omega) (by omega)] at z; omega, fun _ => ⟨fun z => by have := (neq (b := 0) (by omega) (by omega)).mp z; omega, ?_⟩⟩
      rw [pk_rem (by omega) (by omega) (by omega), show 24 * w + 0 + 1 = 24 * w + 1 from rfl, ← hd.2.1 w]
      refine sp_SoAt hT hT8 (htr 0) (by omega) ?_
      rw [hfl _ _ (by have := htr 0; omega) (by omega)]
      exact hgo _ rfl
theorem sp_dw15 (h : cx P I L T hu bn nb X Z F) {S : Nat → Nat → Int32} {what : Int32} {zs : Nat → Int32} {tr : Nat → Nat → Nat} {tog wo aw : Nat → Int32} {n : Nat} (hn : n < 100) (hd : dwR T nb S what zs tr tog wo aw) (hT0 : 0 < T) (hfl : flS I 0 S) (g : f (dwV what (tog n) (wo n) (aw n)) I L) : ∀ (k w : Nat), w + k = n → bt_Go P (d + 2) mi_B_drawWalkers (kI f) 15 [some (vr 0 0), none, some (vi (nI n)), some (vi what), some (vi (zs (24 * w))), some (vi (tog w)), some (vi (wo w)), some (vi (aw w)), some (vi (nI w)), none, none, none] [] (I, L)
  | 0, w, e => by
    have e : w = n := by omega
    subst e
    unfold dwV at g
    refine ru_B_drawWalkers_15 ⟨fun _ => ⟨fun q1 => ⟨fun q2 => ?_, fun q2 => ?_⟩, fun q1 => ?_⟩, fun q => absurd (Int32.le_refl _) q⟩
    · rw [if_neg q1, if_neg q2] at g; exact g
    · rw [if_neg q1, if_pos q2] at g; exact g
    · rw [if_pos q1] at g; exact g
  | k + 1, w, e => by
    refine ru_B_drawWalkers_15 ⟨fun q => absurd ((nle (by omega) (by omega)).mp q) (by omega), fun _ => ?_⟩
    exact sp_dw30 h hd hT0 hfl (sp_dw15 h hn hd hT0 hfl g k (w + 1) (by omega)) 24 0 0 (by omega) (fun m' em => by omega)
end DRW
