/-! printed by wip/whole/gen95.py: where each cell lies, and that the constructors leave the world of I0, L0 -/
def offL : List (List Nat) := [[0], [1], [2], [3, 4, 5, 6, 7, 8, 9, 10], [11], [12], [13], [14], [15], [16], [17], [18], [19, 30], [20, 31], [21, 22, 23, 24, 25, 26, 27, 28, 32, 33, 34, 35, 36, 37, 38, 39], [29, 40], [41], [42], [43, 44, 45, 46, 47, 48, 49, 50, 51, 52, 53, 54, 55, 56, 57, 58, 59, 60, 61, 62, 63, 64, 65, 66], [67], [68], [69], [70], [71], [72], [73], [74], [75], [76], [77], [78], [79], [80], [81, 83, 85, 87, 89, 91], [82, 84, 86, 88, 90, 92], [93], [94], [95], [96], [97], [98], [99], [100], [101], [102], [103], [104], [105], [106], [107], [108], [109], [110], [111], [112], [113], [114], [115], [116], [117], [118], [119], [120], [121], [122], [123], [124], [125], [126], [127]]
def off (k i : Nat) : Nat := bt_nth 0 (bt_nth [] offL k) i
def mkP (l : Launch) (D : va_G) (dA : Nat → ClassId) (n : Nat) (stA : Nat → Nat) (xs : Nat → Int32) (L : Nat) : bt_PT := (l, D, dA, fun k i => n + off k i, n, stA, xs, L)
def nm_Fo : List (Nat × Nat) := [(1, 0), (2, 0), (3, 0), (3, 1), (3, 2), (3, 3), (3, 4), (3, 5), (3, 6), (3, 7), (4, 0), (5, 0), (6, 0)]
def nm_La : List (Nat × Nat) := [(7, 0), (8, 0), (9, 0), (10, 0), (11, 0)]
def nm_S0 : List (Nat × Nat) := [(12, 0), (13, 0), (14, 0), (14, 1), (14, 2), (14, 3), (14, 4), (14, 5), (14, 6), (14, 7), (15, 0)]
def nm_S1 : List (Nat × Nat) := [(12, 1), (13, 1), (14, 8), (14, 9), (14, 10), (14, 11), (14, 12), (14, 13), (14, 14), (14, 15), (15, 1)]
def nm_Wa : List (Nat × Nat) := [(16, 0), (17, 0), (18, 0), (18, 1), (18, 2), (18, 3), (18, 4), (18, 5), (18, 6), (18, 7), (18, 8), (18, 9), (18, 10), (18, 11), (18, 12), (18, 13), (18, 14), (18, 15), (18, 16), (18, 17), (18, 18), (18, 19), (18, 20), (18, 21), (18, 22), (18, 23)]
def nm_Ch : List (Nat × Nat) := [(19, 0), (20, 0), (21, 0), (22, 0), (23, 0)]
def nm_Im : List (Nat × Nat) := [(24, 0), (25, 0), (26, 0), (27, 0), (28, 0)]
def nm_Bo : List (Nat × Nat) := [(29, 0), (30, 0), (31, 0)]
def nm_H0 : List (Nat × Nat) := [(33, 0), (34, 0)]
def nm_H1 : List (Nat × Nat) := [(33, 1), (34, 1)]
def nm_H2 : List (Nat × Nat) := [(33, 2), (34, 2)]
def nm_H3 : List (Nat × Nat) := [(33, 3), (34, 3)]
def nm_H4 : List (Nat × Nat) := [(33, 4), (34, 4)]
def nm_H5 : List (Nat × Nat) := [(33, 5), (34, 5)]
def nm_M : List (Nat × Nat) := [(35, 0), (36, 0), (37, 0), (38, 0), (39, 0), (40, 0), (41, 0), (42, 0), (43, 0), (44, 0), (45, 0), (46, 0), (47, 0), (48, 0), (49, 0), (50, 0), (51, 0), (52, 0), (53, 0), (54, 0), (55, 0), (56, 0), (57, 0), (58, 0), (59, 0), (60, 0), (61, 0), (62, 0), (63, 0), (64, 0), (65, 0), (66, 0), (67, 0), (68, 0), (69, 0)]
def nm_B : List (Nat × Nat) := (0, 0) :: ((((((((([] ++ nm_Fo) ++ nm_La) ++ nm_S0) ++ nm_S1) ++ nm_Wa) ++ nm_Ch) ++ nm_Im) ++ nm_Bo) ++ ((32, 0) :: (((((nm_H0 ++ nm_H1) ++ nm_H2) ++ nm_H3) ++ nm_H4) ++ nm_H5)))
def nm_all : List (Nat × Nat) := nm_B ++ nm_M
theorem nm_off : ∀ q ∈ bt_NMS, nm_all[off q.1 q.2]? = some q := by decide +kernel
theorem mk_ok (l : Launch) (D : va_G) (dA : Nat → ClassId) (n : Nat) (stA : Nat → Nat) (xs : Nat → Int32) (L : Nat) : bt_okP (mkP l D dA n stA xs L) := by
  refine ⟨fun a ha c hc h => ?_, fun a _ => Nat.le_add_right _ _⟩
  have h : n + off a.1 a.2 = n + off c.1 c.2 := h
  have e : off a.1 a.2 = off c.1 c.2 := by omega
  have h1 := nm_off a ha
  rw [e, nm_off c hc] at h1
  exact (Option.some.inj h1).symm
theorem eqL_cons {a c : va_E} {r t : List va_E} (h : eqE a c) (g : eqL r t) : eqL (a :: r) (c :: t) := ⟨h, g⟩
theorem eqM_app {E F : List va_E} {x y : List (Nat × Nat)} {f : Nat × Nat → va_E} (h : eqL E (x.map f)) (g : eqL F (y.map f)) : eqL (E ++ F) ((x ++ y).map f) := by
  rw [List.map_append]
  exact eqL_app h g
theorem eqM_cons {a : va_E} {r : List va_E} {q : Nat × Nat} {y : List (Nat × Nat)} {f : Nat × Nat → va_E} (h : eqE a (f q)) (g : eqL r (y.map f)) : eqL (a :: r) ((q :: y).map f) := ⟨h, g⟩
theorem eqM_nil {f : Nat × Nat → va_E} : eqL [] (([] : List (Nat × Nat)).map f) := trivial
section INI
variable (l : Launch) (D : va_G) (dA : Nat → ClassId) (n : Nat) (stA : Nat → Nat) (xs : Nat → Int32) (L : Nat)
set_option maxRecDepth 100000 in
theorem ie_Fo : eqL (ec_Fo (mkP l D dA n stA xs L) (n + 1)) (nm_Fo.map (bt_ent (mkP l D dA n stA xs L) (I0, L0))) := by
  refine eqM_cons (eqE_of rfl) ?_
  refine eqM_cons (eqE_q (fun q hq => by
    match q, hq with
    | 0, _ => rfl
    | 1, _ => rfl
    | 2, _ => rfl
    | 3, _ => rfl
    | 4, _ => rfl
    | 5, _ => rfl
    | 6, _ => rfl
    | 7, _ => rfl
    | q + 8, hq => exact absurd hq (by omega))) ?_
  refine eqM_cons (eqE_of rfl) ?_
  refine eqM_cons (eqE_of rfl) ?_
  refine eqM_cons (eqE_of rfl) ?_
  refine eqM_cons (eqE_of rfl) ?_
  refine eqM_cons (eqE_of rfl) ?_
  refine eqM_cons (eqE_of rfl) ?_
  refine eqM_cons (eqE_of rfl) ?_
  refine eqM_cons (eqE_of rfl) ?_
  refine eqM_cons (eqE_of rfl) ?_
  refine eqM_cons (eqE_of rfl) ?_
  refine eqM_cons (eqE_of rfl) ?_
  exact eqM_nil
set_option maxRecDepth 100000 in
theorem ie_La : eqL (ec_La (mkP l D dA n stA xs L) (n + 14)) (nm_La.map (bt_ent (mkP l D dA n stA xs L) (I0, L0))) := by
  refine eqM_cons (eqE_of rfl) ?_
  refine eqM_cons (eqE_of rfl) ?_
  refine eqM_cons (eqE_of rfl) ?_
  refine eqM_cons (eqE_of rfl) ?_
  refine eqM_cons (eqE_of rfl) ?_
  exact eqM_nil
set_option maxRecDepth 100000 in
theorem ie_S0 : eqL (ec_So (mkP l D dA n stA xs L) (n + 19) (n + 1) (n + 14)) (nm_S0.map (bt_ent (mkP l D dA n stA xs L) (I0, L0))) := by
  refine eqM_cons (eqE_of rfl) ?_
  refine eqM_cons (eqE_q (fun q hq => by
    match q, hq with
    | 0, _ => rfl
    | 1, _ => rfl
    | 2, _ => rfl
    | 3, _ => rfl
    | 4, _ => rfl
    | 5, _ => rfl
    | 6, _ => rfl
    | 7, _ => rfl
    | q + 8, hq => exact absurd hq (by omega))) ?_
  refine eqM_cons (eqE_of rfl) ?_
  refine eqM_cons (eqE_of rfl) ?_
  refine eqM_cons (eqE_of rfl) ?_
  refine eqM_cons (eqE_of rfl) ?_
  refine eqM_cons (eqE_of rfl) ?_
  refine eqM_cons (eqE_of rfl) ?_
  refine eqM_cons (eqE_of rfl) ?_
  refine eqM_cons (eqE_of rfl) ?_
  refine eqM_cons (eqE_of rfl) ?_
  exact eqM_nil
set_option maxRecDepth 100000 in
theorem ie_S1 : eqL (ec_So (mkP l D dA n stA xs L) (n + 30) (n + 1) (n + 14)) (nm_S1.map (bt_ent (mkP l D dA n stA xs L) (I0, L0))) := by
  refine eqM_cons (eqE_of rfl) ?_
  refine eqM_cons (eqE_q (fun q hq => by
    match q, hq with
    | 0, _ => rfl
    | 1, _ => rfl
    | 2, _ => rfl
    | 3, _ => rfl
    | 4, _ => rfl
    | 5, _ => rfl
    | 6, _ => rfl
    | 7, _ => rfl
    | q + 8, hq => exact absurd hq (by omega))) ?_
  refine eqM_cons (eqE_of rfl) ?_
  refine eqM_cons (eqE_of rfl) ?_
  refine eqM_cons (eqE_of rfl) ?_
  refine eqM_cons (eqE_of rfl) ?_
  refine eqM_cons (eqE_of rfl) ?_
  refine eqM_cons (eqE_of rfl) ?_
  refine eqM_cons (eqE_of rfl) ?_
  refine eqM_cons (eqE_of rfl) ?_
  refine eqM_cons (eqE_of rfl) ?_
  exact eqM_nil
set_option maxRecDepth 100000 in
theorem ie_Wa : eqL (ec_Wa (mkP l D dA n stA xs L) (n + 41) (n + 1)) (nm_Wa.map (bt_ent (mkP l D dA n stA xs L) (I0, L0))) := by
  refine eqM_cons (eqE_of rfl) ?_
  refine eqM_cons (eqE_q (fun q hq => by
    match q, hq with
    | 0, _ => rfl
    | 1, _ => rfl
    | 2, _ => rfl
    | 3, _ => rfl
    | 4, _ => rfl
    | 5, _ => rfl
    | 6, _ => rfl
    | 7, _ => rfl
    | 8, _ => rfl
    | 9, _ => rfl
    | 10, _ => rfl
    | 11, _ => rfl
    | 12, _ => rfl
    | 13, _ => rfl
    | 14, _ => rfl
    | 15, _ => rfl
    | 16, _ => rfl
    | 17, _ => rfl
    | 18, _ => rfl
    | 19, _ => rfl
    | 20, _ => rfl
    | 21, _ => rfl
    | 22, _ => rfl
    | 23, _ => rfl
    | q + 24, hq => exact absurd hq (by omega))) ?_
  refine eqM_cons (eqE_of rfl) ?_
  refine eqM_cons (eqE_of rfl) ?_
  refine eqM_cons (eqE_of rfl) ?_
  refine eqM_cons (eqE_of rfl) ?_
  refine eqM_cons (eqE_of rfl) ?_
  refine eqM_cons (eqE_of rfl) ?_
  refine eqM_cons (eqE_of rfl) ?_
  refine eqM_cons (eqE_of rfl) ?_
  refine eqM_cons (eqE_of rfl) ?_
  refine eqM_cons (eqE_of rfl) ?_
  refine eqM_cons (eqE_of rfl) ?_
  refine eqM_cons (eqE_of rfl) ?_
  refine eqM_cons (eqE_of rfl) ?_
  refine eqM_cons (eqE_of rfl) ?_
  refine eqM_cons (eqE_of rfl) ?_
  refine eqM_cons (eqE_of rfl) ?_
  refine eqM_cons (eqE_of rfl) ?_
  refine eqM_cons (eqE_of rfl) ?_
  refine eqM_cons (eqE_of rfl) ?_
  refine eqM_cons (eqE_of rfl) ?_
  refine eqM_cons (eqE_of rfl) ?_
  refine eqM_cons (eqE_of rfl) ?_
  refine eqM_cons (eqE_of rfl) ?_
  refine eqM_cons (eqE_of rfl) ?_
  exact eqM_nil
set_option maxRecDepth 100000 in
theorem ie_Ch : eqL (ec_Ch (mkP l D dA n stA xs L) (n + 67)) (nm_Ch.map (bt_ent (mkP l D dA n stA xs L) (I0, L0))) := by
  refine eqM_cons (eqE_of rfl) ?_
  refine eqM_cons (eqE_of rfl) ?_
  refine eqM_cons (eqE_of rfl) ?_
  refine eqM_cons (eqE_of rfl) ?_
  refine eqM_cons (eqE_of rfl) ?_
  exact eqM_nil
set_option maxRecDepth 100000 in
theorem ie_Im : eqL (ec_Im (mkP l D dA n stA xs L) (n + 72)) (nm_Im.map (bt_ent (mkP l D dA n stA xs L) (I0, L0))) := by
  refine eqM_cons (eqE_of rfl) ?_
  refine eqM_cons (eqE_of rfl) ?_
  refine eqM_cons (eqE_of rfl) ?_
  refine eqM_cons (eqE_of rfl) ?_
  refine eqM_cons (eqE_of rfl) ?_
  exact eqM_nil
set_option maxRecDepth 100000 in
theorem ie_Bo : eqL (ec_Bo (mkP l D dA n stA xs L) (n + 77)) (nm_Bo.map (bt_ent (mkP l D dA n stA xs L) (I0, L0))) := by
  refine eqM_cons (eqE_of rfl) ?_
  refine eqM_cons (eqE_of rfl) ?_
  refine eqM_cons (eqE_of rfl) ?_
  exact eqM_nil
set_option maxRecDepth 100000 in
theorem ie_H0 : eqL (ec_Sh (mkP l D dA n stA xs L) (n + 81)) (nm_H0.map (bt_ent (mkP l D dA n stA xs L) (I0, L0))) := by
  refine eqM_cons (eqE_of rfl) ?_
  refine eqM_cons (eqE_of rfl) ?_
  exact eqM_nil
set_option maxRecDepth 100000 in
theorem ie_H1 : eqL (ec_Sh (mkP l D dA n stA xs L) (n + 83)) (nm_H1.map (bt_ent (mkP l D dA n stA xs L) (I0, L0))) := by
  refine eqM_cons (eqE_of rfl) ?_
  refine eqM_cons (eqE_of rfl) ?_
  exact eqM_nil
set_option maxRecDepth 100000 in
theorem ie_H2 : eqL (ec_Sh (mkP l D dA n stA xs L) (n + 85)) (nm_H2.map (bt_ent (mkP l D dA n stA xs L) (I0, L0))) := by
  refine eqM_cons (eqE_of rfl) ?_
  refine eqM_cons (eqE_of rfl) ?_
  exact eqM_nil
set_option maxRecDepth 100000 in
theorem ie_H3 : eqL (ec_Sh (mkP l D dA n stA xs L) (n + 87)) (nm_H3.map (bt_ent (mkP l D dA n stA xs L) (I0, L0))) := by
  refine eqM_cons (eqE_of rfl) ?_
  refine eqM_cons (eqE_of rfl) ?_
  exact eqM_nil
set_option maxRecDepth 100000 in
theorem ie_H4 : eqL (ec_Sh (mkP l D dA n stA xs L) (n + 89)) (nm_H4.map (bt_ent (mkP l D dA n stA xs L) (I0, L0))) := by
  refine eqM_cons (eqE_of rfl) ?_
  refine eqM_cons (eqE_of rfl) ?_
  exact eqM_nil
set_option maxRecDepth 100000 in
theorem ie_H5 : eqL (ec_Sh (mkP l D dA n stA xs L) (n + 91)) (nm_H5.map (bt_ent (mkP l D dA n stA xs L) (I0, L0))) := by
  refine eqM_cons (eqE_of rfl) ?_
  refine eqM_cons (eqE_of rfl) ?_
  exact eqM_nil
set_option maxRecDepth 100000 in
theorem ie_M : eqL (ec_M (mkP l D dA n stA xs L) (n + 93)) (nm_M.map (bt_ent (mkP l D dA n stA xs L) (I0, L0))) := by
  refine eqM_cons (eqE_of rfl) ?_
  refine eqM_cons (eqE_of rfl) ?_
  refine eqM_cons (eqE_of rfl) ?_
  refine eqM_cons (eqE_of rfl) ?_
  refine eqM_cons (eqE_of rfl) ?_
  refine eqM_cons (eqE_of rfl) ?_
  refine eqM_cons (eqE_of rfl) ?_
  refine eqM_cons (eqE_i (fun q hq => by
    match q, hq with
    | 0, _ => rfl
    | 1, _ => rfl
    | 2, _ => rfl
    | 3, _ => rfl
    | 4, _ => rfl
    | 5, _ => rfl
    | 6, _ => rfl
    | 7, _ => rfl
    | 8, _ => rfl
    | 9, _ => rfl
    | 10, _ => rfl
    | 11, _ => rfl
    | 12, _ => rfl
    | 13, _ => rfl
    | 14, _ => rfl
    | 15, _ => rfl
    | 16, _ => rfl
    | 17, _ => rfl
    | 18, _ => rfl
    | 19, _ => rfl
    | 20, _ => rfl
    | 21, _ => rfl
    | 22, _ => rfl
    | 23, _ => rfl
    | q + 24, hq => exact absurd hq (by omega))) ?_
  refine eqM_cons (eqE_i (fun q hq => by
    match q, hq with
    | 0, _ => rfl
    | 1, _ => rfl
    | 2, _ => rfl
    | 3, _ => rfl
    | q + 4, hq => exact absurd hq (by omega))) ?_
  refine eqM_cons (eqE_of rfl) ?_
  refine eqM_cons (eqE_of rfl) ?_
  refine eqM_cons (eqE_of rfl) ?_
  refine eqM_cons (eqE_of rfl) ?_
  refine eqM_cons (eqE_of rfl) ?_
  refine eqM_cons (eqE_of rfl) ?_
  refine eqM_cons (eqE_of rfl) ?_
  refine eqM_cons (eqE_of rfl) ?_
  refine eqM_cons (eqE_of rfl) ?_
  refine eqM_cons (eqE_of rfl) ?_
  refine eqM_cons (eqE_of rfl) ?_
  refine eqM_cons (eqE_of rfl) ?_
  refine eqM_cons (eqE_of rfl) ?_
  refine eqM_cons (eqE_of rfl) ?_
  refine eqM_cons (eqE_of rfl) ?_
  refine eqM_cons (eqE_of rfl) ?_
  refine eqM_cons (eqE_of rfl) ?_
  refine eqM_cons (eqE_of rfl) ?_
  refine eqM_cons (eqE_of rfl) ?_
  refine eqM_cons (eqE_of rfl) ?_
  refine eqM_cons (eqE_of rfl) ?_
  refine eqM_cons (eqE_of rfl) ?_
  refine eqM_cons (eqE_i (fun q hq => by
    match q, hq with
    | 0, _ => rfl
    | 1, _ => rfl
    | 2, _ => rfl
    | 3, _ => rfl
    | 4, _ => rfl
    | 5, _ => rfl
    | q + 6, hq => exact absurd hq (by omega))) ?_
  refine eqM_cons (eqE_of rfl) ?_
  refine eqM_cons (eqE_of rfl) ?_
  refine eqM_cons (eqE_of rfl) ?_
  exact eqM_nil
set_option maxRecDepth 100000 in
theorem ie_B : eqL (ec_B (mkP l D dA n stA xs L) n) (nm_B.map (bt_ent (mkP l D dA n stA xs L) (I0, L0))) := by
  refine eqM_cons (eqE_of rfl) ?_
  refine eqM_app (eqM_app (eqM_app (eqM_app (eqM_app (eqM_app (eqM_app (eqM_app (eqM_app eqM_nil (ie_Fo l D dA n stA xs L)) (ie_La l D dA n stA xs L)) (ie_S0 l D dA n stA xs L)) (ie_S1 l D dA n stA xs L)) (ie_Wa l D dA n stA xs L)) (ie_Ch l D dA n stA xs L)) (ie_Im l D dA n stA xs L)) (ie_Bo l D dA n stA xs L)) (eqM_cons (eqE_q (fun q hq => by
    match q, hq with
    | 0, _ => rfl
    | 1, _ => rfl
    | 2, _ => rfl
    | 3, _ => rfl
    | 4, _ => rfl
    | 5, _ => rfl
    | q + 6, hq => exact absurd hq (by omega))) (eqM_app (eqM_app (eqM_app (eqM_app (eqM_app (ie_H0 l D dA n stA xs L) (ie_H1 l D dA n stA xs L)) (ie_H2 l D dA n stA xs L)) (ie_H3 l D dA n stA xs L)) (ie_H4 l D dA n stA xs L)) (ie_H5 l D dA n stA xs L)))
theorem ie_all : eqL (ec_B (mkP l D dA n stA xs L) n ++ ec_M (mkP l D dA n stA xs L) (n + 93)) (nm_all.map (bt_ent (mkP l D dA n stA xs L) (I0, L0))) := eqM_app (ie_B l D dA n stA xs L) (ie_M l D dA n stA xs L)
/-- behind the two constructors stands the world of I0 and L0 -/
theorem ini_P {H0 H : Heap} {locs : List Loc} (hW : rwC D n (ec_B (mkP l D dA n stA xs L) n ++ ec_M (mkP l D dA n stA xs L) (n + 93)) H0 H locs) : va_P (bt_D (mkP l D dA n stA xs L)) bt_cl (bt_wl (mkP l D dA n stA xs L) (I0, L0)) H := by
  intro t q hq
  unfold bt_wl at hq
  rw [List.getElem?_map] at hq
  cases ha : bt_NMS[t]? with
  | none => rw [ha] at hq; cases hq
  | some c =>
    rw [ha] at hq
    cases hq
    have h1 := nm_off c (List.mem_of_getElem? ha)
    obtain ⟨e, q1, q2⟩ := eqL_at (ie_all l D dA n stA xs L) (off c.1 c.2) (bt_ent (mkP l D dA n stA xs L) (I0, L0) c) (by rw [List.getElem?_map, h1]; rfl)
    exact q2 D _ H (hW.2.1 _ e q1)
end INI
