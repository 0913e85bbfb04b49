/-! THE ABSTRACT MACHINE: values, states, the world that a state stands for, one instruction as a predicate -/
abbrev bt_MI : Type := MethodName × ByteArray × Nat × Option FieldType
/-- an instruction, its length; two numbers (a class and a field; a target); its constant; a switch's targets; the called method -/
abbrev bt_E : Type := Instr × Nat × (Nat × Nat) × (Int32 × Int64) × List (Int32 × Nat) × bt_MI
abbrev av_T : Type := Int32 ⊕ (Int64 ⊕ Option (Nat × Nat))
abbrev vi (x : Int32) : av_T := .inl x
abbrev vl (x : Int64) : av_T := .inr (.inl x)
abbrev vr (k i : Nat) : av_T := .inr (.inr (some (k, i)))
abbrev vn : av_T := .inr (.inr none)
abbrev m_I : Type := Nat → Nat → Nat → Int32
abbrev m_L : Type := Nat → Nat → Nat → Int64
abbrev st_T : Type := m_I × m_L
abbrev tn (x : Int32) : Nat := x.toNatClampNeg
def ui (I : m_I) (k i j : Nat) (v : Int32) : m_I := fun a b c => if a = k then (if b = i then (if c = j then v else I a b c) else I a b c) else I a b c
def ul (I : m_L) (k i j : Nat) (v : Int64) : m_L := fun a b c => if a = k then (if b = i then (if c = j then v else I a b c) else I a b c) else I a b c
/-- a row copied -/
def uc (I : m_I) (k i : Nat) (f : Nat → Int32) : m_I := fun a b c => if a = k then (if b = i then f c else I a b c) else I a b c
def ud (I : m_L) (k i : Nat) (f : Nat → Int64) : m_L := fun a b c => if a = k then (if b = i then f c else I a b c) else I a b c
abbrev bt_PT : Type := Launch × va_G × (Nat → ClassId) × (Nat → Nat → Nat) × Nat × (Nat → Nat) × (Nat → Int32) × Nat
def bt_l (P : bt_PT) : Launch := P.1
def bt_D (P : bt_PT) : va_G := P.2.1
def bt_dA (P : bt_PT) : Nat → ClassId := P.2.2.1
def bt_ad (P : bt_PT) : Nat → Nat → Nat := P.2.2.2.1
def bt_B (P : bt_PT) : Nat := P.2.2.2.2.1
def bt_stA (P : bt_PT) : Nat → Nat := P.2.2.2.2.2.1
def bt_xs (P : bt_PT) : Nat → Int32 := P.2.2.2.2.2.2.1
def bt_xn (P : bt_PT) : Nat := P.2.2.2.2.2.2.2
/-- static arrays and (the fourth) the law's script -/
def bt_sv (P : bt_PT) (j i : Nat) : Int32 := if j = 3 then bt_xs P i else bt_SV j i
def bt_sn (P : bt_PT) (j : Nat) : Nat := if j = 3 then bt_xn P else bt_SN j
def bt_A (P : bt_PT) : Nat → Prop := fun q => bt_B P ≤ q
/-- a name's address -/
def bt_adr (P : bt_PT) (q : Nat × Nat) : Nat := if 100 ≤ q.1 then bt_stA P (q.1 - 100) else bt_ad P q.1 q.2
def bt_va (P : bt_PT) : av_T → Value
  | .inl x => .int x
  | .inr (.inl x) => .long x
  | .inr (.inr none) => .null
  | .inr (.inr (some q)) => .ref (bt_adr P q)
def bt_fv (P : bt_PT) (I : m_I) (c k i j : Nat) : Value := if bt_fk c j = 2 then va_rf ((bt_RF k i j).map (bt_adr P)) else .int (I k i j)
def bt_ent (P : bt_PT) (σ : st_T) (q : Nat × Nat) : va_E :=
  match bt_shp q.1 with
  | (0, c) => .inr (c, (List.range (bt_nf c)).map (bt_fv P σ.1 c q.1 q.2))
  | (1, n) => .inl (bt_dA P 0, n, .inl (σ.1 q.1 q.2))
  | (2, n) => .inl (bt_dA P 1, n, .inr (.inl (σ.2 q.1 q.2)))
  | (3, n) => .inl (bt_dA P 2, n, .inl (σ.1 q.1 q.2))
  | (4, n) => .inl (bt_dA P 3, n, .inl (σ.1 q.1 q.2))
  | (5, n) => .inl (bt_dA P 4, n, .inr (.inr (.inr (.inr (fun j => (bt_RF q.1 q.2 j).map (bt_adr P))))))
  | (_, n) => .inl (bt_dA P 5, n, .inr (.inr (.inr (.inr (fun j => (bt_RF q.1 q.2 j).map (bt_adr P))))))
def bt_wl (P : bt_PT) (σ : st_T) : va_W := bt_NMS.map (fun q => (bt_ad P q.1 q.2, bt_ent P σ q))
def bt_tys (P : bt_PT) : List (ClassId × FieldType) := [(bt_dA P 0, .int), (bt_dA P 1, .long), (bt_dA P 2, .byte), (bt_dA P 3, .short), (bt_dA P 4, .array .int), (bt_dA P 5, .object "BellTrees$Shelf")]
/-- the static arrays at a state and a heap -/
def bt_SF (P : bt_PT) (U : State) (H : Heap) : Prop := (∀ j, j < 3 → va_Z (bt_SC j).1 (bt_SC j).2 "[I" (.ref (bt_stA P j)) (bt_A P) U H) ∧ ∀ j, j < 4 → va_T .int (bt_stA P j) (bt_sn P j) (fun i => .int (bt_sv P j i)) (bt_A P) U H
def bt_okP (P : bt_PT) : Prop := (∀ a ∈ bt_NMS, ∀ b ∈ bt_NMS, bt_ad P a.1 a.2 = bt_ad P b.1 b.2 → a = b) ∧ ∀ a ∈ bt_NMS, bt_B P ≤ bt_ad P a.1 a.2
/-- a name of a cell that is there -/
def bt_ok (q : Nat × Nat) : Prop := q.2 < bt_cnt q.1 ∨ (100 ≤ q.1 ∧ q.1 < 104)
def bt_okv (v : av_T) : Prop := match v with
  | .inr (.inr (some q)) => bt_ok q
  | _ => True
/-- the continuations of calls, by what is answered -/
abbrev kI (f : Int32 → m_I → m_L → Prop) : Option av_T → st_T → Prop := fun r σ => match r with
  | some (.inl x) => f x σ.1 σ.2
  | _ => False
abbrev kL (f : Int64 → m_I → m_L → Prop) : Option av_T → st_T → Prop := fun r σ => match r with
  | some (.inr (.inl x)) => f x σ.1 σ.2
  | _ => False
abbrev kR (f : Option (Nat × Nat) → m_I → m_L → Prop) : Option av_T → st_T → Prop := fun r σ => match r with
  | some (.inr (.inr x)) => f x σ.1 σ.2
  | _ => False
abbrev kV (f : m_I → m_L → Prop) : Option av_T → st_T → Prop := fun r σ => match r with
  | none => f σ.1 σ.2
  | _ => False
abbrev bt_WT : Type := bt_MI → List av_T → st_T → (Option av_T → st_T → Prop) → Prop
abbrev bt_NT : Type := Nat → List (Option av_T) → List av_T → st_T → Prop
/-- loads and stores of locals -/
def bt_lg (L : List (Option av_T)) (i : Nat) : Option av_T := bt_nth none L i
def bt_isl : Option av_T → Bool
  | some (.inr (.inl _)) => true
  | _ => false
def bt_set : List (Option av_T) → Nat → Option av_T → List (Option av_T)
  | [], _, _ => []
  | _ :: r, 0, v => v :: r
  | a :: r, n + 1, v => a :: bt_set r n v
/-- a store at i may not cut a long that stands at i - 1 -/
def bt_cut (L : List (Option av_T)) (i : Nat) : Bool := match i with
  | 0 => false
  | j + 1 => bt_isl (bt_nth none L j)
def bt_li (L : List (Option av_T)) (i : Nat) (k : Int32 → Prop) : Prop := match bt_lg L i with
  | some (.inl x) => k x
  | _ => False
def bt_ll (L : List (Option av_T)) (i : Nat) (k : Int64 → Prop) : Prop := match bt_lg L i with
  | some (.inr (.inl x)) => k x
  | _ => False
def bt_la (L : List (Option av_T)) (i : Nat) (k : Option (Nat × Nat) → Prop) : Prop := match bt_lg L i with
  | some (.inr (.inr x)) => k x
  | _ => False
def bt_if (b : Bool) (p : Prop) : Prop := match b with
  | true => p
  | false => False
def bt_ife (b : Bool) (p q : Prop) : Prop := match b with
  | true => p
  | false => q
def bt_si (L : List (Option av_T)) (i : Nat) (S : List av_T) (k : List (Option av_T) → List av_T → Prop) : Prop := match S with
  | .inl x :: r => bt_if (!bt_cut L i) (k (bt_set L i (some (.inl x))) r)
  | _ => False
def bt_sa (L : List (Option av_T)) (i : Nat) (S : List av_T) (k : List (Option av_T) → List av_T → Prop) : Prop := match S with
  | .inr (.inr x) :: r => bt_if (!bt_cut L i) (k (bt_set L i (some (.inr (.inr x)))) r)
  | _ => False
def bt_sl (L : List (Option av_T)) (i : Nat) (S : List av_T) (k : List (Option av_T) → List av_T → Prop) : Prop := match S with
  | .inr (.inl x) :: r => bt_if (!bt_cut L i) (k (bt_set (bt_set L i (some (.inr (.inl x)))) (i + 1) none) r)
  | _ => False
def bt_u1 (S : List av_T) (k : Int32 → List av_T → Prop) : Prop := match S with
  | .inl x :: r => k x r
  | _ => False
def bt_uL (S : List av_T) (k : Int64 → List av_T → Prop) : Prop := match S with
  | .inr (.inl x) :: r => k x r
  | _ => False
def bt_uA (S : List av_T) (k : Option (Nat × Nat) → List av_T → Prop) : Prop := match S with
  | .inr (.inr x) :: r => k x r
  | _ => False
/-- x below y -/
def bt_u2 (S : List av_T) (k : Int32 → Int32 → List av_T → Prop) : Prop := match S with
  | .inl y :: .inl x :: r => k x y r
  | _ => False
def bt_uLL (S : List av_T) (k : Int64 → Int64 → List av_T → Prop) : Prop := match S with
  | .inr (.inl y) :: .inr (.inl x) :: r => k x y r
  | _ => False
def bt_uLI (S : List av_T) (k : Int64 → Int32 → List av_T → Prop) : Prop := match S with
  | .inl y :: .inr (.inl x) :: r => k x y r
  | _ => False
/-- an object (never null here) -/
def bt_uO (S : List av_T) (k : Nat → Nat → List av_T → Prop) : Prop := match S with
  | .inr (.inr (some q)) :: r => k q.1 q.2 r
  | _ => False
def bt_uAr (S : List av_T) (k : Nat → Nat → Int32 → List av_T → Prop) : Prop := match S with
  | .inl i :: .inr (.inr (some q)) :: r => k q.1 q.2 i r
  | _ => False
def bt_uAsI (S : List av_T) (k : Nat → Nat → Int32 → Int32 → List av_T → Prop) : Prop := match S with
  | .inl v :: .inl i :: .inr (.inr (some q)) :: r => k q.1 q.2 i v r
  | _ => False
def bt_uAsL (S : List av_T) (k : Nat → Nat → Int32 → Int64 → List av_T → Prop) : Prop := match S with
  | .inr (.inl v) :: .inl i :: .inr (.inr (some q)) :: r => k q.1 q.2 i v r
  | _ => False
def bt_tag (k : Nat) (t : Nat) (f : Nat → Prop) : Prop := bt_if (Nat.beq (bt_shp k).1 t) (f (bt_shp k).2)
/-- arguments off the stack: the last on top -/
def bt_args : Nat → List av_T → List av_T → (List av_T → List av_T → Prop) → Prop
  | 0, S, acc, k => k acc S
  | _ + 1, [], _, _ => False
  | n + 1, v :: S, acc, k => bt_args n S (v :: acc) k
def bt_cat (v : av_T) : Nat := match v with
  | .inr (.inl _) => 2
  | _ => 1
def bt_words : List av_T → Nat
  | [] => 0
  | v :: r => bt_cat v + bt_words r
/-- what a call goes on with, by its return type -/
def bt_kc (ret : Option FieldType) (Nx : List av_T → st_T → Prop) : Option av_T → st_T → Prop := match ret with
  | none => kV (fun I L => Nx [] (I, L))
  | some .int => kI (fun x I L => Nx [vi x] (I, L))
  | some .boolean => kI (fun x I L => Nx [vi x] (I, L))
  | some .long => kL (fun x I L => Nx [vl x] (I, L))
  | some (.object _) => kR (fun x I L => Nx [.inr (.inr x)] (I, L))
  | _ => fun _ _ => False
/-- the receiver: an object of the called method's own -/
def bt_isob (v : av_T) (c : Nat) : Bool := match v with
  | .inr (.inr (some q)) => Nat.beq (bt_shp q.1).1 0 && Nat.beq (bt_shp q.1).2 c && Nat.ble (q.1 + 1) 100
  | _ => false
def bt_hd (l : List av_T) : av_T := match l with
  | v :: _ => v
  | [] => vn
/-- a call: n arguments (with the receiver, where c < 100: its place among bt_cl) -/
def bt_call (WPc : bt_WT) (en : bt_E) (S : List av_T) (σ : st_T) (Nx : List av_T → st_T → Prop) : Prop :=
  bt_args en.2.2.1.1 S [] (fun As r => bt_if (Nat.ble (bt_words r) 8 && (Nat.beq en.2.2.1.2 100 || bt_isob (bt_hd As) en.2.2.1.2)) (WPc en.2.2.2.2.2 As σ (bt_kc en.2.2.2.2.2.2.2.2 (fun v σ' => Nx (v ++ r) σ'))))
def bt_sw (x : Int32) (Nx : Nat → Prop) (d : Nat) : List (Int32 × Nat) → Prop
  | [] => Nx d
  | q :: r => (x = q.1 → Nx q.2) ∧ (¬ x = q.1 → bt_sw x Nx d r)
def bt_sys : String := "java/lang/System"
/-- System.arraycopy among ints or longs -/
def bt_cpy (S : List av_T) (σ : st_T) (k : List av_T → st_T → Prop) : Prop := match S with
  | .inl n :: .inl dp :: .inr (.inr (some qd)) :: .inl sp :: .inr (.inr (some qs)) :: r =>
    bt_if (Nat.ble (qs.1 + 1) 100 && Nat.ble (qd.1 + 1) 100 && Nat.ble (bt_words r) 8) (bt_ife (Nat.beq (bt_shp qs.1).1 1 && Nat.beq (bt_shp qd.1).1 1)
      ((¬ sp < 0 ∧ ¬ dp < 0 ∧ ¬ n < 0 ∧ tn sp + tn n ≤ (bt_shp qs.1).2 ∧ tn dp + tn n ≤ (bt_shp qd.1).2) ∧ k r (uc σ.1 qd.1 qd.2 (va_cpy (σ.1 qs.1 qs.2) (σ.1 qd.1 qd.2) (tn sp) (tn dp) (tn n)), σ.2))
      (bt_if (Nat.beq (bt_shp qs.1).1 2 && Nat.beq (bt_shp qd.1).1 2)
        ((¬ sp < 0 ∧ ¬ dp < 0 ∧ ¬ n < 0 ∧ tn sp + tn n ≤ (bt_shp qs.1).2 ∧ tn dp + tn n ≤ (bt_shp qd.1).2) ∧ k r (σ.1, ud σ.2 qd.1 qd.2 (va_cpy (σ.2 qs.1 qs.2) (σ.2 qd.1 qd.2) (tn sp) (tn dp) (tn n))))))
  | _ => False
/-- one instruction; P stands for the static arrays' contents alone -/
def bt_st (P : bt_PT) (WPc : bt_WT) (K : Option av_T → st_T → Prop) (ret : Option FieldType) (en : bt_E) (pc : Nat) (L : List (Option av_T)) (S : List av_T) (σ : st_T) (Nx : bt_NT) : Prop :=
  match en.1 with
  | .iconst _ | .bipush _ | .sipush _ | .ldc _ | .ldc_w _ => Nx (pc + en.2.1) L (vi en.2.2.2.1.1 :: S) σ
  | .lconst _ | .ldc2_w _ => Nx (pc + en.2.1) L (vl en.2.2.2.1.2 :: S) σ
  | .aconst_null => Nx (pc + en.2.1) L (vn :: S) σ
  | .iload i => bt_li L i (fun x => Nx (pc + en.2.1) L (vi x :: S) σ)
  | .iload_n i => bt_li L i.1 (fun x => Nx (pc + en.2.1) L (vi x :: S) σ)
  | .lload i => bt_ll L i (fun x => Nx (pc + en.2.1) L (vl x :: S) σ)
  | .lload_n i => bt_ll L i.1 (fun x => Nx (pc + en.2.1) L (vl x :: S) σ)
  | .aload i => bt_la L i (fun x => Nx (pc + en.2.1) L (.inr (.inr x) :: S) σ)
  | .aload_n i => bt_la L i.1 (fun x => Nx (pc + en.2.1) L (.inr (.inr x) :: S) σ)
  | .istore i => bt_si L i S (fun L' S' => Nx (pc + en.2.1) L' S' σ)
  | .istore_n i => bt_si L i.1 S (fun L' S' => Nx (pc + en.2.1) L' S' σ)
  | .lstore i => bt_sl L i S (fun L' S' => Nx (pc + en.2.1) L' S' σ)
  | .lstore_n i => bt_sl L i.1 S (fun L' S' => Nx (pc + en.2.1) L' S' σ)
  | .astore i => bt_sa L i S (fun L' S' => Nx (pc + en.2.1) L' S' σ)
  | .astore_n i => bt_sa L i.1 S (fun L' S' => Nx (pc + en.2.1) L' S' σ)
  | .iinc i _ => bt_li L i (fun x => bt_if (!bt_cut L i) (Nx (pc + en.2.1) (bt_set L i (some (vi (x + en.2.2.2.1.1)))) S σ))
  | .iadd => bt_u2 S (fun x y r => Nx (pc + en.2.1) L (vi (x + y) :: r) σ)
  | .isub => bt_u2 S (fun x y r => Nx (pc + en.2.1) L (vi (x - y) :: r) σ)
  | .imul => bt_u2 S (fun x y r => Nx (pc + en.2.1) L (vi (x * y) :: r) σ)
  | .idiv => bt_u2 S (fun x y r => ¬ y = 0 ∧ Nx (pc + en.2.1) L (vi (x / y) :: r) σ)
  | .irem => bt_u2 S (fun x y r => ¬ y = 0 ∧ Nx (pc + en.2.1) L (vi (x - x / y * y) :: r) σ)
  | .ineg => bt_u1 S (fun x r => Nx (pc + en.2.1) L (vi (-x) :: r) σ)
  | .iand => bt_u2 S (fun x y r => Nx (pc + en.2.1) L (vi (x &&& y) :: r) σ)
  | .ior => bt_u2 S (fun x y r => Nx (pc + en.2.1) L (vi (x ||| y) :: r) σ)
  | .ixor => bt_u2 S (fun x y r => Nx (pc + en.2.1) L (vi (x ^^^ y) :: r) σ)
  | .ishl => bt_u2 S (fun x y r => Nx (pc + en.2.1) L (vi (x <<< (y &&& 31)) :: r) σ)
  | .ishr => bt_u2 S (fun x y r => Nx (pc + en.2.1) L (vi (x >>> (y &&& 31)) :: r) σ)
  | .iushr => bt_u2 S (fun x y r => Nx (pc + en.2.1) L (vi (x.toUInt32 >>> (y.toUInt32 &&& Int32.toUInt32 31)).toInt32 :: r) σ)
  | .ladd => bt_uLL S (fun x y r => Nx (pc + en.2.1) L (vl (x + y) :: r) σ)
  | .land => bt_uLL S (fun x y r => Nx (pc + en.2.1) L (vl (x &&& y) :: r) σ)
  | .lor => bt_uLL S (fun x y r => Nx (pc + en.2.1) L (vl (x ||| y) :: r) σ)
  | .lshl => bt_uLI S (fun x y r => Nx (pc + en.2.1) L (vl (x <<< (y.toInt64 &&& 63)) :: r) σ)
  | .lcmp => bt_uLL S (fun x y r => Nx (pc + en.2.1) L (vi (lg_cmp x y) :: r) σ)
  | .i2l => bt_u1 S (fun x r => Nx (pc + en.2.1) L (vl x.toInt64 :: r) σ)
  | .l2i => bt_uL S (fun x r => Nx (pc + en.2.1) L (vi x.toInt32 :: r) σ)
  | .i2b => bt_u1 S (fun x r => Nx (pc + en.2.1) L (vi x.toInt8.toInt32 :: r) σ)
  | .i2s => bt_u1 S (fun x r => Nx (pc + en.2.1) L (vi x.toInt16.toInt32 :: r) σ)
  | .dup => (match S with | v :: r => bt_if (Nat.beq (bt_cat v) 1) (Nx (pc + en.2.1) L (v :: v :: r) σ) | _ => False)
  | .dup2 => (match S with | v :: w :: r => bt_if (Nat.beq (bt_cat v) 1 && Nat.beq (bt_cat w) 1) (Nx (pc + en.2.1) L (v :: w :: v :: w :: r) σ) | _ => False)
  | .pop => (match S with | v :: r => bt_if (Nat.beq (bt_cat v) 1) (Nx (pc + en.2.1) L r σ) | _ => False)
  | .goto _ => Nx en.2.2.1.1 L S σ
  | .ifCond .eq _ => bt_u1 S (fun x r => (x = 0 → Nx en.2.2.1.1 L r σ) ∧ (¬ x = 0 → Nx (pc + 3) L r σ))
  | .ifCond .ne _ => bt_u1 S (fun x r => (¬ x = 0 → Nx en.2.2.1.1 L r σ) ∧ (x = 0 → Nx (pc + 3) L r σ))
  | .ifCond .lt _ => bt_u1 S (fun x r => (x < 0 → Nx en.2.2.1.1 L r σ) ∧ (¬ x < 0 → Nx (pc + 3) L r σ))
  | .ifCond .ge _ => bt_u1 S (fun x r => (0 ≤ x → Nx en.2.2.1.1 L r σ) ∧ (¬ 0 ≤ x → Nx (pc + 3) L r σ))
  | .ifCond .gt _ => bt_u1 S (fun x r => (0 < x → Nx en.2.2.1.1 L r σ) ∧ (¬ 0 < x → Nx (pc + 3) L r σ))
  | .ifCond .le _ => bt_u1 S (fun x r => (x ≤ 0 → Nx en.2.2.1.1 L r σ) ∧ (¬ x ≤ 0 → Nx (pc + 3) L r σ))
  | .if_icmp .eq _ => bt_u2 S (fun x y r => (x = y → Nx en.2.2.1.1 L r σ) ∧ (¬ x = y → Nx (pc + 3) L r σ))
  | .if_icmp .ne _ => bt_u2 S (fun x y r => (¬ x = y → Nx en.2.2.1.1 L r σ) ∧ (x = y → Nx (pc + 3) L r σ))
  | .if_icmp .lt _ => bt_u2 S (fun x y r => (x < y → Nx en.2.2.1.1 L r σ) ∧ (¬ x < y → Nx (pc + 3) L r σ))
  | .if_icmp .ge _ => bt_u2 S (fun x y r => (y ≤ x → Nx en.2.2.1.1 L r σ) ∧ (¬ y ≤ x → Nx (pc + 3) L r σ))
  | .if_icmp .gt _ => bt_u2 S (fun x y r => (y < x → Nx en.2.2.1.1 L r σ) ∧ (¬ y < x → Nx (pc + 3) L r σ))
  | .if_icmp .le _ => bt_u2 S (fun x y r => (x ≤ y → Nx en.2.2.1.1 L r σ) ∧ (¬ x ≤ y → Nx (pc + 3) L r σ))
  | .ifnull _ => bt_uA S (fun x r => (x = none → Nx en.2.2.1.1 L r σ) ∧ (¬ x = none → Nx (pc + 3) L r σ))
  | .ifnonnull _ => bt_uA S (fun x r => (¬ x = none → Nx en.2.2.1.1 L r σ) ∧ (x = none → Nx (pc + 3) L r σ))
  | .tableswitch _ _ _ _ => bt_u1 S (fun x r => bt_sw x (fun t => Nx t L r σ) en.2.2.1.1 en.2.2.2.2.1)
  | .lookupswitch _ _ => bt_u1 S (fun x r => bt_sw x (fun t => Nx t L r σ) en.2.2.1.1 en.2.2.2.2.1)
  | .getfield _ => bt_uO S (fun k i r => bt_tag k 0 (fun c => bt_if (Nat.ble (k + 1) 100 && Nat.beq c en.2.2.1.1 && Nat.ble (en.2.2.1.2 + 1) (bt_nf c)) (bt_ife (Nat.beq (bt_fk c en.2.2.1.2) 2) (Nx (pc + en.2.1) L (.inr (.inr (bt_RF k i en.2.2.1.2)) :: r) σ) (Nx (pc + en.2.1) L (vi (σ.1 k i en.2.2.1.2) :: r) σ))))
  | .putfield _ => (match S with
    | .inl x :: .inr (.inr (some q)) :: r => bt_tag q.1 0 (fun c => bt_if (Nat.ble (q.1 + 1) 100 && Nat.beq c en.2.2.1.1 && Nat.ble (en.2.2.1.2 + 1) (bt_nf c)) (bt_ife (Nat.beq (bt_fk c en.2.2.1.2) 0) (Nx (pc + en.2.1) L r (ui σ.1 q.1 q.2 en.2.2.1.2 x, σ.2)) (bt_if (Nat.beq (bt_fk c en.2.2.1.2) 1) ((x = 0 ∨ x = 1) ∧ Nx (pc + en.2.1) L r (ui σ.1 q.1 q.2 en.2.2.1.2 x, σ.2)))))
    | _ => False)
  | .getstatic _ => Nx (pc + en.2.1) L (vr (100 + en.2.2.1.1) 0 :: S) σ
  | .arraylength => bt_uO S (fun k _ r => bt_ife (Nat.ble 100 k) (Nx (pc + en.2.1) L (vi (Int32.ofNat (bt_sn P (k - 100))) :: r) σ) (bt_if (!Nat.beq (bt_shp k).1 0) (Nx (pc + en.2.1) L (vi (Int32.ofNat (bt_shp k).2) :: r) σ)))
  | .iaload => bt_uAr S (fun k i j r => bt_ife (Nat.ble 100 k) (vp_in j (bt_sn P (k - 100)) ∧ Nx (pc + en.2.1) L (vi (bt_sv P (k - 100) (tn j)) :: r) σ) (bt_tag k 1 (fun n => vp_in j n ∧ Nx (pc + en.2.1) L (vi (σ.1 k i (tn j)) :: r) σ)))
  | .laload => bt_uAr S (fun k i j r => bt_if (Nat.ble (k + 1) 100) (bt_tag k 2 (fun n => vp_in j n ∧ Nx (pc + en.2.1) L (vl (σ.2 k i (tn j)) :: r) σ)))
  | .baload => bt_uAr S (fun k i j r => bt_if (Nat.ble (k + 1) 100) (bt_tag k 3 (fun n => vp_in j n ∧ Nx (pc + en.2.1) L (vi (σ.1 k i (tn j)) :: r) σ)))
  | .saload => bt_uAr S (fun k i j r => bt_if (Nat.ble (k + 1) 100) (bt_tag k 4 (fun n => vp_in j n ∧ Nx (pc + en.2.1) L (vi (σ.1 k i (tn j)) :: r) σ)))
  | .aaload => bt_uAr S (fun k i j r => bt_if (Nat.ble (k + 1) 100 && (Nat.beq (bt_shp k).1 5 || Nat.beq (bt_shp k).1 6)) (vp_in j (bt_shp k).2 ∧ Nx (pc + en.2.1) L (.inr (.inr (bt_RF k i (tn j))) :: r) σ))
  | .iastore => bt_uAsI S (fun k i j v r => bt_if (Nat.ble (k + 1) 100) (bt_tag k 1 (fun n => vp_in j n ∧ Nx (pc + en.2.1) L r (ui σ.1 k i (tn j) v, σ.2))))
  | .bastore => bt_uAsI S (fun k i j v r => bt_if (Nat.ble (k + 1) 100) (bt_tag k 3 (fun n => vp_in j n ∧ Nx (pc + en.2.1) L r (ui σ.1 k i (tn j) v.toInt8.toInt32, σ.2))))
  | .sastore => bt_uAsI S (fun k i j v r => bt_if (Nat.ble (k + 1) 100) (bt_tag k 4 (fun n => vp_in j n ∧ Nx (pc + en.2.1) L r (ui σ.1 k i (tn j) v.toInt16.toInt32, σ.2))))
  | .lastore => bt_uAsL S (fun k i j v r => bt_if (Nat.ble (k + 1) 100) (bt_tag k 2 (fun n => vp_in j n ∧ Nx (pc + en.2.1) L r (σ.1, ul σ.2 k i (tn j) v))))
  | .invokevirtual _ => bt_if (Nat.ble (en.2.2.1.2 + 1) 100) (bt_call WPc en S σ (fun S' σ' => Nx (pc + 3) L S' σ'))
  | .invokestatic _ => bt_ife (Nat.beq en.2.2.1.2 101) (bt_cpy S σ (fun S' σ' => Nx (pc + 3) L S' σ')) (bt_ife (Nat.beq en.2.2.1.2 102) (bt_u2 S (fun x y r => bt_if (Nat.ble (bt_words r) 8) (Nx (pc + 3) L (vi (if x < y then y else x) :: r) σ)))
    (bt_ife (Nat.beq en.2.2.1.2 103) (bt_u2 S (fun x y r => bt_if (Nat.ble (bt_words r) 8) (Nx (pc + 3) L (vi (if y < x then y else x) :: r) σ))) (bt_if (Nat.beq en.2.2.1.2 100) (bt_call WPc en S σ (fun S' σ' => Nx (pc + 3) L S' σ')))))
  | .ireturn => (match S with
    | [.inl x] => (match ret with
      | some .int => K (some (vi x)) σ
      | some .boolean => (x = 0 ∨ x = 1) ∧ K (some (vi x)) σ
      | _ => False)
    | _ => False)
  | .lreturn => (match S, ret with
    | [.inr (.inl x)], some .long => K (some (vl x)) σ
    | _, _ => False)
  | .areturn => (match S, ret with
    | [.inr (.inr x)], some (.object _) => K (some (.inr (.inr x))) σ
    | _, _ => False)
  | .return_ => (match S, ret with
    | [], none => K none σ
    | _, _ => False)
  | _ => False
/-- the cut points: which locals are kept there -/
def bt_cm : List (Nat × List Nat) → Nat → Option (List Nat)
  | [], _ => none
  | a :: r, x => match Nat.beq a.1 x with
    | true => some a.2
    | false => bt_cm r x
def bt_mask : List Nat → List (Option av_T) → List (Option av_T)
  | [], _ => []
  | _ :: _, [] => []
  | 0 :: m, _ :: r => none :: bt_mask m r
  | (_ + 1) :: m, a :: r => a :: bt_mask m r
def bt_atc (o : Option (List Nat)) (g : List Nat → Prop) (q : Prop) : Prop := match o with
  | some m => g m
  | none => q
/-- the code from a place on -/
def bt_suf : List bt_E → Nat → Nat → List bt_E
  | [], _, _ => []
  | en :: r, c, t => match Nat.beq c t with
    | true => en :: r
    | false => bt_suf r (c + en.2.1) t
/-- many instructions, up to the cut points -/
def bt_ex (P : bt_PT) (WPc : bt_WT) (G : bt_NT) (K : Option av_T → st_T → Prop) (ret : Option FieldType) (T : List bt_E) (cuts : List (Nat × List Nat)) : Nat → Nat → List bt_E → List (Option av_T) → List av_T → st_T → Prop
  | 0, pc, _, L, S, σ => G pc L S σ
  | _ + 1, _, [], _, _, _ => False
  | f + 1, pc, en :: rest, L, S, σ => bt_st P WPc K ret en pc L S σ (fun pc' L' S' σ' => bt_atc (bt_cm cuts pc') (fun m => G pc' (bt_mask m L') S' σ') (bt_ife (Nat.beq pc' (pc + en.2.1)) (bt_ex P WPc G K ret T cuts f pc' rest L' S' σ') (bt_ex P WPc G K ret T cuts f pc' (bt_suf T 0 pc') L' S' σ')))
def bt_pad : Nat → List (Option av_T) → List (Option av_T)
  | 0, _ => []
  | n + 1, [] => none :: bt_pad n []
  | n + 1, a :: r => a :: bt_pad n r
